/-! Rows for the walks: shifts by name, a long's compare with its branch, a counter's step; the class's static tables. -/
def ju (x : Int64) (y : Int32) : Int64 := (x.toUInt64 >>> (y.toInt64.toUInt64 &&& Int64.toUInt64 63)).toInt64
def jl (x : Int64) (y : Int32) : Int64 := x <<< (y.toInt64 &&& 63)
def jr (x : Int64) (y : Int32) : Int64 := x >>> (y.toInt64 &&& 63)
def jui (x y : Int32) : Int32 := (x.toUInt32 >>> (y.toUInt32 &&& Int32.toUInt32 31)).toInt32
def jli (x y : Int32) : Int32 := x <<< (y &&& 31)
def jri (x y : Int32) : Int32 := x >>> (y &&& 31)
def jrem (x y : Int32) : Int32 := x - x / y * y
theorem lc_eq {x y : Int64} (h : lg_cmp x y = 0) : x = y := by
  unfold lg_cmp at h
  split at h
  · cases h
  · split at h
    · assumption
    · cases h
theorem lc_ne {x y : Int64} (h : ¬ lg_cmp x y = 0) : ¬ x = y := by
  intro e
  subst e
  apply h
  unfold lg_cmp
  rw [if_neg (by exact Int64.lt_irrefl), if_pos rfl]
section JV
variable {p : Program} {l : Launch} {e : Env} {R : Room} {s : State} {m : MethodId} {args : Array Value} {below : List Frame} {meth : Method} {c : Code} {H : Heap} {locs : List Loc} {cells slots : Nat} {Q : State → Prop}
variable {cc : ByteArray} {pc : Nat} {ls : Array Slot} {rest : List Value}
theorem jv_lushr (hexec : p.tables.exec = Jvm.exec) (hb : c.code = cc) {x : Int64} {y : Int32} (hdg : decode cc pc = .ok (.lushr, 1)) (k : W p l e R s m args below meth c H locs cells slots Q (F0 m (pc + 1) ls (.long (ju x y) :: rest))) : W p l e R s m args below meth c H locs cells slots Q (F0 m pc ls (.int y :: .long x :: rest)) := lv_lushr hexec hb hdg rfl k
theorem jv_lshl (hexec : p.tables.exec = Jvm.exec) (hb : c.code = cc) {x : Int64} {y : Int32} (hdg : decode cc pc = .ok (.lshl, 1)) (k : W p l e R s m args below meth c H locs cells slots Q (F0 m (pc + 1) ls (.long (jl x y) :: rest))) : W p l e R s m args below meth c H locs cells slots Q (F0 m pc ls (.int y :: .long x :: rest)) := lv_lshl hexec hb hdg rfl k
theorem jv_lshr (hexec : p.tables.exec = Jvm.exec) (hb : c.code = cc) {x : Int64} {y : Int32} (hdg : decode cc pc = .ok (.lshr, 1)) (k : W p l e R s m args below meth c H locs cells slots Q (F0 m (pc + 1) ls (.long (jr x y) :: rest))) : W p l e R s m args below meth c H locs cells slots Q (F0 m pc ls (.int y :: .long x :: rest)) := lv_lshr hexec hb hdg rfl k
theorem jv_iushr (hexec : p.tables.exec = Jvm.exec) (hb : c.code = cc) {x y : Int32} (hdg : decode cc pc = .ok (.iushr, 1)) (k : W p l e R s m args below meth c H locs cells slots Q (F0 m (pc + 1) ls (.int (jui x y) :: rest))) : W p l e R s m args below meth c H locs cells slots Q (F0 m pc ls (.int y :: .int x :: rest)) := lv_iushr hexec hb hdg rfl k
theorem jv_ishl (hexec : p.tables.exec = Jvm.exec) (hb : c.code = cc) {x y : Int32} (hdg : decode cc pc = .ok (.ishl, 1)) (k : W p l e R s m args below meth c H locs cells slots Q (F0 m (pc + 1) ls (.int (jli x y) :: rest))) : W p l e R s m args below meth c H locs cells slots Q (F0 m pc ls (.int y :: .int x :: rest)) := lv_ishl hexec hb hdg k
theorem jv_ishr (hexec : p.tables.exec = Jvm.exec) (hb : c.code = cc) {x y : Int32} (hdg : decode cc pc = .ok (.ishr, 1)) (k : W p l e R s m args below meth c H locs cells slots Q (F0 m (pc + 1) ls (.int (jri x y) :: rest))) : W p l e R s m args below meth c H locs cells slots Q (F0 m pc ls (.int y :: .int x :: rest)) := lv_ishr hexec hb hdg k
theorem jv_irem (hexec : p.tables.exec = Jvm.exec) (hb : c.code = cc) {x y : Int32} (hdg : decode cc pc = .ok (.irem, 1)) (hne : ¬ y = 0) (k : W p l e R s m args below meth c H locs cells slots Q (F0 m (pc + 1) ls (.int (jrem x y) :: rest))) : W p l e R s m args below meth c H locs cells slots Q (F0 m pc ls (.int y :: .int x :: rest)) := lv_irem hexec hb hdg hne k
theorem jv_i2l (hexec : p.tables.exec = Jvm.exec) (hb : c.code = cc) {x : Int32} (hdg : decode cc pc = .ok (.i2l, 1)) (k : W p l e R s m args below meth c H locs cells slots Q (F0 m (pc + 1) ls (.long x.toInt64 :: rest))) : W p l e R s m args below meth c H locs cells slots Q (F0 m pc ls (.int x :: rest)) := lv_i2l hexec hb hdg rfl k
theorem jv_l2i (hexec : p.tables.exec = Jvm.exec) (hb : c.code = cc) {x : Int64} (hdg : decode cc pc = .ok (.l2i, 1)) (k : W p l e R s m args below meth c H locs cells slots Q (F0 m (pc + 1) ls (.int x.toInt32 :: rest))) : W p l e R s m args below meth c H locs cells slots Q (F0 m pc ls (.long x :: rest)) := lv_l2i hexec hb hdg rfl k
/-- two longs are compared, and the branch is taken where they are equal -/
theorem jv_lceq (hexec : p.tables.exec = Jvm.exec) (hb : c.code = cc) {x y : Int64} {off : Int} {tgt : Nat} (h1 : decode cc pc = .ok (.lcmp, 1)) (h2 : decode cc (pc + 1) = .ok (.ifCond .eq off, 3)) (ht : ((pc + 1 : Nat) : Int) + off = (tgt : Int))
    (kt : x = y → W p l e R s m args below meth c H locs cells slots Q (F0 m tgt ls rest)) (kf : ¬ x = y → W p l e R s m args below meth c H locs cells slots Q (F0 m (pc + 4) ls rest)) : W p l e R s m args below meth c H locs cells slots Q (F0 m pc ls (.long y :: .long x :: rest)) :=
  W.lcmp hexec hb h1 (lv_if_eq hexec hb h2 ht (fun h => kt (lc_eq h)) (fun h => kf (lc_ne h)))
theorem jv_lcne (hexec : p.tables.exec = Jvm.exec) (hb : c.code = cc) {x y : Int64} {off : Int} {tgt : Nat} (h1 : decode cc pc = .ok (.lcmp, 1)) (h2 : decode cc (pc + 1) = .ok (.ifCond .ne off, 3)) (ht : ((pc + 1 : Nat) : Int) + off = (tgt : Int))
    (kt : ¬ x = y → W p l e R s m args below meth c H locs cells slots Q (F0 m tgt ls rest)) (kf : x = y → W p l e R s m args below meth c H locs cells slots Q (F0 m (pc + 4) ls rest)) : W p l e R s m args below meth c H locs cells slots Q (F0 m pc ls (.long y :: .long x :: rest)) :=
  W.lcmp hexec hb h1 (lv_if_ne hexec hb h2 ht (fun h => kt (lc_ne h)) (fun h => kf (lc_eq h)))
/-- a counter's step: the new number gets a name -/
theorem jv_iinc (hexec : p.tables.exec = Jvm.exec) (hb : c.code = cc) {i nL k : Nat} {n : Int} {x a : Int32} {lv : List (Nat × Value)} (hdg : decode cc pc = .ok (.iinc i n, 3)) (h : lv_has ls nL lv) (hk : lv[k]? = some (i, .int x)) (hn : i < nL) (ha : Int32.ofInt n = a)
    (kk : ∀ (v : Int32), v = x + a → ∀ ls' : Array Slot, lv_has ls' nL ((i, Value.int v) :: lv.filter (fun q => !(q.1 == i) && !(q.1 + 1 == i && q.2.category == 2))) → W p l e R s m args below meth c H locs cells slots Q (F0 m (pc + 3) ls' rest)) : W p l e R s m args below meth c H locs cells slots Q (F0 m pc ls rest) := by
  subst ha
  exact lv_iinc hexec hb hdg h hk rfl hn rfl (fun ls' h' => kk _ rfl ls' h')
end JV
/-! the four tables of the class -/
def l_FIRST : List Int32 := [0, 1277, 4137, 4995, 5853, 5863, 7140, 7296, 7452, 7462]
def l_SETS : List Int32 := [1020, 384, 144, 64, 1020, 4, 24, 4, 4]
def l_STRP : List Int32 := [0, 5, 20, 55, 125, 251, 461, 791, 792, 1286]
def l_CHOOSE : List Int32 := [0, 1, 2, 3, 4, 5, 6, 7, 8, 9, 10, 11, 12, 0, 0, 1, 3, 6, 10, 15, 21, 28, 36, 45, 55, 66, 0, 0, 0, 1, 4, 10, 20, 35, 56, 84, 120, 165, 220, 0, 0, 0, 0, 1, 5, 15, 35, 70, 126, 210, 330, 495, 0, 0, 0, 0, 0, 1, 6, 21, 56, 126, 252, 462, 792]
def ta_A : Nat → Prop := fun _ => False
def ta_1 (n : String) (xs : List Int32) (t : Nat) (U : State) : Prop := va_Z "HandTables" n "[I" (.ref t) ta_A U U.heap ∧ va_T .int t xs.length (fun j => .int (xs.getD j 0)) ta_A U U.heap
def ta_F (U : State) : Prop := (∃ t, ta_1 "FIRST" l_FIRST t U) ∧ (∃ t, ta_1 "SETS" l_SETS t U) ∧ (∃ t, ta_1 "STRAIGHT_PLACES" l_STRP t U) ∧ ∃ t, ta_1 "CHOOSE" l_CHOOSE t U
theorem ta_1m {n : String} {xs : List Int32} {t : Nat} {u U : State} (hvm : u.vm.Alike U.vm) (hh : U.heap = u.heap) (h : ta_1 n xs t u) : ta_1 n xs t U := by
  obtain ⟨h1, h2⟩ := h
  have g1 := va_Z.moved hvm h1
  have g2 := va_T.moved hvm h2
  unfold ta_1
  rw [hh]
  exact ⟨g1, g2⟩
theorem bl_ta : bl_F ta_F := by
  intro u U hvm hh h
  obtain ⟨⟨t1, h1⟩, ⟨t2, h2⟩, ⟨t3, h3⟩, ⟨t4, h4⟩⟩ := h
  exact ⟨⟨t1, ta_1m hvm.alike hh h1⟩, ⟨t2, ta_1m hvm.alike hh h2⟩, ⟨t3, ta_1m hvm.alike hh h3⟩, ⟨t4, ta_1m hvm.alike hh h4⟩⟩
section TA
variable {p : Program} {l : Launch} {e : Env} {R : Room} {s : State} {m : MethodId} {args : Array Value} {below : List Frame} {meth : Method} {c : Code} {cells slots : Nat} {Q : State → Prop}
variable {cc : ByteArray} {pc : Nat} {ls : Array Slot} {rest : List Value}
theorem ta_get (hexec : p.tables.exec = Jvm.exec) (hb : c.code = cc) {n own : String} {xs : List Int32} {t index : Nat} (h : ta_1 n xs t s) (hown : s.vm.findClass own = some m.cls) (hlink : (Cond.fieldLink own index "HandTables" n "[I").before args s = true) (hdg : decode cc pc = .ok (.getstatic index, 3))
    (kk : W p l e R s m args below meth c s.heap [] cells slots Q (F0 m (pc + 3) ls (.ref t :: rest))) : W p l e R s m args below meth c s.heap [] cells slots Q (F0 m pc ls rest) :=
  va_gets hexec hb h.1 va_S.rf hown hlink (fun _ h => h) hdg kk
theorem ta_ld (hexec : p.tables.exec = Jvm.exec) (hb : c.code = cc) {n : String} {xs : List Int32} {t : Nat} (h : ta_1 n xs t s) {i : Int32} (hin : vp_in i xs.length) (hdg : decode cc pc = .ok (.iaload, 1))
    (kk : W p l e R s m args below meth c s.heap [] cells slots Q (F0 m (pc + 1) ls (.int (xs.getD i.toNatClampNeg 0) :: rest))) : W p l e R s m args below meth c s.heap [] cells slots Q (F0 m pc ls (.int i :: .ref t :: rest)) :=
  va_ti hexec hb h.2 va_S.rf hin rfl hdg kk
theorem ta_len (hexec : p.tables.exec = Jvm.exec) (hb : c.code = cc) {n : String} {xs : List Int32} {t : Nat} (h : ta_1 n xs t s) (hdg : decode cc pc = .ok (.arraylength, 1))
    (kk : W p l e R s m args below meth c s.heap [] cells slots Q (F0 m (pc + 1) ls (.int (Int32.ofNat xs.length) :: rest))) : W p l e R s m args below meth c s.heap [] cells slots Q (F0 m pc ls (.ref t :: rest)) :=
  va_tlen hexec hb h.2 va_S.rf rfl hdg kk
end TA
