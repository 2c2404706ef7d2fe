/-! BASE: numbers, rows of walks in them, contracts over a world -/
def zI (z : Int) : Int32 := Int32.ofInt z
def zL (z : Int) : Int64 := Int64.ofInt z
theorem nI_zI (n : Nat) : nI n = zI (n : Int) := (Int32.ofInt_eq_ofNat).symm
theorem zI_add (a b : Int) : zI a + zI b = zI (a + b) := (Int32.ofInt_add a b).symm
theorem zI_sub (a b : Int) : zI a - zI b = zI (a - b) := (Int32.ofInt_sub a b).symm
theorem zI_mul (a b : Int) : zI a * zI b = zI (a * b) := (Int32.ofInt_mul a b).symm
theorem zI_neg (a : Int) : - zI a = zI (-a) := (Int32.ofInt_neg a).symm
theorem zI_toInt {a : Int} (h1 : -2147483648 ≤ a) (h2 : a < 2147483648) : (zI a).toInt = a := Int32.toInt_ofInt_of_le (by omega) (by omega)
theorem zI_of (x : Int32) : zI x.toInt = x := Int32.ofInt_toInt x
theorem zI_lt {a b : Int} (ha : -2147483648 ≤ a ∧ a < 2147483648) (hb : -2147483648 ≤ b ∧ b < 2147483648) : zI a < zI b ↔ a < b := by
  rw [Int32.lt_iff_toInt_lt, zI_toInt ha.1 ha.2, zI_toInt hb.1 hb.2]
theorem zI_le {a b : Int} (ha : -2147483648 ≤ a ∧ a < 2147483648) (hb : -2147483648 ≤ b ∧ b < 2147483648) : zI a ≤ zI b ↔ a ≤ b := by
  rw [Int32.le_iff_toInt_le, zI_toInt ha.1 ha.2, zI_toInt hb.1 hb.2]
theorem zI_eq {a b : Int} (ha : -2147483648 ≤ a ∧ a < 2147483648) (hb : -2147483648 ≤ b ∧ b < 2147483648) : zI a = zI b ↔ a = b := by
  constructor
  · intro h
    have := congrArg Int32.toInt h
    rwa [zI_toInt ha.1 ha.2, zI_toInt hb.1 hb.2] at this
  · intro h
    rw [h]
theorem zI_rng (x : Int32) : -2147483648 ≤ x.toInt ∧ x.toInt < 2147483648 := ⟨by have := x.minValue_le_toInt; have h : Int32.minValue.toInt = -2147483648 := (by decide); omega, by have := x.toInt_le; have h : Int32.maxValue.toInt = 2147483647 := (by decide); omega⟩
theorem zL_rng (x : Int64) : -9223372036854775808 ≤ x.toInt ∧ x.toInt < 9223372036854775808 := ⟨by have := x.minValue_le_toInt; have h : Int64.minValue.toInt = -9223372036854775808 := (by decide); omega, by have := x.toInt_le; have h : Int64.maxValue.toInt = 9223372036854775807 := (by decide); omega⟩
theorem zL_add (a b : Int) : zL a + zL b = zL (a + b) := (Int64.ofInt_add a b).symm
theorem zL_sub (a b : Int) : zL a - zL b = zL (a - b) := (Int64.ofInt_sub a b).symm
theorem zL_mul (a b : Int) : zL a * zL b = zL (a * b) := (Int64.ofInt_mul a b).symm
theorem zL_neg (a : Int) : - zL a = zL (-a) := (Int64.ofInt_neg a).symm
theorem zL_toInt {a : Int} (h1 : -9223372036854775808 ≤ a) (h2 : a < 9223372036854775808) : (zL a).toInt = a := Int64.toInt_ofInt_of_le (by omega) (by omega)
theorem zL_of (x : Int64) : zL x.toInt = x := Int64.ofInt_toInt x
theorem zL_i (x : Int32) : x.toInt64 = zL x.toInt := (Int64.ofInt_int32ToInt x).symm
theorem zL_zI {a : Int} (h1 : -2147483648 ≤ a) (h2 : a < 2147483648) : (zI a).toInt64 = zL a := by rw [zL_i, zI_toInt h1 h2]
theorem zL_nI {n : Nat} (h : n < 2147483648) : (nI n).toInt64 = zL (n : Int) := by rw [nI_zI, zL_zI (by omega) (by omega)]
theorem zL_toI (a : Int) : (zL a).toInt32 = zI a := Int64.toInt32_ofInt
theorem zL_eq {a b : Int} (ha : -9223372036854775808 ≤ a ∧ a < 9223372036854775808) (hb : -9223372036854775808 ≤ b ∧ b < 9223372036854775808) : zL a = zL b ↔ a = b := by
  constructor
  · intro h
    have := congrArg Int64.toInt h
    rwa [zL_toInt ha.1 ha.2, zL_toInt hb.1 hb.2] at this
  · intro h
    rw [h]
theorem nI_inc (i : Nat) : nI i + Int32.ofInt 1 = nI (i + 1) := nI_1 i
theorem nI_dec (i : Nat) : nI (i + 1) + Int32.ofInt (-1) = nI i := pk_m1 i
theorem nI_inc5 (i : Nat) : nI i + Int32.ofInt 5 = nI (i + 5) := nI_add i 5
theorem zI_inc (i : Int) : zI i + Int32.ofInt 1 = zI (i + 1) := zI_add i 1
theorem nI_iff (n : Nat) (k : Int) (h : (n : Int) = k) : Int32.ofInt k = nI n := by subst h; exact Int32.ofInt_eq_ofNat
theorem nI_b8 (n : Nat) (k : Int) (h : (n : Int) = k) (h2 : n < 128) : (Int8.ofInt k).toInt32 = nI n := by
  subst h
  rw [nI_zI, zI, Int8.toInt32_ofInt (by have : Int8.minValue.toInt = -128 := by decide
                                        omega) (by have : Int8.maxValue.toInt = 127 := by decide
                                                   omega)]
theorem nI_b16 (n : Nat) (k : Int) (h : (n : Int) = k) (h2 : n < 32768) : (Int16.ofInt k).toInt32 = nI n := by
  subst h
  rw [nI_zI, zI, Int16.toInt32_ofInt (by have : Int16.minValue.toInt = -32768 := by decide
                                         omega) (by have : Int16.maxValue.toInt = 32767 := by decide
                                                    omega)]
/-- the whole number below n that x leaves -/
def fmN (x : Int) (n : Nat) : Nat := (x % (n : Int)).toNat
theorem fmN_lt (x : Int) {n : Nat} (h : 0 < n) : fmN x n < n := by
  unfold fmN
  have h1 := Int.emod_lt_of_pos x (show (0 : Int) < (n : Int) by omega)
  have h2 := Int.emod_nonneg x (show (n : Int) ≠ 0 by omega)
  omega
theorem fmN_cast (x : Int) {n : Nat} (h : 0 < n) : ((fmN x n : Nat) : Int) = x % (n : Int) := by
  unfold fmN
  have h2 := Int.emod_nonneg x (show (n : Int) ≠ 0 by omega)
  omega
theorem fmN_nat (a n : Nat) : fmN (a : Int) n = a % n := by
  unfold fmN
  omega
section BASE
variable {p : Program} {l : Launch} {e : Env} {R : Room} {s : State} {m : MethodId} {args : Array Value} {below : List Frame} {meth : Method} {c : Code} {H : Heap} {locs : List Loc} {cells slots : Nat} {Q : State → Prop}
variable {cc : ByteArray} {pc : Nat} {ls : Array Slot} {rest : List Value} {D : va_G} {cl : List vw_C} {A : Nat → Prop} {a : Nat} {tys : List (ClassId × FieldType)} {ws : va_W} {H0 : Heap}

theorem tq_i {x y : Int32} (h : x = y) (k : W p l e R s m args below meth c H locs cells slots Q (F0 m pc ls (.int y :: rest))) : W p l e R s m args below meth c H locs cells slots Q (F0 m pc ls (.int x :: rest)) := by
  rw [h]; exact k
theorem tq_l {x y : Int64} (h : x = y) (k : W p l e R s m args below meth c H locs cells slots Q (F0 m pc ls (.long y :: rest))) : W p l e R s m args below meth c H locs cells slots Q (F0 m pc ls (.long x :: rest)) := by
  rw [h]; exact k
theorem tq_i2 {v : Value} {x y : Int32} (h : x = y) (k : W p l e R s m args below meth c H locs cells slots Q (F0 m pc ls (v :: .int y :: rest))) : W p l e R s m args below meth c H locs cells slots Q (F0 m pc ls (v :: .int x :: rest)) := by
  rw [h]; exact k
theorem tq_v {v w : Value} (h : v = w) (k : W p l e R s m args below meth c H locs cells slots Q (F0 m pc ls (w :: rest))) : W p l e R s m args below meth c H locs cells slots Q (F0 m pc ls (v :: rest)) := by
  rw [h]; exact k
theorem nv_iconst (hx : p.tables.exec = Jvm.exec) (hb : c.code = cc) {n : Int} {k : Nat} (hdg : decode cc pc = .ok (.iconst n, 1)) (hn : (k : Int) = n) (kk : W p l e R s m args below meth c H locs cells slots Q (F0 m (pc + 1) ls (.int (nI k) :: rest))) : W p l e R s m args below meth c H locs cells slots Q (F0 m pc ls (rest)) := lv_iconst hx hb hdg (nI_iff k n hn) kk
theorem nv_bipush (hx : p.tables.exec = Jvm.exec) (hb : c.code = cc) {n : Int} {k : Nat} (hdg : decode cc pc = .ok (.bipush n, 2)) (hn : (k : Int) = n) (hk : k < 128) (kk : W p l e R s m args below meth c H locs cells slots Q (F0 m (pc + 2) ls (.int (nI k) :: rest))) : W p l e R s m args below meth c H locs cells slots Q (F0 m pc ls (rest)) := lv_bipush hx hb hdg (nI_b8 k n hn hk) kk
theorem nv_sipush (hx : p.tables.exec = Jvm.exec) (hb : c.code = cc) {n : Int} {k : Nat} (hdg : decode cc pc = .ok (.sipush n, 3)) (hn : (k : Int) = n) (hk : k < 32768) (kk : W p l e R s m args below meth c H locs cells slots Q (F0 m (pc + 3) ls (.int (nI k) :: rest))) : W p l e R s m args below meth c H locs cells slots Q (F0 m pc ls (rest)) := lv_sipush hx hb hdg (nI_b16 k n hn hk) kk
theorem nv_iadd (hx : p.tables.exec = Jvm.exec) (hb : c.code = cc) {a b : Nat} (hdg : decode cc pc = .ok (.iadd, 1)) (kk : W p l e R s m args below meth c H locs cells slots Q (F0 m (pc + 1) ls (.int (nI (a + b)) :: rest))) : W p l e R s m args below meth c H locs cells slots Q (F0 m pc ls (.int (nI b) :: .int (nI a) :: rest)) := lv_iadd hx hb hdg (tq_i (nI_add a b) kk)
theorem nv_isub (hx : p.tables.exec = Jvm.exec) (hb : c.code = cc) {a b : Nat} (h : b ≤ a) (hdg : decode cc pc = .ok (.isub, 1)) (kk : W p l e R s m args below meth c H locs cells slots Q (F0 m (pc + 1) ls (.int (nI (a - b)) :: rest))) : W p l e R s m args below meth c H locs cells slots Q (F0 m pc ls (.int (nI b) :: .int (nI a) :: rest)) := lv_isub hx hb hdg (tq_i (pk_sub h) kk)
theorem nv_imul (hx : p.tables.exec = Jvm.exec) (hb : c.code = cc) {a b : Nat} (hdg : decode cc pc = .ok (.imul, 1)) (kk : W p l e R s m args below meth c H locs cells slots Q (F0 m (pc + 1) ls (.int (nI (a * b)) :: rest))) : W p l e R s m args below meth c H locs cells slots Q (F0 m pc ls (.int (nI b) :: .int (nI a) :: rest)) := lv_imul hx hb hdg (tq_i (pk_mul a b) kk)
theorem nv_irem (hx : p.tables.exec = Jvm.exec) (hb : c.code = cc) {a b : Nat} (ha : a < 2147483648) (h0 : 0 < b) (hb2 : b < 2147483648) (hdg : decode cc pc = .ok (.irem, 1)) (kk : W p l e R s m args below meth c H locs cells slots Q (F0 m (pc + 1) ls (.int (nI (a % b)) :: rest))) : W p l e R s m args below meth c H locs cells slots Q (F0 m pc ls (.int (nI b) :: .int (nI a) :: rest)) := lv_irem hx hb hdg (nI_ne0 h0 hb2) (tq_i (pk_rem ha h0 hb2) kk)
theorem nv_idiv (hx : p.tables.exec = Jvm.exec) (hb : c.code = cc) {a b : Nat} (ha : a < 2147483648) (h0 : 0 < b) (hb2 : b < 2147483648) (hdg : decode cc pc = .ok (.idiv, 1)) (kk : W p l e R s m args below meth c H locs cells slots Q (F0 m (pc + 1) ls (.int (nI (a / b)) :: rest))) : W p l e R s m args below meth c H locs cells slots Q (F0 m pc ls (.int (nI b) :: .int (nI a) :: rest)) := lv_idiv hx hb hdg (nI_ne0 h0 hb2) (tq_i (pk_div ha h0 hb2) kk)
theorem zv_iadd (hx : p.tables.exec = Jvm.exec) (hb : c.code = cc) {a b : Int} (hdg : decode cc pc = .ok (.iadd, 1)) (kk : W p l e R s m args below meth c H locs cells slots Q (F0 m (pc + 1) ls (.int (zI (a + b)) :: rest))) : W p l e R s m args below meth c H locs cells slots Q (F0 m pc ls (.int (zI b) :: .int (zI a) :: rest)) := lv_iadd hx hb hdg (tq_i (zI_add a b) kk)
theorem zv_isub (hx : p.tables.exec = Jvm.exec) (hb : c.code = cc) {a b : Int} (hdg : decode cc pc = .ok (.isub, 1)) (kk : W p l e R s m args below meth c H locs cells slots Q (F0 m (pc + 1) ls (.int (zI (a - b)) :: rest))) : W p l e R s m args below meth c H locs cells slots Q (F0 m pc ls (.int (zI b) :: .int (zI a) :: rest)) := lv_isub hx hb hdg (tq_i (zI_sub a b) kk)
theorem zv_imul (hx : p.tables.exec = Jvm.exec) (hb : c.code = cc) {a b : Int} (hdg : decode cc pc = .ok (.imul, 1)) (kk : W p l e R s m args below meth c H locs cells slots Q (F0 m (pc + 1) ls (.int (zI (a * b)) :: rest))) : W p l e R s m args below meth c H locs cells slots Q (F0 m pc ls (.int (zI b) :: .int (zI a) :: rest)) := lv_imul hx hb hdg (tq_i (zI_mul a b) kk)
theorem zv_ineg (hx : p.tables.exec = Jvm.exec) (hb : c.code = cc) {a : Int} (hdg : decode cc pc = .ok (.ineg, 1)) (kk : W p l e R s m args below meth c H locs cells slots Q (F0 m (pc + 1) ls (.int (zI (-a)) :: rest))) : W p l e R s m args below meth c H locs cells slots Q (F0 m pc ls (.int (zI a) :: rest)) := lv_ineg hx hb hdg (tq_i (zI_neg a) kk)
theorem zv_2 {v w : Int32} {a b : Int} (h1 : v = zI a) (h2 : w = zI b) (kk : W p l e R s m args below meth c H locs cells slots Q (F0 m pc ls (.int (zI a) :: .int (zI b) :: rest))) : W p l e R s m args below meth c H locs cells slots Q (F0 m pc ls (.int v :: .int w :: rest)) := by
  rw [h1, h2]; exact kk
theorem zv_1 {v : Int32} {a : Int} (h1 : v = zI a) (kk : W p l e R s m args below meth c H locs cells slots Q (F0 m pc ls (.int (zI a) :: rest))) : W p l e R s m args below meth c H locs cells slots Q (F0 m pc ls (.int v :: rest)) := by
  rw [h1]; exact kk
theorem nv_iald (hx : p.tables.exec = Jvm.exec) (hb : c.code = cc) (hK : va_K D cl tys s) (hP : va_P D cl ws H) (q0 t0 : Nat) {cA : ClassId} {n : Nat} {f : Nat → Int32} (ha : ws[q0]? = some (a, .inl (cA, n, .inl f))) (ht : tys[t0]? = some (cA, .int)) {i : Nat} (hi : i < n) (hn : n < 2147483648) {v : Int32} (hv : f i = v) (hdg : decode cc pc = .ok (.iaload, 1)) (kk : W p l e R s m args below meth c H locs cells slots Q (F0 m (pc + 1) ls (.int v :: rest))) : W p l e R s m args below meth c H locs cells slots Q (F0 m pc ls (.int (nI i) :: .ref a :: rest)) :=
  va_iald hx hb hK hP q0 t0 ha ht (vp_in_nI hi hn) hdg (tq_i (by rw [nI_clamp (by omega)]; exact hv) kk)
theorem nv_lald (hx : p.tables.exec = Jvm.exec) (hb : c.code = cc) (hK : va_K D cl tys s) (hP : va_P D cl ws H) (q0 t0 : Nat) {cA : ClassId} {n : Nat} {f : Nat → Int64} (ha : ws[q0]? = some (a, .inl (cA, n, .inr (.inl f)))) (ht : tys[t0]? = some (cA, .long)) {i : Nat} (hi : i < n) (hn : n < 2147483648) {v : Int64} (hv : f i = v) (hdg : decode cc pc = .ok (.laload, 1)) (kk : W p l e R s m args below meth c H locs cells slots Q (F0 m (pc + 1) ls (.long v :: rest))) : W p l e R s m args below meth c H locs cells slots Q (F0 m pc ls (.int (nI i) :: .ref a :: rest)) :=
  va_lald hx hb hK hP q0 t0 ha ht (vp_in_nI hi hn) hdg (tq_l (by rw [nI_clamp (by omega)]; exact hv) kk)
theorem nv_iast (hx : p.tables.exec = Jvm.exec) (hb : c.code = cc) (hK : va_K D cl tys s) (hP : va_P D cl ws H) (hD : va_D A ws) (hS : va_S A H0 H locs) (q0 t0 : Nat) {cA : ClassId} {n : Nat} {f : Nat → Int32} (ha : ws[q0]? = some (a, .inl (cA, n, .inl f))) (ht : tys[t0]? = some (cA, .int)) {i : Nat} {x : Int32} (hi : i < n) (hn : n < 2147483648) {ws' : va_W} (hw : ws.set q0 (a, .inl (cA, n, .inl (upd f i x))) = ws') (hdg : decode cc pc = .ok (.iastore, 1))
    (kk : ∀ (H1 : Heap) (locs1 : List Loc), va_P D cl ws' H1 → va_D A ws' → va_S A H0 H1 locs1 → W p l e R s m args below meth c H1 locs1 cells slots Q (F0 m (pc + 1) ls rest)) : W p l e R s m args below meth c H locs cells slots Q (F0 m pc ls (.int x :: .int (nI i) :: .ref a :: rest)) := by
  subst hw
  refine va_iast hx hb hK hP hD hS q0 t0 ha ht (vp_in_nI hi hn) hdg ?_
  rw [nI_clamp (by omega)]
  exact kk
theorem nv_last (hx : p.tables.exec = Jvm.exec) (hb : c.code = cc) (hK : va_K D cl tys s) (hP : va_P D cl ws H) (hD : va_D A ws) (hS : va_S A H0 H locs) (q0 t0 : Nat) {cA : ClassId} {n : Nat} {f : Nat → Int64} (ha : ws[q0]? = some (a, .inl (cA, n, .inr (.inl f)))) (ht : tys[t0]? = some (cA, .long)) {i : Nat} {x : Int64} (hi : i < n) (hn : n < 2147483648) {ws' : va_W} (hw : ws.set q0 (a, .inl (cA, n, .inr (.inl (vp_updL f i x)))) = ws') (hdg : decode cc pc = .ok (.lastore, 1))
    (kk : ∀ (H1 : Heap) (locs1 : List Loc), va_P D cl ws' H1 → va_D A ws' → va_S A H0 H1 locs1 → W p l e R s m args below meth c H1 locs1 cells slots Q (F0 m (pc + 1) ls rest)) : W p l e R s m args below meth c H locs cells slots Q (F0 m pc ls (.long x :: .int (nI i) :: .ref a :: rest)) := by
  subst hw
  refine va_last hx hb hK hP hD hS q0 t0 ha ht (vp_in_nI hi hn) hdg ?_
  rw [nI_clamp (by omega)]
  exact kk
/-- a row of rows: the row at i -/
theorem nv_aald (hx : p.tables.exec = Jvm.exec) (hb : c.code = cc) (hK : va_K D cl tys s) (hP : va_P D cl ws H) (q0 t0 : Nat) {cA : ClassId} {ty : FieldType} {n : Nat} {f : Nat → Option Nat} (ha : ws[q0]? = some (a, .inl (cA, n, .inr (.inr (.inr (.inr f)))))) (ht : tys[t0]? = some (cA, .array ty)) {i : Nat} (hi : i < n) (hn : n < 2147483648) {v : Nat} (hv : f i = some v) (hdg : decode cc pc = .ok (.aaload, 1)) (kk : W p l e R s m args below meth c H locs cells slots Q (F0 m (pc + 1) ls (.ref v :: rest))) : W p l e R s m args below meth c H locs cells slots Q (F0 m pc ls (.int (nI i) :: .ref a :: rest)) := by
  have hin := vp_in_nI hi hn
  have hcl : (nI i).toNatClampNeg = i := nI_clamp (by omega)
  have hlt : (nI i).toNatClampNeg < n := by rw [hcl]; exact hi
  refine W.aald (v := va_rf (f (nI i).toNatClampNeg)) (ty := .array ty) hx hb (hP q0 _ ha) ((hK.2 t0 _ ht).1 n (fun j => va_rf (f j))) rfl (fun q => by cases q) (by show ¬ (nI i < 0 ∨ (arrV _ _ _).slots.size ≤ _); rw [arrV_size]; exact hin) (by show (arrV _ _ _).slots[_]? = _; rw [arrV_read _ _ hlt]) rfl rfl hdg ?_
  rw [hcl, hv]
  exact kk

theorem nv_icmp_lt (hx : p.tables.exec = Jvm.exec) (hb : c.code = cc) {a b : Nat} (ha : a < 2147483648) (hbb : b < 2147483648) {off : Int} {tgt : Nat} (hdg : decode cc pc = .ok (.if_icmp .lt off, 3)) (ht : (pc : Int) + off = (tgt : Int)) (kt : a < b → W p l e R s m args below meth c H locs cells slots Q (F0 m tgt ls rest)) (kf : ¬ a < b → W p l e R s m args below meth c H locs cells slots Q (F0 m (pc + 3) ls rest)) : W p l e R s m args below meth c H locs cells slots Q (F0 m pc ls (.int (nI b) :: .int (nI a) :: rest)) :=
  lv_icmp_lt hx hb hdg ht (fun h => kt ((show nI a < nI b ↔ a < b from nI_ltI ha hbb).mp h)) (fun h => kf (fun q => h ((show nI a < nI b ↔ a < b from nI_ltI ha hbb).mpr q)))
theorem zv_icmp_lt (hx : p.tables.exec = Jvm.exec) (hb : c.code = cc) {a b : Int} (ha : -2147483648 ≤ a ∧ a < 2147483648) (hbb : -2147483648 ≤ b ∧ b < 2147483648) {off : Int} {tgt : Nat} (hdg : decode cc pc = .ok (.if_icmp .lt off, 3)) (ht : (pc : Int) + off = (tgt : Int)) (kt : a < b → W p l e R s m args below meth c H locs cells slots Q (F0 m tgt ls rest)) (kf : ¬ a < b → W p l e R s m args below meth c H locs cells slots Q (F0 m (pc + 3) ls rest)) : W p l e R s m args below meth c H locs cells slots Q (F0 m pc ls (.int (zI b) :: .int (zI a) :: rest)) :=
  lv_icmp_lt hx hb hdg ht (fun h => kt ((show zI a < zI b ↔ a < b from zI_lt ha hbb).mp h)) (fun h => kf (fun q => h ((show zI a < zI b ↔ a < b from zI_lt ha hbb).mpr q)))
theorem nv_if_lt (hx : p.tables.exec = Jvm.exec) (hb : c.code = cc) {a : Nat} (ha : a < 2147483648) {off : Int} {tgt : Nat} (hdg : decode cc pc = .ok (.ifCond .lt off, 3)) (ht : (pc : Int) + off = (tgt : Int)) (kt : a < 0 → W p l e R s m args below meth c H locs cells slots Q (F0 m tgt ls rest)) (kf : ¬ a < 0 → W p l e R s m args below meth c H locs cells slots Q (F0 m (pc + 3) ls rest)) : W p l e R s m args below meth c H locs cells slots Q (F0 m pc ls (.int (nI a) :: rest)) :=
  lv_if_lt hx hb hdg ht (fun h => kt ((show nI a < 0 ↔ a < 0 from nI_ltI ha (show (0 : Nat) < 2147483648 by decide)).mp h)) (fun h => kf (fun q => h ((show nI a < 0 ↔ a < 0 from nI_ltI ha (show (0 : Nat) < 2147483648 by decide)).mpr q)))
theorem zv_if_lt (hx : p.tables.exec = Jvm.exec) (hb : c.code = cc) {a : Int} (ha : -2147483648 ≤ a ∧ a < 2147483648) {off : Int} {tgt : Nat} (hdg : decode cc pc = .ok (.ifCond .lt off, 3)) (ht : (pc : Int) + off = (tgt : Int)) (kt : a < 0 → W p l e R s m args below meth c H locs cells slots Q (F0 m tgt ls rest)) (kf : ¬ a < 0 → W p l e R s m args below meth c H locs cells slots Q (F0 m (pc + 3) ls rest)) : W p l e R s m args below meth c H locs cells slots Q (F0 m pc ls (.int (zI a) :: rest)) :=
  lv_if_lt hx hb hdg ht (fun h => kt ((show zI a < 0 ↔ a < 0 from zI_lt ha (show (-2147483648 : Int) ≤ 0 ∧ (0 : Int) < 2147483648 by decide)).mp h)) (fun h => kf (fun q => h ((show zI a < 0 ↔ a < 0 from zI_lt ha (show (-2147483648 : Int) ≤ 0 ∧ (0 : Int) < 2147483648 by decide)).mpr q)))
theorem nv_icmp_le (hx : p.tables.exec = Jvm.exec) (hb : c.code = cc) {a b : Nat} (ha : a < 2147483648) (hbb : b < 2147483648) {off : Int} {tgt : Nat} (hdg : decode cc pc = .ok (.if_icmp .le off, 3)) (ht : (pc : Int) + off = (tgt : Int)) (kt : a ≤ b → W p l e R s m args below meth c H locs cells slots Q (F0 m tgt ls rest)) (kf : ¬ a ≤ b → W p l e R s m args below meth c H locs cells slots Q (F0 m (pc + 3) ls rest)) : W p l e R s m args below meth c H locs cells slots Q (F0 m pc ls (.int (nI b) :: .int (nI a) :: rest)) :=
  lv_icmp_le hx hb hdg ht (fun h => kt ((show nI a ≤ nI b ↔ a ≤ b from nI_leI ha hbb).mp h)) (fun h => kf (fun q => h ((show nI a ≤ nI b ↔ a ≤ b from nI_leI ha hbb).mpr q)))
theorem zv_icmp_le (hx : p.tables.exec = Jvm.exec) (hb : c.code = cc) {a b : Int} (ha : -2147483648 ≤ a ∧ a < 2147483648) (hbb : -2147483648 ≤ b ∧ b < 2147483648) {off : Int} {tgt : Nat} (hdg : decode cc pc = .ok (.if_icmp .le off, 3)) (ht : (pc : Int) + off = (tgt : Int)) (kt : a ≤ b → W p l e R s m args below meth c H locs cells slots Q (F0 m tgt ls rest)) (kf : ¬ a ≤ b → W p l e R s m args below meth c H locs cells slots Q (F0 m (pc + 3) ls rest)) : W p l e R s m args below meth c H locs cells slots Q (F0 m pc ls (.int (zI b) :: .int (zI a) :: rest)) :=
  lv_icmp_le hx hb hdg ht (fun h => kt ((show zI a ≤ zI b ↔ a ≤ b from zI_le ha hbb).mp h)) (fun h => kf (fun q => h ((show zI a ≤ zI b ↔ a ≤ b from zI_le ha hbb).mpr q)))
theorem nv_if_le (hx : p.tables.exec = Jvm.exec) (hb : c.code = cc) {a : Nat} (ha : a < 2147483648) {off : Int} {tgt : Nat} (hdg : decode cc pc = .ok (.ifCond .le off, 3)) (ht : (pc : Int) + off = (tgt : Int)) (kt : a ≤ 0 → W p l e R s m args below meth c H locs cells slots Q (F0 m tgt ls rest)) (kf : ¬ a ≤ 0 → W p l e R s m args below meth c H locs cells slots Q (F0 m (pc + 3) ls rest)) : W p l e R s m args below meth c H locs cells slots Q (F0 m pc ls (.int (nI a) :: rest)) :=
  lv_if_le hx hb hdg ht (fun h => kt ((show nI a ≤ 0 ↔ a ≤ 0 from nI_leI ha (show (0 : Nat) < 2147483648 by decide)).mp h)) (fun h => kf (fun q => h ((show nI a ≤ 0 ↔ a ≤ 0 from nI_leI ha (show (0 : Nat) < 2147483648 by decide)).mpr q)))
theorem zv_if_le (hx : p.tables.exec = Jvm.exec) (hb : c.code = cc) {a : Int} (ha : -2147483648 ≤ a ∧ a < 2147483648) {off : Int} {tgt : Nat} (hdg : decode cc pc = .ok (.ifCond .le off, 3)) (ht : (pc : Int) + off = (tgt : Int)) (kt : a ≤ 0 → W p l e R s m args below meth c H locs cells slots Q (F0 m tgt ls rest)) (kf : ¬ a ≤ 0 → W p l e R s m args below meth c H locs cells slots Q (F0 m (pc + 3) ls rest)) : W p l e R s m args below meth c H locs cells slots Q (F0 m pc ls (.int (zI a) :: rest)) :=
  lv_if_le hx hb hdg ht (fun h => kt ((show zI a ≤ 0 ↔ a ≤ 0 from zI_le ha (show (-2147483648 : Int) ≤ 0 ∧ (0 : Int) < 2147483648 by decide)).mp h)) (fun h => kf (fun q => h ((show zI a ≤ 0 ↔ a ≤ 0 from zI_le ha (show (-2147483648 : Int) ≤ 0 ∧ (0 : Int) < 2147483648 by decide)).mpr q)))
theorem nv_icmp_gt (hx : p.tables.exec = Jvm.exec) (hb : c.code = cc) {a b : Nat} (ha : a < 2147483648) (hbb : b < 2147483648) {off : Int} {tgt : Nat} (hdg : decode cc pc = .ok (.if_icmp .gt off, 3)) (ht : (pc : Int) + off = (tgt : Int)) (kt : b < a → W p l e R s m args below meth c H locs cells slots Q (F0 m tgt ls rest)) (kf : ¬ b < a → W p l e R s m args below meth c H locs cells slots Q (F0 m (pc + 3) ls rest)) : W p l e R s m args below meth c H locs cells slots Q (F0 m pc ls (.int (nI b) :: .int (nI a) :: rest)) :=
  lv_icmp_gt hx hb hdg ht (fun h => kt ((show nI b < nI a ↔ b < a from nI_ltI hbb ha).mp h)) (fun h => kf (fun q => h ((show nI b < nI a ↔ b < a from nI_ltI hbb ha).mpr q)))
theorem zv_icmp_gt (hx : p.tables.exec = Jvm.exec) (hb : c.code = cc) {a b : Int} (ha : -2147483648 ≤ a ∧ a < 2147483648) (hbb : -2147483648 ≤ b ∧ b < 2147483648) {off : Int} {tgt : Nat} (hdg : decode cc pc = .ok (.if_icmp .gt off, 3)) (ht : (pc : Int) + off = (tgt : Int)) (kt : b < a → W p l e R s m args below meth c H locs cells slots Q (F0 m tgt ls rest)) (kf : ¬ b < a → W p l e R s m args below meth c H locs cells slots Q (F0 m (pc + 3) ls rest)) : W p l e R s m args below meth c H locs cells slots Q (F0 m pc ls (.int (zI b) :: .int (zI a) :: rest)) :=
  lv_icmp_gt hx hb hdg ht (fun h => kt ((show zI b < zI a ↔ b < a from zI_lt hbb ha).mp h)) (fun h => kf (fun q => h ((show zI b < zI a ↔ b < a from zI_lt hbb ha).mpr q)))
theorem nv_if_gt (hx : p.tables.exec = Jvm.exec) (hb : c.code = cc) {a : Nat} (ha : a < 2147483648) {off : Int} {tgt : Nat} (hdg : decode cc pc = .ok (.ifCond .gt off, 3)) (ht : (pc : Int) + off = (tgt : Int)) (kt : 0 < a → W p l e R s m args below meth c H locs cells slots Q (F0 m tgt ls rest)) (kf : ¬ 0 < a → W p l e R s m args below meth c H locs cells slots Q (F0 m (pc + 3) ls rest)) : W p l e R s m args below meth c H locs cells slots Q (F0 m pc ls (.int (nI a) :: rest)) :=
  lv_if_gt hx hb hdg ht (fun h => kt ((show 0 < nI a ↔ 0 < a from nI_ltI (show (0 : Nat) < 2147483648 by decide) ha).mp h)) (fun h => kf (fun q => h ((show 0 < nI a ↔ 0 < a from nI_ltI (show (0 : Nat) < 2147483648 by decide) ha).mpr q)))
theorem zv_if_gt (hx : p.tables.exec = Jvm.exec) (hb : c.code = cc) {a : Int} (ha : -2147483648 ≤ a ∧ a < 2147483648) {off : Int} {tgt : Nat} (hdg : decode cc pc = .ok (.ifCond .gt off, 3)) (ht : (pc : Int) + off = (tgt : Int)) (kt : 0 < a → W p l e R s m args below meth c H locs cells slots Q (F0 m tgt ls rest)) (kf : ¬ 0 < a → W p l e R s m args below meth c H locs cells slots Q (F0 m (pc + 3) ls rest)) : W p l e R s m args below meth c H locs cells slots Q (F0 m pc ls (.int (zI a) :: rest)) :=
  lv_if_gt hx hb hdg ht (fun h => kt ((show 0 < zI a ↔ 0 < a from zI_lt (show (-2147483648 : Int) ≤ 0 ∧ (0 : Int) < 2147483648 by decide) ha).mp h)) (fun h => kf (fun q => h ((show 0 < zI a ↔ 0 < a from zI_lt (show (-2147483648 : Int) ≤ 0 ∧ (0 : Int) < 2147483648 by decide) ha).mpr q)))
theorem nv_icmp_ge (hx : p.tables.exec = Jvm.exec) (hb : c.code = cc) {a b : Nat} (ha : a < 2147483648) (hbb : b < 2147483648) {off : Int} {tgt : Nat} (hdg : decode cc pc = .ok (.if_icmp .ge off, 3)) (ht : (pc : Int) + off = (tgt : Int)) (kt : b ≤ a → W p l e R s m args below meth c H locs cells slots Q (F0 m tgt ls rest)) (kf : ¬ b ≤ a → W p l e R s m args below meth c H locs cells slots Q (F0 m (pc + 3) ls rest)) : W p l e R s m args below meth c H locs cells slots Q (F0 m pc ls (.int (nI b) :: .int (nI a) :: rest)) :=
  lv_icmp_ge hx hb hdg ht (fun h => kt ((show nI b ≤ nI a ↔ b ≤ a from nI_leI hbb ha).mp h)) (fun h => kf (fun q => h ((show nI b ≤ nI a ↔ b ≤ a from nI_leI hbb ha).mpr q)))
theorem zv_icmp_ge (hx : p.tables.exec = Jvm.exec) (hb : c.code = cc) {a b : Int} (ha : -2147483648 ≤ a ∧ a < 2147483648) (hbb : -2147483648 ≤ b ∧ b < 2147483648) {off : Int} {tgt : Nat} (hdg : decode cc pc = .ok (.if_icmp .ge off, 3)) (ht : (pc : Int) + off = (tgt : Int)) (kt : b ≤ a → W p l e R s m args below meth c H locs cells slots Q (F0 m tgt ls rest)) (kf : ¬ b ≤ a → W p l e R s m args below meth c H locs cells slots Q (F0 m (pc + 3) ls rest)) : W p l e R s m args below meth c H locs cells slots Q (F0 m pc ls (.int (zI b) :: .int (zI a) :: rest)) :=
  lv_icmp_ge hx hb hdg ht (fun h => kt ((show zI b ≤ zI a ↔ b ≤ a from zI_le hbb ha).mp h)) (fun h => kf (fun q => h ((show zI b ≤ zI a ↔ b ≤ a from zI_le hbb ha).mpr q)))
theorem nv_if_ge (hx : p.tables.exec = Jvm.exec) (hb : c.code = cc) {a : Nat} (ha : a < 2147483648) {off : Int} {tgt : Nat} (hdg : decode cc pc = .ok (.ifCond .ge off, 3)) (ht : (pc : Int) + off = (tgt : Int)) (kt : 0 ≤ a → W p l e R s m args below meth c H locs cells slots Q (F0 m tgt ls rest)) (kf : ¬ 0 ≤ a → W p l e R s m args below meth c H locs cells slots Q (F0 m (pc + 3) ls rest)) : W p l e R s m args below meth c H locs cells slots Q (F0 m pc ls (.int (nI a) :: rest)) :=
  lv_if_ge hx hb hdg ht (fun h => kt ((show 0 ≤ nI a ↔ 0 ≤ a from nI_leI (show (0 : Nat) < 2147483648 by decide) ha).mp h)) (fun h => kf (fun q => h ((show 0 ≤ nI a ↔ 0 ≤ a from nI_leI (show (0 : Nat) < 2147483648 by decide) ha).mpr q)))
theorem zv_if_ge (hx : p.tables.exec = Jvm.exec) (hb : c.code = cc) {a : Int} (ha : -2147483648 ≤ a ∧ a < 2147483648) {off : Int} {tgt : Nat} (hdg : decode cc pc = .ok (.ifCond .ge off, 3)) (ht : (pc : Int) + off = (tgt : Int)) (kt : 0 ≤ a → W p l e R s m args below meth c H locs cells slots Q (F0 m tgt ls rest)) (kf : ¬ 0 ≤ a → W p l e R s m args below meth c H locs cells slots Q (F0 m (pc + 3) ls rest)) : W p l e R s m args below meth c H locs cells slots Q (F0 m pc ls (.int (zI a) :: rest)) :=
  lv_if_ge hx hb hdg ht (fun h => kt ((show 0 ≤ zI a ↔ 0 ≤ a from zI_le (show (-2147483648 : Int) ≤ 0 ∧ (0 : Int) < 2147483648 by decide) ha).mp h)) (fun h => kf (fun q => h ((show 0 ≤ zI a ↔ 0 ≤ a from zI_le (show (-2147483648 : Int) ≤ 0 ∧ (0 : Int) < 2147483648 by decide) ha).mpr q)))
theorem nv_icmp_eq (hx : p.tables.exec = Jvm.exec) (hb : c.code = cc) {a b : Nat} (ha : a < 2147483648) (hbb : b < 2147483648) {off : Int} {tgt : Nat} (hdg : decode cc pc = .ok (.if_icmp .eq off, 3)) (ht : (pc : Int) + off = (tgt : Int)) (kt : a = b → W p l e R s m args below meth c H locs cells slots Q (F0 m tgt ls rest)) (kf : ¬ a = b → W p l e R s m args below meth c H locs cells slots Q (F0 m (pc + 3) ls rest)) : W p l e R s m args below meth c H locs cells slots Q (F0 m pc ls (.int (nI b) :: .int (nI a) :: rest)) :=
  lv_icmp_eq hx hb hdg ht (fun h => kt ((show nI a = nI b ↔ a = b from nI_eq ha hbb).mp h)) (fun h => kf (fun q => h ((show nI a = nI b ↔ a = b from nI_eq ha hbb).mpr q)))
theorem zv_icmp_eq (hx : p.tables.exec = Jvm.exec) (hb : c.code = cc) {a b : Int} (ha : -2147483648 ≤ a ∧ a < 2147483648) (hbb : -2147483648 ≤ b ∧ b < 2147483648) {off : Int} {tgt : Nat} (hdg : decode cc pc = .ok (.if_icmp .eq off, 3)) (ht : (pc : Int) + off = (tgt : Int)) (kt : a = b → W p l e R s m args below meth c H locs cells slots Q (F0 m tgt ls rest)) (kf : ¬ a = b → W p l e R s m args below meth c H locs cells slots Q (F0 m (pc + 3) ls rest)) : W p l e R s m args below meth c H locs cells slots Q (F0 m pc ls (.int (zI b) :: .int (zI a) :: rest)) :=
  lv_icmp_eq hx hb hdg ht (fun h => kt ((show zI a = zI b ↔ a = b from zI_eq ha hbb).mp h)) (fun h => kf (fun q => h ((show zI a = zI b ↔ a = b from zI_eq ha hbb).mpr q)))
theorem nv_if_eq (hx : p.tables.exec = Jvm.exec) (hb : c.code = cc) {a : Nat} (ha : a < 2147483648) {off : Int} {tgt : Nat} (hdg : decode cc pc = .ok (.ifCond .eq off, 3)) (ht : (pc : Int) + off = (tgt : Int)) (kt : a = 0 → W p l e R s m args below meth c H locs cells slots Q (F0 m tgt ls rest)) (kf : ¬ a = 0 → W p l e R s m args below meth c H locs cells slots Q (F0 m (pc + 3) ls rest)) : W p l e R s m args below meth c H locs cells slots Q (F0 m pc ls (.int (nI a) :: rest)) :=
  lv_if_eq hx hb hdg ht (fun h => kt ((show nI a = 0 ↔ a = 0 from nI_eq ha (show (0 : Nat) < 2147483648 by decide)).mp h)) (fun h => kf (fun q => h ((show nI a = 0 ↔ a = 0 from nI_eq ha (show (0 : Nat) < 2147483648 by decide)).mpr q)))
theorem zv_if_eq (hx : p.tables.exec = Jvm.exec) (hb : c.code = cc) {a : Int} (ha : -2147483648 ≤ a ∧ a < 2147483648) {off : Int} {tgt : Nat} (hdg : decode cc pc = .ok (.ifCond .eq off, 3)) (ht : (pc : Int) + off = (tgt : Int)) (kt : a = 0 → W p l e R s m args below meth c H locs cells slots Q (F0 m tgt ls rest)) (kf : ¬ a = 0 → W p l e R s m args below meth c H locs cells slots Q (F0 m (pc + 3) ls rest)) : W p l e R s m args below meth c H locs cells slots Q (F0 m pc ls (.int (zI a) :: rest)) :=
  lv_if_eq hx hb hdg ht (fun h => kt ((show zI a = 0 ↔ a = 0 from zI_eq ha (show (-2147483648 : Int) ≤ 0 ∧ (0 : Int) < 2147483648 by decide)).mp h)) (fun h => kf (fun q => h ((show zI a = 0 ↔ a = 0 from zI_eq ha (show (-2147483648 : Int) ≤ 0 ∧ (0 : Int) < 2147483648 by decide)).mpr q)))
theorem nv_icmp_ne (hx : p.tables.exec = Jvm.exec) (hb : c.code = cc) {a b : Nat} (ha : a < 2147483648) (hbb : b < 2147483648) {off : Int} {tgt : Nat} (hdg : decode cc pc = .ok (.if_icmp .ne off, 3)) (ht : (pc : Int) + off = (tgt : Int)) (kt : ¬ a = b → W p l e R s m args below meth c H locs cells slots Q (F0 m tgt ls rest)) (kf : a = b → W p l e R s m args below meth c H locs cells slots Q (F0 m (pc + 3) ls rest)) : W p l e R s m args below meth c H locs cells slots Q (F0 m pc ls (.int (nI b) :: .int (nI a) :: rest)) :=
  lv_icmp_ne hx hb hdg ht (fun h => kt (fun q => h ((show nI a = nI b ↔ a = b from nI_eq ha hbb).mpr q))) (fun h => kf ((show nI a = nI b ↔ a = b from nI_eq ha hbb).mp h))
theorem zv_icmp_ne (hx : p.tables.exec = Jvm.exec) (hb : c.code = cc) {a b : Int} (ha : -2147483648 ≤ a ∧ a < 2147483648) (hbb : -2147483648 ≤ b ∧ b < 2147483648) {off : Int} {tgt : Nat} (hdg : decode cc pc = .ok (.if_icmp .ne off, 3)) (ht : (pc : Int) + off = (tgt : Int)) (kt : ¬ a = b → W p l e R s m args below meth c H locs cells slots Q (F0 m tgt ls rest)) (kf : a = b → W p l e R s m args below meth c H locs cells slots Q (F0 m (pc + 3) ls rest)) : W p l e R s m args below meth c H locs cells slots Q (F0 m pc ls (.int (zI b) :: .int (zI a) :: rest)) :=
  lv_icmp_ne hx hb hdg ht (fun h => kt (fun q => h ((show zI a = zI b ↔ a = b from zI_eq ha hbb).mpr q))) (fun h => kf ((show zI a = zI b ↔ a = b from zI_eq ha hbb).mp h))
theorem nv_if_ne (hx : p.tables.exec = Jvm.exec) (hb : c.code = cc) {a : Nat} (ha : a < 2147483648) {off : Int} {tgt : Nat} (hdg : decode cc pc = .ok (.ifCond .ne off, 3)) (ht : (pc : Int) + off = (tgt : Int)) (kt : ¬ a = 0 → W p l e R s m args below meth c H locs cells slots Q (F0 m tgt ls rest)) (kf : a = 0 → W p l e R s m args below meth c H locs cells slots Q (F0 m (pc + 3) ls rest)) : W p l e R s m args below meth c H locs cells slots Q (F0 m pc ls (.int (nI a) :: rest)) :=
  lv_if_ne hx hb hdg ht (fun h => kt (fun q => h ((show nI a = 0 ↔ a = 0 from nI_eq ha (show (0 : Nat) < 2147483648 by decide)).mpr q))) (fun h => kf ((show nI a = 0 ↔ a = 0 from nI_eq ha (show (0 : Nat) < 2147483648 by decide)).mp h))
theorem zv_if_ne (hx : p.tables.exec = Jvm.exec) (hb : c.code = cc) {a : Int} (ha : -2147483648 ≤ a ∧ a < 2147483648) {off : Int} {tgt : Nat} (hdg : decode cc pc = .ok (.ifCond .ne off, 3)) (ht : (pc : Int) + off = (tgt : Int)) (kt : ¬ a = 0 → W p l e R s m args below meth c H locs cells slots Q (F0 m tgt ls rest)) (kf : a = 0 → W p l e R s m args below meth c H locs cells slots Q (F0 m (pc + 3) ls rest)) : W p l e R s m args below meth c H locs cells slots Q (F0 m pc ls (.int (zI a) :: rest)) :=
  lv_if_ne hx hb hdg ht (fun h => kt (fun q => h ((show zI a = 0 ↔ a = 0 from zI_eq ha (show (-2147483648 : Int) ≤ 0 ∧ (0 : Int) < 2147483648 by decide)).mpr q))) (fun h => kf ((show zI a = 0 ↔ a = 0 from zI_eq ha (show (-2147483648 : Int) ≤ 0 ∧ (0 : Int) < 2147483648 by decide)).mp h))
end BASE

/-! contracts over a world: what is given beside the cells is X, with the cells that may change -/
def am_ok (X : (Nat → Prop) → State → Heap → Prop) : Prop :=
  (∀ (A : Nat → Prop) (u U : State) (H : Heap), u.vm.Alike U.vm → X A u H → X A U H) ∧ (∀ (A : Nat → Prop) (U : State) (H H1 : Heap), X A U H → (∀ a : Nat, a < H.size → ¬ A a → H1[a]? = H[a]?) → X A U H1) ∧ ∀ (A B : Nat → Prop) (U : State) (H : Heap), X A U H → (∀ q, B q → A q) → X B U H
def am_no : (Nat → Prop) → State → Heap → Prop := fun _ _ _ => True
theorem am_no_ok : am_ok am_no := ⟨fun _ _ _ _ _ _ => trivial, fun _ _ _ _ _ _ => trivial, fun _ _ _ _ _ _ => trivial⟩
theorem am_ofF {l : Launch} {y : MethodName} {ws ws' : List Cond} {rm : Room} {Pc : Array Value → State → Prop} {Qc : Array Value → State → Outcome → State → Prop} {mc ms : Nat} {free : Addr → Prop} {cc : ByteArray} {maxL : Nat} {ret : Option FieldType}
    (hy : plainFor y = true) (hw : ws = Cond.code y cc maxL ret :: ws')
    (body : ∀ p e s m args below meth c s₁, BodyLoose p l y (headSpec ws rm) cc maxL ret e s m args below meth c s₁ → c.maxLocals = maxL → Pc args s →
      W p l e (headSpec ws rm).room s m args below meth c s.heap [] 0 0 (MQ below Qc args s mc ms free) (entryFrame m args maxL)) : Met l y ws rm Pc Qc mc ms free := by
  refine MetFree.of_bodySF (code := cc) (maxLocals := maxL) (ret := ret) hy ?_ ?_
  · intro args s m h hn
    obtain ⟨meth, c, h1, h2, h3, h4, h5, h6, -, -⟩ := Cond.code_spec hn (atoms_spec (ws := ws) h _ (by rw [hw]; exact List.mem_cons_self))
    exact ⟨meth, c, h1, h2, h3, h4, h5, h6⟩
  · intro p e s m args below meth c s₁ B hml hP _
    have hh0 : s₁.heap = s.heap := by rw [B.state]; rfl
    obtain ⟨t, a1, o, b1, b2, b3⟩ := body p e s m args below meth c s₁ B hml hP s₁ hh0 (Stand.of_body B)
    exact ⟨t, o, a1, b1, b2, ⟨b3.1, b3.2⟩⟩
def am_pre (X : (Nat → Prop) → State → Heap → Prop) (D : va_G) (tys : List (ClassId × FieldType)) (wc : va_W) (sz : Nat) (U : State) : Prop := U.heap.size = sz ∧ va_P D vwCl wc U.heap ∧ va_K D vwCl tys U ∧ va_D (fun _ => True) wc ∧ X (va_A wc sz) U U.heap
def am_post (D : va_G) (tys : List (ClassId × FieldType)) (wc : va_W) (sz : Nat) {S : Type} (wv : S → va_W) (u : S) (t : State) : Prop := va_P D vwCl (wv u) t.heap ∧ va_K D vwCl tys t ∧ va_D (va_A wc sz) (wv u)
theorem am_blind {X : (Nat → Prop) → State → Heap → Prop} (hok : am_ok X) {D : va_G} {tys : List (ClassId × FieldType)} {wc : va_W} {sz : Nat} {As : List Value} : FrameBlind (va_Pc As (am_pre X D tys wc sz)) := fun a U g mk q => by
  obtain ⟨q0, q1, qP, qK, qD, qX⟩ := q
  exact ⟨q0, q1, qP, va_K.moved (u := U) (U := U.calling g mk a) (Vm.Alike.refl U.vm) qK, qD, hok.1 _ U (U.calling g mk a) U.heap (Vm.Alike.refl U.vm) qX⟩

def CTi (l : Launch) (y : MethodName) (ws : List Cond) (rm : Room) (D : va_G) (tys : List (ClassId × FieldType)) (X : (Nat → Prop) → State → Heap → Prop) (As : List Value) (wc : va_W) {S : Type} (post : Int32 → S → Prop) (wv : S → va_W) : Prop :=
  ∀ sz : Nat, Met l y ws rm (va_Pc As (am_pre X D tys wc sz)) (va_Qi post (am_post D tys wc sz wv) (va_A wc sz)) 0 0 (va_A wc sz)
def CTl (l : Launch) (y : MethodName) (ws : List Cond) (rm : Room) (D : va_G) (tys : List (ClassId × FieldType)) (X : (Nat → Prop) → State → Heap → Prop) (As : List Value) (wc : va_W) {S : Type} (post : Int64 → S → Prop) (wv : S → va_W) : Prop :=
  ∀ sz : Nat, Met l y ws rm (va_Pc As (am_pre X D tys wc sz)) (va_Ql post (am_post D tys wc sz wv) (va_A wc sz)) 0 0 (va_A wc sz)
def CTv (l : Launch) (y : MethodName) (ws : List Cond) (rm : Room) (D : va_G) (tys : List (ClassId × FieldType)) (X : (Nat → Prop) → State → Heap → Prop) (As : List Value) (wc : va_W) {S : Type} (post : S → Prop) (wv : S → va_W) : Prop :=
  ∀ sz : Nat, Met l y ws rm (va_Pc As (am_pre X D tys wc sz)) (va_Qv post (am_post D tys wc sz wv) (va_A wc sz)) 0 0 (va_A wc sz)
theorem CTi_of {l : Launch} {y : MethodName} {ws ws' : List Cond} {rm : Room} {D : va_G} {tys : List (ClassId × FieldType)} {X : (Nat → Prop) → State → Heap → Prop} {As : List Value} {wc : va_W} {S : Type} {post : Int32 → S → Prop} {wv : S → va_W} {cc : ByteArray} {maxL : Nat} (hy : plainFor y = true) (hw : ws = Cond.code y cc maxL (some .int) :: ws') (hlen : (lg_sl As).length ≤ maxL)
    (body : ∀ (p : Program) (e : Env) (s : State) (m : MethodId) (args : Array Value) (below : List Frame) (meth : Method) (c : Code) (A : Nat → Prop) (Q : State → Prop) (ls : Array Slot) (H : Heap) (locs : List Loc), p.tables.exec = Jvm.exec → c.code = cc → (∀ w ∈ ws, w.before args s = true) → s.vm.findClass y.cls = some m.cls → c.maxLocals = maxL → va_P D vwCl wc H → va_K D vwCl tys s → va_D A wc → va_S A s.heap H locs → (∀ q, s.heap.size ≤ q → A q) → X A s s.heap → lv_has ls maxL (lv_args 0 As) →
      (∀ (H : Heap) (locs : List Loc) (pc : Nat) (ls : Array Slot) (r : Int32) (u : S), post r u → va_P D vwCl (wv u) H → va_D A (wv u) → va_S A s.heap H locs → decode cc pc = .ok (.ireturn, 1) → W p l e rm s m args below meth c H locs 0 0 Q (F0 m pc ls [.int r])) →
      W p l e rm s m args below meth c H locs 0 0 Q (F0 m 0 ls [])) : CTi l y ws rm D tys X As wc post wv := by
  intro sz
  refine am_ofF (cc := cc) (maxL := maxL) (ret := some .int) hy hw ?_
  intro p e s m args below meth c s₁ B hml hv
  obtain ⟨rfl, hsz, hP, hK, hD0, hX⟩ := hv
  subst hsz
  rw [lg_entry_eq]
  exact body p e s m As.toArray below meth c (va_A wc s.heap.size) _ _ _ _ B.exec B.bytes (atoms_spec (ws := ws) B.pre) (findClass_of_methodNamed B.named) hml hP hK hD0.self va_S.rf (fun q h => Or.inr h) hX (lv_entry As hlen) (fun H locs pc ls r u hp hP hD hS hd => W.iret B.exec B.bytes B.returns (fun t ht hW => ⟨⟨r, u, rfl, hp, by rw [ht]; exact hP, va_K.moved hW.alike hK, hD⟩, hS.F ht⟩) hS.2.2 hd (hlocks := B.notSynchronized))
theorem CTz_of {l : Launch} {y : MethodName} {ws ws' : List Cond} {rm : Room} {D : va_G} {tys : List (ClassId × FieldType)} {X : (Nat → Prop) → State → Heap → Prop} {As : List Value} {wc : va_W} {S : Type} {post : Int32 → S → Prop} {wv : S → va_W} {cc : ByteArray} {maxL : Nat} (hy : plainFor y = true) (hw : ws = Cond.code y cc maxL (some .boolean) :: ws') (hlen : (lg_sl As).length ≤ maxL)
    (body : ∀ (p : Program) (e : Env) (s : State) (m : MethodId) (args : Array Value) (below : List Frame) (meth : Method) (c : Code) (A : Nat → Prop) (Q : State → Prop) (ls : Array Slot) (H : Heap) (locs : List Loc), p.tables.exec = Jvm.exec → c.code = cc → (∀ w ∈ ws, w.before args s = true) → s.vm.findClass y.cls = some m.cls → c.maxLocals = maxL → va_P D vwCl wc H → va_K D vwCl tys s → va_D A wc → va_S A s.heap H locs → (∀ q, s.heap.size ≤ q → A q) → X A s s.heap → lv_has ls maxL (lv_args 0 As) →
      (∀ (H : Heap) (locs : List Loc) (pc : Nat) (ls : Array Slot) (r : Int32) (u : S) (hn : narrow .boolean (.int r) = .int r), post r u → va_P D vwCl (wv u) H → va_D A (wv u) → va_S A s.heap H locs → decode cc pc = .ok (.ireturn, 1) → W p l e rm s m args below meth c H locs 0 0 Q (F0 m pc ls [.int r])) →
      W p l e rm s m args below meth c H locs 0 0 Q (F0 m 0 ls [])) : CTi l y ws rm D tys X As wc post wv := by
  intro sz
  refine am_ofF (cc := cc) (maxL := maxL) (ret := some .boolean) hy hw ?_
  intro p e s m args below meth c s₁ B hml hv
  obtain ⟨rfl, hsz, hP, hK, hD0, hX⟩ := hv
  subst hsz
  rw [lg_entry_eq]
  exact body p e s m As.toArray below meth c (va_A wc s.heap.size) _ _ _ _ B.exec B.bytes (atoms_spec (ws := ws) B.pre) (findClass_of_methodNamed B.named) hml hP hK hD0.self va_S.rf (fun q h => Or.inr h) hX (lv_entry As hlen) (fun H locs pc ls r u hn hp hP hD hS hd => W.zret B.exec B.bytes B.returns hn (fun t ht hW => ⟨⟨r, u, rfl, hp, by rw [ht]; exact hP, va_K.moved hW.alike hK, hD⟩, hS.F ht⟩) hS.2.2 hd (hlocks := B.notSynchronized))
theorem CTl_of {l : Launch} {y : MethodName} {ws ws' : List Cond} {rm : Room} {D : va_G} {tys : List (ClassId × FieldType)} {X : (Nat → Prop) → State → Heap → Prop} {As : List Value} {wc : va_W} {S : Type} {post : Int64 → S → Prop} {wv : S → va_W} {cc : ByteArray} {maxL : Nat} (hy : plainFor y = true) (hw : ws = Cond.code y cc maxL (some .long) :: ws') (hlen : (lg_sl As).length ≤ maxL)
    (body : ∀ (p : Program) (e : Env) (s : State) (m : MethodId) (args : Array Value) (below : List Frame) (meth : Method) (c : Code) (A : Nat → Prop) (Q : State → Prop) (ls : Array Slot) (H : Heap) (locs : List Loc), p.tables.exec = Jvm.exec → c.code = cc → (∀ w ∈ ws, w.before args s = true) → s.vm.findClass y.cls = some m.cls → c.maxLocals = maxL → va_P D vwCl wc H → va_K D vwCl tys s → va_D A wc → va_S A s.heap H locs → (∀ q, s.heap.size ≤ q → A q) → X A s s.heap → lv_has ls maxL (lv_args 0 As) →
      (∀ (H : Heap) (locs : List Loc) (pc : Nat) (ls : Array Slot) (r : Int64) (u : S), post r u → va_P D vwCl (wv u) H → va_D A (wv u) → va_S A s.heap H locs → decode cc pc = .ok (.lreturn, 1) → W p l e rm s m args below meth c H locs 0 0 Q (F0 m pc ls [.long r])) →
      W p l e rm s m args below meth c H locs 0 0 Q (F0 m 0 ls [])) : CTl l y ws rm D tys X As wc post wv := by
  intro sz
  refine am_ofF (cc := cc) (maxL := maxL) (ret := some .long) hy hw ?_
  intro p e s m args below meth c s₁ B hml hv
  obtain ⟨rfl, hsz, hP, hK, hD0, hX⟩ := hv
  subst hsz
  rw [lg_entry_eq]
  exact body p e s m As.toArray below meth c (va_A wc s.heap.size) _ _ _ _ B.exec B.bytes (atoms_spec (ws := ws) B.pre) (findClass_of_methodNamed B.named) hml hP hK hD0.self va_S.rf (fun q h => Or.inr h) hX (lv_entry As hlen) (fun H locs pc ls r u hp hP hD hS hd => W.lret B.exec B.bytes B.returns (fun t ht hW => ⟨⟨r, u, rfl, hp, by rw [ht]; exact hP, va_K.moved hW.alike hK, hD⟩, hS.F ht⟩) hS.2.2 hd (hlocks := B.notSynchronized))
theorem CTv_of {l : Launch} {y : MethodName} {ws ws' : List Cond} {rm : Room} {D : va_G} {tys : List (ClassId × FieldType)} {X : (Nat → Prop) → State → Heap → Prop} {As : List Value} {wc : va_W} {S : Type} {post : S → Prop} {wv : S → va_W} {cc : ByteArray} {maxL : Nat} (hy : plainFor y = true) (hw : ws = Cond.code y cc maxL (none) :: ws') (hlen : (lg_sl As).length ≤ maxL)
    (body : ∀ (p : Program) (e : Env) (s : State) (m : MethodId) (args : Array Value) (below : List Frame) (meth : Method) (c : Code) (A : Nat → Prop) (Q : State → Prop) (ls : Array Slot) (H : Heap) (locs : List Loc), p.tables.exec = Jvm.exec → c.code = cc → (∀ w ∈ ws, w.before args s = true) → s.vm.findClass y.cls = some m.cls → c.maxLocals = maxL → va_P D vwCl wc H → va_K D vwCl tys s → va_D A wc → va_S A s.heap H locs → (∀ q, s.heap.size ≤ q → A q) → X A s s.heap → lv_has ls maxL (lv_args 0 As) →
      (∀ (H : Heap) (locs : List Loc) (pc : Nat) (ls : Array Slot) (u : S), post u → va_P D vwCl (wv u) H → va_D A (wv u) → va_S A s.heap H locs → decode cc pc = .ok (.return_, 1) → W p l e rm s m args below meth c H locs 0 0 Q (F0 m pc ls [])) →
      W p l e rm s m args below meth c H locs 0 0 Q (F0 m 0 ls [])) : CTv l y ws rm D tys X As wc post wv := by
  intro sz
  refine am_ofF (cc := cc) (maxL := maxL) (ret := none) hy hw ?_
  intro p e s m args below meth c s₁ B hml hv
  obtain ⟨rfl, hsz, hP, hK, hD0, hX⟩ := hv
  subst hsz
  rw [lg_entry_eq]
  exact body p e s m As.toArray below meth c (va_A wc s.heap.size) _ _ _ _ B.exec B.bytes (atoms_spec (ws := ws) B.pre) (findClass_of_methodNamed B.named) hml hP hK hD0.self va_S.rf (fun q h => Or.inr h) hX (lv_entry As hlen) (fun H locs pc ls u hp hP hD hS hd => W.vret B.exec B.bytes B.returns (fun t ht hW => ⟨⟨u, rfl, hp, by rw [ht]; exact hP, va_K.moved hW.alike hK, hD⟩, hS.F ht⟩) hS.2.2 hd (hlocks := B.notSynchronized))
section CALLS
variable {p : Program} {l : Launch} {e : Env} {R : Room} {s : State} {m : MethodId} {args : Array Value} {below : List Frame} {meth : Method} {c : Code} {H : Heap} {locs : List Loc} {cells slots : Nat} {Q : State → Prop}
variable {Ts ws : List Cond} {cc bytes : ByteArray} {nL maxL index n pc : Nat} {own C : String} {y : MethodName} {ret : Option FieldType} {rm : Room} {b : Addr} {As st0 rest : List Value} {ls : Array Slot}
variable {D : va_G} {tys tysW : List (ClassId × FieldType)} {X : (Nat → Prop) → State → Heap → Prop} {wsw wc wr : va_W} {A : Nat → Prop} {S : Type}
theorem am_sub {D : va_G} {cl : List vw_C} {ws wc : va_W} {H : Heap} (h : va_P D cl ws H) (isC : List Nat) (hC : isC.map (fun i => ws[i]?) = wc.map some) : va_P D cl wc H := by
  refine h.sub isC ?_
  have h1 : isC.filterMap (fun i => ws[i]?) = (isC.map (fun i => ws[i]?)).filterMap id := by rw [List.filterMap_map]; rfl
  rw [h1, hC, List.filterMap_map]
  simp

theorem CTi_Vw (hok : am_ok X) {post : Int32 → S → Prop} {wv : S → va_W} (S0 : CallFix p m c cc nL s args Ts own) (hC0 : CTi l y ws rm D tys X (.ref b :: As) wsw post wv) (cw : CallW R s args own C index y bytes maxL ret ws rm 0 0 n) (hKc : va_K D vwCl tys s) (hP : va_P D vwCl wsw H) (hD : va_D A wsw) (hS : va_S A s.heap H locs) (hA : ∀ q, s.heap.size ≤ q → A q) (hX : X A s s.heap) (hK : va_K D vwCl tysW s) (q0 ci : Nat) {fs : List Value} {vc : vw_C} (hrc : vwCl[ci]? = some vc) (hre : wsw[q0]? = some (b, .inr (ci, fs))) (hvc : vc.1 = C) (hn : As.length = n) (hsz : ls.size = nL) (hst : st0 = As.reverse ++ .ref b :: rest) (hW8 : (rest.map fun v => v.category).sum ≤ 8) (hroom : cells ≤ R.cells ∧ slots ≤ R.slots) (hdg : decode cc pc = .ok (.invokevirtual index, 3))
    (kk : ∀ (r : Int32) (u : S) (H1 : Heap) (locs1 : List Loc), post r u → va_P D vwCl (wv u) H1 → va_D A (wv u) → va_S A s.heap H1 locs1 → W p l e R s m args below meth c H1 locs1 cells slots Q (F0 m (pc + 3) ls (.int r :: rest))) : W p l e R s m args below meth c H locs cells slots Q (F0 m pc ls st0) := by
  have hPc := hP
  have hDc := hD
  have hF : ∀ q, va_A wsw H.size q → A q := fun q h => h.elim (fun ⟨k, e, hk⟩ => hD.2 k _ hk) (fun h => hA q (Nat.le_trans hS.1 h))
  have hXc : X (va_A wsw H.size) s H := hok.2.2 _ _ _ _ (hok.2.1 _ _ _ _ hX hS.2.1) hF
  have recv := va_recv hK hP hrc hre
  rw [hvc] at recv
  refine va_calli (va_runV (As := As) (rest := rest) S0 (hC0 H.size) cw ⟨am_blind hok, recv, fun U hU hW => ⟨rfl, by rw [hU], by rw [hU]; exact hPc, va_K.moved hW.alike hKc, hDc.weaken (fun _ _ _ _ => trivial), by rw [hU]; exact hok.1 _ _ _ _ hW.alike hXc⟩⟩ rfl hn hsz hst (lv_room hW8) hdg ⟨hroom.1, hroom.2⟩) hS (fun q _ h => hF q h) hF (fun r u t H1 locs1 ht hvm hw hB hz1 hk1 hS1 => ?_)
  obtain ⟨hP1, hK1, hD1⟩ := hB
  rw [ht] at hP1
  exact kk r u H1 locs1 hw hP1 (hD1.weaken (fun _ _ _ h => hF _ h)) hS1
theorem CTi_Vp (hok : am_ok X) {post : Int32 → S → Prop} {wv : S → va_W} (S0 : CallFix p m c cc nL s args Ts own) (hC0 : CTi l y ws rm D tys X (.ref b :: As) wc post wv) (cw : CallW R s args own C index y bytes maxL ret ws rm 0 0 n) (hKc : va_K D vwCl tys s) (hP : va_P D vwCl wsw H) (hD : va_D A wsw) (hS : va_S A s.heap H locs) (hA : ∀ q, s.heap.size ≤ q → A q) (hX : X A s s.heap) (hK : va_K D vwCl tysW s) (q0 ci : Nat) {fs : List Value} {vc : vw_C} (hrc : vwCl[ci]? = some vc) (hre : wsw[q0]? = some (b, .inr (ci, fs))) (hvc : vc.1 = C) (isC isR : List Nat) (hC : isC.map (fun i => wsw[i]?) = wc.map some) (hR : isR.map (fun i => wsw[i]?) = (isR.filterMap (fun i => wsw[i]?)).map some) (hndC : va_nd isC = true) (hn9 : va_nd isR = true) (hdis : ∀ i ∈ isR, i ∉ isC) (hn : As.length = n) (hsz : ls.size = nL) (hst : st0 = As.reverse ++ .ref b :: rest) (hW8 : (rest.map fun v => v.category).sum ≤ 8) (hroom : cells ≤ R.cells ∧ slots ≤ R.slots) (hdg : decode cc pc = .ok (.invokevirtual index, 3))
    (kk : ∀ (r : Int32) (u : S) (H1 : Heap) (locs1 : List Loc), post r u → va_P D vwCl ((isR.filterMap (fun i => wsw[i]?)) ++ wv u) H1 → va_D A ((isR.filterMap (fun i => wsw[i]?)) ++ wv u) → va_S A s.heap H1 locs1 → W p l e R s m args below meth c H1 locs1 cells slots Q (F0 m (pc + 3) ls (.int r :: rest))) : W p l e R s m args below meth c H locs cells slots Q (F0 m pc ls st0) := by
  have hPc := am_sub hP isC hC
  have hDc := hD.sub isC hndC hC
  have hF := va_free hD hS hA isC hC
  have hXc : X (va_A wc H.size) s H := hok.2.2 _ _ _ _ (hok.2.1 _ _ _ _ hX hS.2.1) hF
  have recv := va_recv hK hP hrc hre
  rw [hvc] at recv
  refine va_calli (va_runV (As := As) (rest := rest) S0 (hC0 H.size) cw ⟨am_blind hok, recv, fun U hU hW => ⟨rfl, by rw [hU], by rw [hU]; exact hPc, va_K.moved hW.alike hKc, hDc.weaken (fun _ _ _ _ => trivial), by rw [hU]; exact hok.1 _ _ _ _ hW.alike hXc⟩⟩ rfl hn hsz hst (lv_room hW8) hdg ⟨hroom.1, hroom.2⟩) hS (fun q _ h => hF q h) hF (fun r u t H1 locs1 ht hvm hw hB hz1 hk1 hS1 => ?_)
  obtain ⟨hP1, hK1, hD1⟩ := hB
  rw [ht] at hP1
  obtain ⟨hP2, hD2⟩ := va_join (wr := isR.filterMap (fun i => wsw[i]?)) (w1 := wv u) hP hD isC isR hC hR hn9 hdis hk1 hF hP1 hD1
  exact kk r u H1 locs1 hw hP2 hD2 hS1
theorem CTi_Sw (hok : am_ok X) {post : Int32 → S → Prop} {wv : S → va_W} (S0 : CallFix p m c cc nL s args Ts own) (hC0 : CTi l y ws rm D tys X As wsw post wv) (cw : CallB R s args own index y bytes maxL ret ws rm 0 0 n ∧ (Cond.static y).before args s = true) (hKc : va_K D vwCl tys s) (hP : va_P D vwCl wsw H) (hD : va_D A wsw) (hS : va_S A s.heap H locs) (hA : ∀ q, s.heap.size ≤ q → A q) (hX : X A s s.heap) (hn : As.length = n) (hsz : ls.size = nL) (hst : st0 = As.reverse ++ rest) (hW8 : (rest.map fun v => v.category).sum ≤ 8) (hroom : cells ≤ R.cells ∧ slots ≤ R.slots) (hdg : decode cc pc = .ok (.invokestatic index, 3))
    (kk : ∀ (r : Int32) (u : S) (H1 : Heap) (locs1 : List Loc), post r u → va_P D vwCl (wv u) H1 → va_D A (wv u) → va_S A s.heap H1 locs1 → W p l e R s m args below meth c H1 locs1 cells slots Q (F0 m (pc + 3) ls (.int r :: rest))) : W p l e R s m args below meth c H locs cells slots Q (F0 m pc ls st0) := by
  have hPc := hP
  have hDc := hD
  have hF : ∀ q, va_A wsw H.size q → A q := fun q h => h.elim (fun ⟨k, e, hk⟩ => hD.2 k _ hk) (fun h => hA q (Nat.le_trans hS.1 h))
  have hXc : X (va_A wsw H.size) s H := hok.2.2 _ _ _ _ (hok.2.1 _ _ _ _ hX hS.2.1) hF
  refine va_calli (va_runS (As := As) (rest := rest) S0 (hC0 H.size) cw ⟨am_blind hok, fun U hU hW => ⟨rfl, by rw [hU], by rw [hU]; exact hPc, va_K.moved hW.alike hKc, hDc.weaken (fun _ _ _ _ => trivial), by rw [hU]; exact hok.1 _ _ _ _ hW.alike hXc⟩⟩ rfl hn hsz hst (lv_room hW8) hdg ⟨hroom.1, hroom.2⟩) hS (fun q _ h => hF q h) hF (fun r u t H1 locs1 ht hvm hw hB hz1 hk1 hS1 => ?_)
  obtain ⟨hP1, hK1, hD1⟩ := hB
  rw [ht] at hP1
  exact kk r u H1 locs1 hw hP1 (hD1.weaken (fun _ _ _ h => hF _ h)) hS1
theorem CTi_Sp (hok : am_ok X) {post : Int32 → S → Prop} {wv : S → va_W} (S0 : CallFix p m c cc nL s args Ts own) (hC0 : CTi l y ws rm D tys X As wc post wv) (cw : CallB R s args own index y bytes maxL ret ws rm 0 0 n ∧ (Cond.static y).before args s = true) (hKc : va_K D vwCl tys s) (hP : va_P D vwCl wsw H) (hD : va_D A wsw) (hS : va_S A s.heap H locs) (hA : ∀ q, s.heap.size ≤ q → A q) (hX : X A s s.heap) (isC isR : List Nat) (hC : isC.map (fun i => wsw[i]?) = wc.map some) (hR : isR.map (fun i => wsw[i]?) = (isR.filterMap (fun i => wsw[i]?)).map some) (hndC : va_nd isC = true) (hn9 : va_nd isR = true) (hdis : ∀ i ∈ isR, i ∉ isC) (hn : As.length = n) (hsz : ls.size = nL) (hst : st0 = As.reverse ++ rest) (hW8 : (rest.map fun v => v.category).sum ≤ 8) (hroom : cells ≤ R.cells ∧ slots ≤ R.slots) (hdg : decode cc pc = .ok (.invokestatic index, 3))
    (kk : ∀ (r : Int32) (u : S) (H1 : Heap) (locs1 : List Loc), post r u → va_P D vwCl ((isR.filterMap (fun i => wsw[i]?)) ++ wv u) H1 → va_D A ((isR.filterMap (fun i => wsw[i]?)) ++ wv u) → va_S A s.heap H1 locs1 → W p l e R s m args below meth c H1 locs1 cells slots Q (F0 m (pc + 3) ls (.int r :: rest))) : W p l e R s m args below meth c H locs cells slots Q (F0 m pc ls st0) := by
  have hPc := am_sub hP isC hC
  have hDc := hD.sub isC hndC hC
  have hF := va_free hD hS hA isC hC
  have hXc : X (va_A wc H.size) s H := hok.2.2 _ _ _ _ (hok.2.1 _ _ _ _ hX hS.2.1) hF
  refine va_calli (va_runS (As := As) (rest := rest) S0 (hC0 H.size) cw ⟨am_blind hok, fun U hU hW => ⟨rfl, by rw [hU], by rw [hU]; exact hPc, va_K.moved hW.alike hKc, hDc.weaken (fun _ _ _ _ => trivial), by rw [hU]; exact hok.1 _ _ _ _ hW.alike hXc⟩⟩ rfl hn hsz hst (lv_room hW8) hdg ⟨hroom.1, hroom.2⟩) hS (fun q _ h => hF q h) hF (fun r u t H1 locs1 ht hvm hw hB hz1 hk1 hS1 => ?_)
  obtain ⟨hP1, hK1, hD1⟩ := hB
  rw [ht] at hP1
  obtain ⟨hP2, hD2⟩ := va_join (wr := isR.filterMap (fun i => wsw[i]?)) (w1 := wv u) hP hD isC isR hC hR hn9 hdis hk1 hF hP1 hD1
  exact kk r u H1 locs1 hw hP2 hD2 hS1
theorem CTi_S0 (hok : am_ok X) {post : Int32 → S → Prop}  (S0 : CallFix p m c cc nL s args Ts own) (hC0 : CTi l y ws rm D tys X As [] post (fun _ => [])) (cw : CallB R s args own index y bytes maxL ret ws rm 0 0 n ∧ (Cond.static y).before args s = true) (hKc : va_K D vwCl tys s) (hP : va_P D vwCl wsw H) (hD : va_D A wsw) (hS : va_S A s.heap H locs) (hA : ∀ q, s.heap.size ≤ q → A q) (hX : X A s s.heap) (hn : As.length = n) (hsz : ls.size = nL) (hst : st0 = As.reverse ++ rest) (hW8 : (rest.map fun v => v.category).sum ≤ 8) (hroom : cells ≤ R.cells ∧ slots ≤ R.slots) (hdg : decode cc pc = .ok (.invokestatic index, 3))
    (kk : ∀ (r : Int32) (u : S) (H1 : Heap) (locs1 : List Loc), post r u → va_P D vwCl (wsw) H1 → va_D A (wsw) → va_S A s.heap H1 locs1 → W p l e R s m args below meth c H1 locs1 cells slots Q (F0 m (pc + 3) ls (.int r :: rest))) : W p l e R s m args below meth c H locs cells slots Q (F0 m pc ls st0) := by
  have hPc : va_P D vwCl [] H := fun k q h => by simp at h
  have hDc : va_D A [] := ⟨fun i j p q h => by simp at h, fun k q h => by simp at h⟩
  have hF : ∀ q, va_A [] H.size q → A q := fun q h => h.elim (fun ⟨k, e, hk⟩ => by simp at hk) (fun h => hA q (Nat.le_trans hS.1 h))
  have hXc : X (va_A [] H.size) s H := hok.2.2 _ _ _ _ (hok.2.1 _ _ _ _ hX hS.2.1) hF
  refine va_calli (va_runS (As := As) (rest := rest) S0 (hC0 H.size) cw ⟨am_blind hok, fun U hU hW => ⟨rfl, by rw [hU], by rw [hU]; exact hPc, va_K.moved hW.alike hKc, hDc.weaken (fun _ _ _ _ => trivial), by rw [hU]; exact hok.1 _ _ _ _ hW.alike hXc⟩⟩ rfl hn hsz hst (lv_room hW8) hdg ⟨hroom.1, hroom.2⟩) hS (fun q _ h => hF q h) hF (fun r u t H1 locs1 ht hvm hw hB hz1 hk1 hS1 => ?_)
  obtain ⟨hP1, hK1, hD1⟩ := hB
  rw [ht] at hP1
  exact kk r u H1 locs1 hw (hP.kept (fun k9 x h9 => hk1 _ (hP k9 x h9).lt (fun h => h.elim (fun ⟨k, e, hk⟩ => by simp at hk) (fun h => absurd ((hP k9 x h9).lt) (Nat.not_lt.mpr h))))) hD hS1
theorem CTl_Vw (hok : am_ok X) {post : Int64 → S → Prop} {wv : S → va_W} (S0 : CallFix p m c cc nL s args Ts own) (hC0 : CTl l y ws rm D tys X (.ref b :: As) wsw post wv) (cw : CallW R s args own C index y bytes maxL ret ws rm 0 0 n) (hKc : va_K D vwCl tys s) (hP : va_P D vwCl wsw H) (hD : va_D A wsw) (hS : va_S A s.heap H locs) (hA : ∀ q, s.heap.size ≤ q → A q) (hX : X A s s.heap) (hK : va_K D vwCl tysW s) (q0 ci : Nat) {fs : List Value} {vc : vw_C} (hrc : vwCl[ci]? = some vc) (hre : wsw[q0]? = some (b, .inr (ci, fs))) (hvc : vc.1 = C) (hn : As.length = n) (hsz : ls.size = nL) (hst : st0 = As.reverse ++ .ref b :: rest) (hW8 : (rest.map fun v => v.category).sum ≤ 8) (hroom : cells ≤ R.cells ∧ slots ≤ R.slots) (hdg : decode cc pc = .ok (.invokevirtual index, 3))
    (kk : ∀ (r : Int64) (u : S) (H1 : Heap) (locs1 : List Loc), post r u → va_P D vwCl (wv u) H1 → va_D A (wv u) → va_S A s.heap H1 locs1 → W p l e R s m args below meth c H1 locs1 cells slots Q (F0 m (pc + 3) ls (.long r :: rest))) : W p l e R s m args below meth c H locs cells slots Q (F0 m pc ls st0) := by
  have hPc := hP
  have hDc := hD
  have hF : ∀ q, va_A wsw H.size q → A q := fun q h => h.elim (fun ⟨k, e, hk⟩ => hD.2 k _ hk) (fun h => hA q (Nat.le_trans hS.1 h))
  have hXc : X (va_A wsw H.size) s H := hok.2.2 _ _ _ _ (hok.2.1 _ _ _ _ hX hS.2.1) hF
  have recv := va_recv hK hP hrc hre
  rw [hvc] at recv
  refine va_calll (va_runV (As := As) (rest := rest) S0 (hC0 H.size) cw ⟨am_blind hok, recv, fun U hU hW => ⟨rfl, by rw [hU], by rw [hU]; exact hPc, va_K.moved hW.alike hKc, hDc.weaken (fun _ _ _ _ => trivial), by rw [hU]; exact hok.1 _ _ _ _ hW.alike hXc⟩⟩ rfl hn hsz hst (lv_room hW8) hdg ⟨hroom.1, hroom.2⟩) hS (fun q _ h => hF q h) hF (fun r u t H1 locs1 ht hvm hw hB hz1 hk1 hS1 => ?_)
  obtain ⟨hP1, hK1, hD1⟩ := hB
  rw [ht] at hP1
  exact kk r u H1 locs1 hw hP1 (hD1.weaken (fun _ _ _ h => hF _ h)) hS1
theorem CTl_Vp (hok : am_ok X) {post : Int64 → S → Prop} {wv : S → va_W} (S0 : CallFix p m c cc nL s args Ts own) (hC0 : CTl l y ws rm D tys X (.ref b :: As) wc post wv) (cw : CallW R s args own C index y bytes maxL ret ws rm 0 0 n) (hKc : va_K D vwCl tys s) (hP : va_P D vwCl wsw H) (hD : va_D A wsw) (hS : va_S A s.heap H locs) (hA : ∀ q, s.heap.size ≤ q → A q) (hX : X A s s.heap) (hK : va_K D vwCl tysW s) (q0 ci : Nat) {fs : List Value} {vc : vw_C} (hrc : vwCl[ci]? = some vc) (hre : wsw[q0]? = some (b, .inr (ci, fs))) (hvc : vc.1 = C) (isC isR : List Nat) (hC : isC.map (fun i => wsw[i]?) = wc.map some) (hR : isR.map (fun i => wsw[i]?) = (isR.filterMap (fun i => wsw[i]?)).map some) (hndC : va_nd isC = true) (hn9 : va_nd isR = true) (hdis : ∀ i ∈ isR, i ∉ isC) (hn : As.length = n) (hsz : ls.size = nL) (hst : st0 = As.reverse ++ .ref b :: rest) (hW8 : (rest.map fun v => v.category).sum ≤ 8) (hroom : cells ≤ R.cells ∧ slots ≤ R.slots) (hdg : decode cc pc = .ok (.invokevirtual index, 3))
    (kk : ∀ (r : Int64) (u : S) (H1 : Heap) (locs1 : List Loc), post r u → va_P D vwCl ((isR.filterMap (fun i => wsw[i]?)) ++ wv u) H1 → va_D A ((isR.filterMap (fun i => wsw[i]?)) ++ wv u) → va_S A s.heap H1 locs1 → W p l e R s m args below meth c H1 locs1 cells slots Q (F0 m (pc + 3) ls (.long r :: rest))) : W p l e R s m args below meth c H locs cells slots Q (F0 m pc ls st0) := by
  have hPc := am_sub hP isC hC
  have hDc := hD.sub isC hndC hC
  have hF := va_free hD hS hA isC hC
  have hXc : X (va_A wc H.size) s H := hok.2.2 _ _ _ _ (hok.2.1 _ _ _ _ hX hS.2.1) hF
  have recv := va_recv hK hP hrc hre
  rw [hvc] at recv
  refine va_calll (va_runV (As := As) (rest := rest) S0 (hC0 H.size) cw ⟨am_blind hok, recv, fun U hU hW => ⟨rfl, by rw [hU], by rw [hU]; exact hPc, va_K.moved hW.alike hKc, hDc.weaken (fun _ _ _ _ => trivial), by rw [hU]; exact hok.1 _ _ _ _ hW.alike hXc⟩⟩ rfl hn hsz hst (lv_room hW8) hdg ⟨hroom.1, hroom.2⟩) hS (fun q _ h => hF q h) hF (fun r u t H1 locs1 ht hvm hw hB hz1 hk1 hS1 => ?_)
  obtain ⟨hP1, hK1, hD1⟩ := hB
  rw [ht] at hP1
  obtain ⟨hP2, hD2⟩ := va_join (wr := isR.filterMap (fun i => wsw[i]?)) (w1 := wv u) hP hD isC isR hC hR hn9 hdis hk1 hF hP1 hD1
  exact kk r u H1 locs1 hw hP2 hD2 hS1
theorem CTl_Sw (hok : am_ok X) {post : Int64 → S → Prop} {wv : S → va_W} (S0 : CallFix p m c cc nL s args Ts own) (hC0 : CTl l y ws rm D tys X As wsw post wv) (cw : CallB R s args own index y bytes maxL ret ws rm 0 0 n ∧ (Cond.static y).before args s = true) (hKc : va_K D vwCl tys s) (hP : va_P D vwCl wsw H) (hD : va_D A wsw) (hS : va_S A s.heap H locs) (hA : ∀ q, s.heap.size ≤ q → A q) (hX : X A s s.heap) (hn : As.length = n) (hsz : ls.size = nL) (hst : st0 = As.reverse ++ rest) (hW8 : (rest.map fun v => v.category).sum ≤ 8) (hroom : cells ≤ R.cells ∧ slots ≤ R.slots) (hdg : decode cc pc = .ok (.invokestatic index, 3))
    (kk : ∀ (r : Int64) (u : S) (H1 : Heap) (locs1 : List Loc), post r u → va_P D vwCl (wv u) H1 → va_D A (wv u) → va_S A s.heap H1 locs1 → W p l e R s m args below meth c H1 locs1 cells slots Q (F0 m (pc + 3) ls (.long r :: rest))) : W p l e R s m args below meth c H locs cells slots Q (F0 m pc ls st0) := by
  have hPc := hP
  have hDc := hD
  have hF : ∀ q, va_A wsw H.size q → A q := fun q h => h.elim (fun ⟨k, e, hk⟩ => hD.2 k _ hk) (fun h => hA q (Nat.le_trans hS.1 h))
  have hXc : X (va_A wsw H.size) s H := hok.2.2 _ _ _ _ (hok.2.1 _ _ _ _ hX hS.2.1) hF
  refine va_calll (va_runS (As := As) (rest := rest) S0 (hC0 H.size) cw ⟨am_blind hok, fun U hU hW => ⟨rfl, by rw [hU], by rw [hU]; exact hPc, va_K.moved hW.alike hKc, hDc.weaken (fun _ _ _ _ => trivial), by rw [hU]; exact hok.1 _ _ _ _ hW.alike hXc⟩⟩ rfl hn hsz hst (lv_room hW8) hdg ⟨hroom.1, hroom.2⟩) hS (fun q _ h => hF q h) hF (fun r u t H1 locs1 ht hvm hw hB hz1 hk1 hS1 => ?_)
  obtain ⟨hP1, hK1, hD1⟩ := hB
  rw [ht] at hP1
  exact kk r u H1 locs1 hw hP1 (hD1.weaken (fun _ _ _ h => hF _ h)) hS1
theorem CTl_Sp (hok : am_ok X) {post : Int64 → S → Prop} {wv : S → va_W} (S0 : CallFix p m c cc nL s args Ts own) (hC0 : CTl l y ws rm D tys X As wc post wv) (cw : CallB R s args own index y bytes maxL ret ws rm 0 0 n ∧ (Cond.static y).before args s = true) (hKc : va_K D vwCl tys s) (hP : va_P D vwCl wsw H) (hD : va_D A wsw) (hS : va_S A s.heap H locs) (hA : ∀ q, s.heap.size ≤ q → A q) (hX : X A s s.heap) (isC isR : List Nat) (hC : isC.map (fun i => wsw[i]?) = wc.map some) (hR : isR.map (fun i => wsw[i]?) = (isR.filterMap (fun i => wsw[i]?)).map some) (hndC : va_nd isC = true) (hn9 : va_nd isR = true) (hdis : ∀ i ∈ isR, i ∉ isC) (hn : As.length = n) (hsz : ls.size = nL) (hst : st0 = As.reverse ++ rest) (hW8 : (rest.map fun v => v.category).sum ≤ 8) (hroom : cells ≤ R.cells ∧ slots ≤ R.slots) (hdg : decode cc pc = .ok (.invokestatic index, 3))
    (kk : ∀ (r : Int64) (u : S) (H1 : Heap) (locs1 : List Loc), post r u → va_P D vwCl ((isR.filterMap (fun i => wsw[i]?)) ++ wv u) H1 → va_D A ((isR.filterMap (fun i => wsw[i]?)) ++ wv u) → va_S A s.heap H1 locs1 → W p l e R s m args below meth c H1 locs1 cells slots Q (F0 m (pc + 3) ls (.long r :: rest))) : W p l e R s m args below meth c H locs cells slots Q (F0 m pc ls st0) := by
  have hPc := am_sub hP isC hC
  have hDc := hD.sub isC hndC hC
  have hF := va_free hD hS hA isC hC
  have hXc : X (va_A wc H.size) s H := hok.2.2 _ _ _ _ (hok.2.1 _ _ _ _ hX hS.2.1) hF
  refine va_calll (va_runS (As := As) (rest := rest) S0 (hC0 H.size) cw ⟨am_blind hok, fun U hU hW => ⟨rfl, by rw [hU], by rw [hU]; exact hPc, va_K.moved hW.alike hKc, hDc.weaken (fun _ _ _ _ => trivial), by rw [hU]; exact hok.1 _ _ _ _ hW.alike hXc⟩⟩ rfl hn hsz hst (lv_room hW8) hdg ⟨hroom.1, hroom.2⟩) hS (fun q _ h => hF q h) hF (fun r u t H1 locs1 ht hvm hw hB hz1 hk1 hS1 => ?_)
  obtain ⟨hP1, hK1, hD1⟩ := hB
  rw [ht] at hP1
  obtain ⟨hP2, hD2⟩ := va_join (wr := isR.filterMap (fun i => wsw[i]?)) (w1 := wv u) hP hD isC isR hC hR hn9 hdis hk1 hF hP1 hD1
  exact kk r u H1 locs1 hw hP2 hD2 hS1
theorem CTl_S0 (hok : am_ok X) {post : Int64 → S → Prop}  (S0 : CallFix p m c cc nL s args Ts own) (hC0 : CTl l y ws rm D tys X As [] post (fun _ => [])) (cw : CallB R s args own index y bytes maxL ret ws rm 0 0 n ∧ (Cond.static y).before args s = true) (hKc : va_K D vwCl tys s) (hP : va_P D vwCl wsw H) (hD : va_D A wsw) (hS : va_S A s.heap H locs) (hA : ∀ q, s.heap.size ≤ q → A q) (hX : X A s s.heap) (hn : As.length = n) (hsz : ls.size = nL) (hst : st0 = As.reverse ++ rest) (hW8 : (rest.map fun v => v.category).sum ≤ 8) (hroom : cells ≤ R.cells ∧ slots ≤ R.slots) (hdg : decode cc pc = .ok (.invokestatic index, 3))
    (kk : ∀ (r : Int64) (u : S) (H1 : Heap) (locs1 : List Loc), post r u → va_P D vwCl (wsw) H1 → va_D A (wsw) → va_S A s.heap H1 locs1 → W p l e R s m args below meth c H1 locs1 cells slots Q (F0 m (pc + 3) ls (.long r :: rest))) : W p l e R s m args below meth c H locs cells slots Q (F0 m pc ls st0) := by
  have hPc : va_P D vwCl [] H := fun k q h => by simp at h
  have hDc : va_D A [] := ⟨fun i j p q h => by simp at h, fun k q h => by simp at h⟩
  have hF : ∀ q, va_A [] H.size q → A q := fun q h => h.elim (fun ⟨k, e, hk⟩ => by simp at hk) (fun h => hA q (Nat.le_trans hS.1 h))
  have hXc : X (va_A [] H.size) s H := hok.2.2 _ _ _ _ (hok.2.1 _ _ _ _ hX hS.2.1) hF
  refine va_calll (va_runS (As := As) (rest := rest) S0 (hC0 H.size) cw ⟨am_blind hok, fun U hU hW => ⟨rfl, by rw [hU], by rw [hU]; exact hPc, va_K.moved hW.alike hKc, hDc.weaken (fun _ _ _ _ => trivial), by rw [hU]; exact hok.1 _ _ _ _ hW.alike hXc⟩⟩ rfl hn hsz hst (lv_room hW8) hdg ⟨hroom.1, hroom.2⟩) hS (fun q _ h => hF q h) hF (fun r u t H1 locs1 ht hvm hw hB hz1 hk1 hS1 => ?_)
  obtain ⟨hP1, hK1, hD1⟩ := hB
  rw [ht] at hP1
  exact kk r u H1 locs1 hw (hP.kept (fun k9 x h9 => hk1 _ (hP k9 x h9).lt (fun h => h.elim (fun ⟨k, e, hk⟩ => by simp at hk) (fun h => absurd ((hP k9 x h9).lt) (Nat.not_lt.mpr h))))) hD hS1
theorem CTv_Vw (hok : am_ok X) {post : S → Prop} {wv : S → va_W} (S0 : CallFix p m c cc nL s args Ts own) (hC0 : CTv l y ws rm D tys X (.ref b :: As) wsw post wv) (cw : CallW R s args own C index y bytes maxL ret ws rm 0 0 n) (hKc : va_K D vwCl tys s) (hP : va_P D vwCl wsw H) (hD : va_D A wsw) (hS : va_S A s.heap H locs) (hA : ∀ q, s.heap.size ≤ q → A q) (hX : X A s s.heap) (hK : va_K D vwCl tysW s) (q0 ci : Nat) {fs : List Value} {vc : vw_C} (hrc : vwCl[ci]? = some vc) (hre : wsw[q0]? = some (b, .inr (ci, fs))) (hvc : vc.1 = C) (hn : As.length = n) (hsz : ls.size = nL) (hst : st0 = As.reverse ++ .ref b :: rest) (hW8 : (rest.map fun v => v.category).sum ≤ 8) (hroom : cells ≤ R.cells ∧ slots ≤ R.slots) (hdg : decode cc pc = .ok (.invokevirtual index, 3))
    (kk : ∀ (u : S) (H1 : Heap) (locs1 : List Loc), post u → va_P D vwCl (wv u) H1 → va_D A (wv u) → va_S A s.heap H1 locs1 → W p l e R s m args below meth c H1 locs1 cells slots Q (F0 m (pc + 3) ls (rest))) : W p l e R s m args below meth c H locs cells slots Q (F0 m pc ls st0) := by
  have hPc := hP
  have hDc := hD
  have hF : ∀ q, va_A wsw H.size q → A q := fun q h => h.elim (fun ⟨k, e, hk⟩ => hD.2 k _ hk) (fun h => hA q (Nat.le_trans hS.1 h))
  have hXc : X (va_A wsw H.size) s H := hok.2.2 _ _ _ _ (hok.2.1 _ _ _ _ hX hS.2.1) hF
  have recv := va_recv hK hP hrc hre
  rw [hvc] at recv
  refine va_callv (va_runV (As := As) (rest := rest) S0 (hC0 H.size) cw ⟨am_blind hok, recv, fun U hU hW => ⟨rfl, by rw [hU], by rw [hU]; exact hPc, va_K.moved hW.alike hKc, hDc.weaken (fun _ _ _ _ => trivial), by rw [hU]; exact hok.1 _ _ _ _ hW.alike hXc⟩⟩ rfl hn hsz hst (lv_room hW8) hdg ⟨hroom.1, hroom.2⟩) hS (fun q _ h => hF q h) hF (fun u t H1 locs1 ht hvm hw hB hz1 hk1 hS1 => ?_)
  obtain ⟨hP1, hK1, hD1⟩ := hB
  rw [ht] at hP1
  exact kk u H1 locs1 hw hP1 (hD1.weaken (fun _ _ _ h => hF _ h)) hS1
theorem CTv_Vp (hok : am_ok X) {post : S → Prop} {wv : S → va_W} (S0 : CallFix p m c cc nL s args Ts own) (hC0 : CTv l y ws rm D tys X (.ref b :: As) wc post wv) (cw : CallW R s args own C index y bytes maxL ret ws rm 0 0 n) (hKc : va_K D vwCl tys s) (hP : va_P D vwCl wsw H) (hD : va_D A wsw) (hS : va_S A s.heap H locs) (hA : ∀ q, s.heap.size ≤ q → A q) (hX : X A s s.heap) (hK : va_K D vwCl tysW s) (q0 ci : Nat) {fs : List Value} {vc : vw_C} (hrc : vwCl[ci]? = some vc) (hre : wsw[q0]? = some (b, .inr (ci, fs))) (hvc : vc.1 = C) (isC isR : List Nat) (hC : isC.map (fun i => wsw[i]?) = wc.map some) (hR : isR.map (fun i => wsw[i]?) = (isR.filterMap (fun i => wsw[i]?)).map some) (hndC : va_nd isC = true) (hn9 : va_nd isR = true) (hdis : ∀ i ∈ isR, i ∉ isC) (hn : As.length = n) (hsz : ls.size = nL) (hst : st0 = As.reverse ++ .ref b :: rest) (hW8 : (rest.map fun v => v.category).sum ≤ 8) (hroom : cells ≤ R.cells ∧ slots ≤ R.slots) (hdg : decode cc pc = .ok (.invokevirtual index, 3))
    (kk : ∀ (u : S) (H1 : Heap) (locs1 : List Loc), post u → va_P D vwCl ((isR.filterMap (fun i => wsw[i]?)) ++ wv u) H1 → va_D A ((isR.filterMap (fun i => wsw[i]?)) ++ wv u) → va_S A s.heap H1 locs1 → W p l e R s m args below meth c H1 locs1 cells slots Q (F0 m (pc + 3) ls (rest))) : W p l e R s m args below meth c H locs cells slots Q (F0 m pc ls st0) := by
  have hPc := am_sub hP isC hC
  have hDc := hD.sub isC hndC hC
  have hF := va_free hD hS hA isC hC
  have hXc : X (va_A wc H.size) s H := hok.2.2 _ _ _ _ (hok.2.1 _ _ _ _ hX hS.2.1) hF
  have recv := va_recv hK hP hrc hre
  rw [hvc] at recv
  refine va_callv (va_runV (As := As) (rest := rest) S0 (hC0 H.size) cw ⟨am_blind hok, recv, fun U hU hW => ⟨rfl, by rw [hU], by rw [hU]; exact hPc, va_K.moved hW.alike hKc, hDc.weaken (fun _ _ _ _ => trivial), by rw [hU]; exact hok.1 _ _ _ _ hW.alike hXc⟩⟩ rfl hn hsz hst (lv_room hW8) hdg ⟨hroom.1, hroom.2⟩) hS (fun q _ h => hF q h) hF (fun u t H1 locs1 ht hvm hw hB hz1 hk1 hS1 => ?_)
  obtain ⟨hP1, hK1, hD1⟩ := hB
  rw [ht] at hP1
  obtain ⟨hP2, hD2⟩ := va_join (wr := isR.filterMap (fun i => wsw[i]?)) (w1 := wv u) hP hD isC isR hC hR hn9 hdis hk1 hF hP1 hD1
  exact kk u H1 locs1 hw hP2 hD2 hS1
theorem CTv_Sw (hok : am_ok X) {post : S → Prop} {wv : S → va_W} (S0 : CallFix p m c cc nL s args Ts own) (hC0 : CTv l y ws rm D tys X As wsw post wv) (cw : CallB R s args own index y bytes maxL ret ws rm 0 0 n ∧ (Cond.static y).before args s = true) (hKc : va_K D vwCl tys s) (hP : va_P D vwCl wsw H) (hD : va_D A wsw) (hS : va_S A s.heap H locs) (hA : ∀ q, s.heap.size ≤ q → A q) (hX : X A s s.heap) (hn : As.length = n) (hsz : ls.size = nL) (hst : st0 = As.reverse ++ rest) (hW8 : (rest.map fun v => v.category).sum ≤ 8) (hroom : cells ≤ R.cells ∧ slots ≤ R.slots) (hdg : decode cc pc = .ok (.invokestatic index, 3))
    (kk : ∀ (u : S) (H1 : Heap) (locs1 : List Loc), post u → va_P D vwCl (wv u) H1 → va_D A (wv u) → va_S A s.heap H1 locs1 → W p l e R s m args below meth c H1 locs1 cells slots Q (F0 m (pc + 3) ls (rest))) : W p l e R s m args below meth c H locs cells slots Q (F0 m pc ls st0) := by
  have hPc := hP
  have hDc := hD
  have hF : ∀ q, va_A wsw H.size q → A q := fun q h => h.elim (fun ⟨k, e, hk⟩ => hD.2 k _ hk) (fun h => hA q (Nat.le_trans hS.1 h))
  have hXc : X (va_A wsw H.size) s H := hok.2.2 _ _ _ _ (hok.2.1 _ _ _ _ hX hS.2.1) hF
  refine va_callv (va_runS (As := As) (rest := rest) S0 (hC0 H.size) cw ⟨am_blind hok, fun U hU hW => ⟨rfl, by rw [hU], by rw [hU]; exact hPc, va_K.moved hW.alike hKc, hDc.weaken (fun _ _ _ _ => trivial), by rw [hU]; exact hok.1 _ _ _ _ hW.alike hXc⟩⟩ rfl hn hsz hst (lv_room hW8) hdg ⟨hroom.1, hroom.2⟩) hS (fun q _ h => hF q h) hF (fun u t H1 locs1 ht hvm hw hB hz1 hk1 hS1 => ?_)
  obtain ⟨hP1, hK1, hD1⟩ := hB
  rw [ht] at hP1
  exact kk u H1 locs1 hw hP1 (hD1.weaken (fun _ _ _ h => hF _ h)) hS1
theorem CTv_Sp (hok : am_ok X) {post : S → Prop} {wv : S → va_W} (S0 : CallFix p m c cc nL s args Ts own) (hC0 : CTv l y ws rm D tys X As wc post wv) (cw : CallB R s args own index y bytes maxL ret ws rm 0 0 n ∧ (Cond.static y).before args s = true) (hKc : va_K D vwCl tys s) (hP : va_P D vwCl wsw H) (hD : va_D A wsw) (hS : va_S A s.heap H locs) (hA : ∀ q, s.heap.size ≤ q → A q) (hX : X A s s.heap) (isC isR : List Nat) (hC : isC.map (fun i => wsw[i]?) = wc.map some) (hR : isR.map (fun i => wsw[i]?) = (isR.filterMap (fun i => wsw[i]?)).map some) (hndC : va_nd isC = true) (hn9 : va_nd isR = true) (hdis : ∀ i ∈ isR, i ∉ isC) (hn : As.length = n) (hsz : ls.size = nL) (hst : st0 = As.reverse ++ rest) (hW8 : (rest.map fun v => v.category).sum ≤ 8) (hroom : cells ≤ R.cells ∧ slots ≤ R.slots) (hdg : decode cc pc = .ok (.invokestatic index, 3))
    (kk : ∀ (u : S) (H1 : Heap) (locs1 : List Loc), post u → va_P D vwCl ((isR.filterMap (fun i => wsw[i]?)) ++ wv u) H1 → va_D A ((isR.filterMap (fun i => wsw[i]?)) ++ wv u) → va_S A s.heap H1 locs1 → W p l e R s m args below meth c H1 locs1 cells slots Q (F0 m (pc + 3) ls (rest))) : W p l e R s m args below meth c H locs cells slots Q (F0 m pc ls st0) := by
  have hPc := am_sub hP isC hC
  have hDc := hD.sub isC hndC hC
  have hF := va_free hD hS hA isC hC
  have hXc : X (va_A wc H.size) s H := hok.2.2 _ _ _ _ (hok.2.1 _ _ _ _ hX hS.2.1) hF
  refine va_callv (va_runS (As := As) (rest := rest) S0 (hC0 H.size) cw ⟨am_blind hok, fun U hU hW => ⟨rfl, by rw [hU], by rw [hU]; exact hPc, va_K.moved hW.alike hKc, hDc.weaken (fun _ _ _ _ => trivial), by rw [hU]; exact hok.1 _ _ _ _ hW.alike hXc⟩⟩ rfl hn hsz hst (lv_room hW8) hdg ⟨hroom.1, hroom.2⟩) hS (fun q _ h => hF q h) hF (fun u t H1 locs1 ht hvm hw hB hz1 hk1 hS1 => ?_)
  obtain ⟨hP1, hK1, hD1⟩ := hB
  rw [ht] at hP1
  obtain ⟨hP2, hD2⟩ := va_join (wr := isR.filterMap (fun i => wsw[i]?)) (w1 := wv u) hP hD isC isR hC hR hn9 hdis hk1 hF hP1 hD1
  exact kk u H1 locs1 hw hP2 hD2 hS1
theorem CTv_S0 (hok : am_ok X) {post : S → Prop}  (S0 : CallFix p m c cc nL s args Ts own) (hC0 : CTv l y ws rm D tys X As [] post (fun _ => [])) (cw : CallB R s args own index y bytes maxL ret ws rm 0 0 n ∧ (Cond.static y).before args s = true) (hKc : va_K D vwCl tys s) (hP : va_P D vwCl wsw H) (hD : va_D A wsw) (hS : va_S A s.heap H locs) (hA : ∀ q, s.heap.size ≤ q → A q) (hX : X A s s.heap) (hn : As.length = n) (hsz : ls.size = nL) (hst : st0 = As.reverse ++ rest) (hW8 : (rest.map fun v => v.category).sum ≤ 8) (hroom : cells ≤ R.cells ∧ slots ≤ R.slots) (hdg : decode cc pc = .ok (.invokestatic index, 3))
    (kk : ∀ (u : S) (H1 : Heap) (locs1 : List Loc), post u → va_P D vwCl (wsw) H1 → va_D A (wsw) → va_S A s.heap H1 locs1 → W p l e R s m args below meth c H1 locs1 cells slots Q (F0 m (pc + 3) ls (rest))) : W p l e R s m args below meth c H locs cells slots Q (F0 m pc ls st0) := by
  have hPc : va_P D vwCl [] H := fun k q h => by simp at h
  have hDc : va_D A [] := ⟨fun i j p q h => by simp at h, fun k q h => by simp at h⟩
  have hF : ∀ q, va_A [] H.size q → A q := fun q h => h.elim (fun ⟨k, e, hk⟩ => by simp at hk) (fun h => hA q (Nat.le_trans hS.1 h))
  have hXc : X (va_A [] H.size) s H := hok.2.2 _ _ _ _ (hok.2.1 _ _ _ _ hX hS.2.1) hF
  refine va_callv (va_runS (As := As) (rest := rest) S0 (hC0 H.size) cw ⟨am_blind hok, fun U hU hW => ⟨rfl, by rw [hU], by rw [hU]; exact hPc, va_K.moved hW.alike hKc, hDc.weaken (fun _ _ _ _ => trivial), by rw [hU]; exact hok.1 _ _ _ _ hW.alike hXc⟩⟩ rfl hn hsz hst (lv_room hW8) hdg ⟨hroom.1, hroom.2⟩) hS (fun q _ h => hF q h) hF (fun u t H1 locs1 ht hvm hw hB hz1 hk1 hS1 => ?_)
  obtain ⟨hP1, hK1, hD1⟩ := hB
  rw [ht] at hP1
  exact kk u H1 locs1 hw (hP.kept (fun k9 x h9 => hk1 _ (hP k9 x h9).lt (fun h => h.elim (fun ⟨k, e, hk⟩ => by simp at hk) (fun h => absurd ((hP k9 x h9).lt) (Nat.not_lt.mpr h))))) hD hS1
end CALLS
