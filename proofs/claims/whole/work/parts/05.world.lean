/-! THE TWO OBJECTS' CELLS -/
theorem nI_decp {a : Nat} (h : 1 ≤ a) : nI a + Int32.ofInt (-1) = nI (a - 1) := by
  obtain ⟨k, rfl⟩ : ∃ k, a = k + 1 := ⟨a - 1, by omega⟩
  exact nI_dec k

def tysA (cI cL cQ : ClassId) : List (ClassId × FieldType) := [(cI, .int), (cL, .long), (cQ, .array .int)]
/-- the cells of the one object: itself, its rows -/
abbrev wC (ad : Nat → Nat) (cI cL cQ : ClassId) (ix pw sg tm : Nat → Int32) (hd : Nat → Nat → Int32) (wk rc lc : Nat → Int64) (P G D F : Nat) : va_W :=
  [(ad 0, .inr (0, [.ref (ad 1), .ref (ad 2), .ref (ad 3), .ref (ad 4), .ref (ad 5), .ref (ad 6), .ref (ad 7), .ref (ad 8), .int (nI P), .int (nI G), .int (nI D), .int (nI F)])),
   (ad 1, .inl (cI, 199, .inl ix)), (ad 2, .inl (cI, 199, .inl pw)), (ad 3, .inl (cI, 199, .inl sg)), (ad 4, .inl (cI, 199, .inl tm)),
   (ad 5, .inl (cQ, 6, .inr (.inr (.inr (.inr (fun i => if i < 6 then some (ad (9 + i)) else none)))))),
   (ad 6, .inl (cL, 12, .inr (.inl wk))), (ad 7, .inl (cL, 12, .inr (.inl rc))), (ad 8, .inl (cL, 12, .inr (.inl lc))),
   (ad 9, .inl (cI, 10, .inl (hd 0))), (ad 10, .inl (cI, 10, .inl (hd 1))), (ad 11, .inl (cI, 10, .inl (hd 2))), (ad 12, .inl (cI, 10, .inl (hd 3))), (ad 13, .inl (cI, 10, .inl (hd 4))), (ad 14, .inl (cI, 10, .inl (hd 5)))]
/-- the cells of the other one -/
abbrev wM (ad : Nat → Nat) (cI cL : ClassId) (P G D F : Nat) (ix : Nat → Int32) (ho : Nat → Int64) (re : Nat → Int32) (wk tu wa nx : Nat → Int64) : va_W :=
  [(ad 0, .inr (1, [.int (nI P), .int (nI G), .int (nI D), .int (nI F), .ref (ad 1), .ref (ad 2), .ref (ad 3), .ref (ad 4), .ref (ad 5), .ref (ad 6), .ref (ad 7)])),
   (ad 1, .inl (cI, 200, .inl ix)), (ad 2, .inl (cL, 72, .inr (.inl ho))), (ad 3, .inl (cI, 13, .inl re)), (ad 4, .inl (cL, 24, .inr (.inl wk))), (ad 5, .inl (cL, 24, .inr (.inl tu))), (ad 6, .inl (cL, 200, .inr (.inl wa))), (ad 7, .inl (cL, 200, .inr (.inl nx)))]
section HD
variable {ad : Nat → Nat} {cI cL cQ : ClassId} {ix pw sg tm : Nat → Int32} {hd : Nat → Nat → Int32} {wk rc lc : Nat → Int64} {P G D F : Nat}
theorem hd_get {i : Nat} (hi : i < 6) : (wC ad cI cL cQ ix pw sg tm hd wk rc lc P G D F)[9 + i]? = some (ad (9 + i), .inl (cI, 10, .inl (hd i))) := by
  match i, hi with
  | 0, _ => rfl
  | 1, _ => rfl
  | 2, _ => rfl
  | 3, _ => rfl
  | 4, _ => rfl
  | 5, _ => rfl
theorem hd_set {i : Nat} (hi : i < 6) {g : Nat → Int32} : (wC ad cI cL cQ ix pw sg tm hd wk rc lc P G D F).set (9 + i) (ad (9 + i), .inl (cI, 10, .inl g)) = wC ad cI cL cQ ix pw sg tm (va_up hd i g) wk rc lc P G D F := by
  match i, hi with
  | 0, _ => rfl
  | 1, _ => rfl
  | 2, _ => rfl
  | 3, _ => rfl
  | 4, _ => rfl
  | 5, _ => rfl
end HD

def relT : List Int := [(-1), 0, 0, 0, 0, 0, 0, 0, 0, 0, 1, 0, 0, 0, 0, 0, 0, 0, 0, 0, 1, 1, 0, 0, 0, 0, 0, 0, 0, 0, 1, 0, 0, 0, 0, 0, 0, 0, 0, 0, 1, 1, 1, 1, 0, 0, 0, 0, 0, 0, 1, (-1), 0, 0, 0, 0, 0, 0, 0, 0, 1, 1, 1, 1, 1, 1, 0, 0, 0, 0, 1, 0, 0, 0, 0, 0, 0, 0, 0, 0, 1, 0, 0, 1, 0, 0, 0, 0, 0, 0, 1, (-1), 1, (-1), 0, 0, 0, 0, 0, 0, 1, 1, 1, 1, 1, 1, 1, 1, 1, 1, 1, 0, (-1), 0, 0, 0, 0, 0, 0, 0]
def relC (j : Nat) : Int := relT.getD j 0
def rX (tR : Nat) : (Nat → Prop) → State → Heap → Prop := fun A U H => va_Z "TurningSums" "RELATIONS" "[I" (.ref tR) A U H ∧ va_T .int tR 120 (fun j => .int (zI (relC j))) A U H
theorem rX_ok (tR : Nat) : am_ok (rX tR) :=
  ⟨fun _ _ _ _ h q => ⟨q.1.moved h, q.2.moved h⟩, fun _ _ _ _ q h => ⟨q.1.kept h, q.2.kept h⟩, fun _ _ _ _ q h => ⟨q.1.narrow h, q.2.narrow h⟩⟩
theorem zI_toNat {z : Int} (h : 0 ≤ z) : zI z = nI z.toNat := by rw [nI_zI, Int.toNat_of_nonneg h]
section WORLD
variable {p : Program} {l : Launch} {e : Env} {R : Room} {s : State} {m : MethodId} {args : Array Value} {below : List Frame} {meth : Method} {c : Code} {H : Heap} {locs : List Loc} {cells slots : Nat} {Q : State → Prop}
variable {cc : ByteArray} {pc : Nat} {ls : Array Slot} {rest : List Value} {D : va_G} {cl : List vw_C} {A : Nat → Prop} {a : Nat} {tys : List (ClassId × FieldType)} {ws : va_W} {H0 : Heap}
theorem tq_ldc (hx : p.tables.exec = Jvm.exec) (hb : c.code = cc) {own : String} {index : Nat} {k : Int} (hown : s.vm.findClass own = some m.cls) (hconst : (Jvm.Cond.constant own index (zI k)).before args s = true) (hdg : decode cc pc = .ok (.ldc index, 2)) (kk : W p l e R s m args below meth c H locs cells slots Q (F0 m (pc + 2) ls (.int (zI k) :: rest))) : W p l e R s m args below meth c H locs cells slots Q (F0 m pc ls (rest)) := lv_ldc hx hb hown hconst hdg kk
theorem tq_ldc2 (hx : p.tables.exec = Jvm.exec) (hb : c.code = cc) {own : String} {index : Nat} {k : Int} (hown : s.vm.findClass own = some m.cls) (hconst : (Jvm.Cond.constantLong own index (zL k)).before args s = true) (hdg : decode cc pc = .ok (.ldc2_w index, 3)) (kk : W p l e R s m args below meth c H locs cells slots Q (F0 m (pc + 3) ls (.long (zL k) :: rest))) : W p l e R s m args below meth c H locs cells slots Q (F0 m pc ls (rest)) := lv_ldc2 hx hb hown hconst hdg kk
theorem nv_rel (hx : p.tables.exec = Jvm.exec) (hb : c.code = cc) {t : Nat} (hT : va_T .int t 120 (fun j => .int (zI (relC j))) A s s.heap) (hS : va_S A s.heap H locs) {i : Nat} (hi : i < 120) (hdg : decode cc pc = .ok (.iaload, 1)) (kk : W p l e R s m args below meth c H locs cells slots Q (F0 m (pc + 1) ls (.int (zI (relC i)) :: rest))) : W p l e R s m args below meth c H locs cells slots Q (F0 m pc ls (.int (nI i) :: .ref t :: rest)) :=
  va_ti hx hb hT hS (vp_in_nI hi (by decide)) (by rw [nI_clamp (by omega)]) hdg kk
theorem tq_i3 {v0 v1 : Value} {x y : Int32} (h : x = y) (k : W p l e R s m args below meth c H locs cells slots Q (F0 m pc ls (v0 :: v1 :: .int y :: rest))) : W p l e R s m args below meth c H locs cells slots Q (F0 m pc ls (v0 :: v1 :: .int x :: rest)) := by
  rw [h]; exact k
theorem tq_i4 {v0 v1 v2 : Value} {x y : Int32} (h : x = y) (k : W p l e R s m args below meth c H locs cells slots Q (F0 m pc ls (v0 :: v1 :: v2 :: .int y :: rest))) : W p l e R s m args below meth c H locs cells slots Q (F0 m pc ls (v0 :: v1 :: v2 :: .int x :: rest)) := by
  rw [h]; exact k
theorem cv_if_lt (hx : p.tables.exec = Jvm.exec) (hb : c.code = cc) {x y : Int64} {off : Int} {tgt : Nat} (hdg : decode cc pc = .ok (.ifCond .lt off, 3)) (ht : (pc : Int) + off = (tgt : Int)) (kt : x < y → W p l e R s m args below meth c H locs cells slots Q (F0 m tgt ls rest)) (kf : ¬ x < y → W p l e R s m args below meth c H locs cells slots Q (F0 m (pc + 3) ls rest)) : W p l e R s m args below meth c H locs cells slots Q (F0 m pc ls (.int (lg_cmp x y) :: rest)) :=
  lv_if_lt hx hb hdg ht (fun h => kt ((lg_cmp_lt x y).mp h)) (fun h => kf (fun q => h ((lg_cmp_lt x y).mpr q)))
theorem cv_if_le (hx : p.tables.exec = Jvm.exec) (hb : c.code = cc) {x y : Int64} {off : Int} {tgt : Nat} (hdg : decode cc pc = .ok (.ifCond .le off, 3)) (ht : (pc : Int) + off = (tgt : Int)) (kt : x ≤ y → W p l e R s m args below meth c H locs cells slots Q (F0 m tgt ls rest)) (kf : ¬ x ≤ y → W p l e R s m args below meth c H locs cells slots Q (F0 m (pc + 3) ls rest)) : W p l e R s m args below meth c H locs cells slots Q (F0 m pc ls (.int (lg_cmp x y) :: rest)) :=
  lv_if_le hx hb hdg ht (fun h => kt ((lg_cmp_le x y).mp h)) (fun h => kf (fun q => h ((lg_cmp_le x y).mpr q)))
theorem cv_if_gt (hx : p.tables.exec = Jvm.exec) (hb : c.code = cc) {x y : Int64} {off : Int} {tgt : Nat} (hdg : decode cc pc = .ok (.ifCond .gt off, 3)) (ht : (pc : Int) + off = (tgt : Int)) (kt : y < x → W p l e R s m args below meth c H locs cells slots Q (F0 m tgt ls rest)) (kf : ¬ y < x → W p l e R s m args below meth c H locs cells slots Q (F0 m (pc + 3) ls rest)) : W p l e R s m args below meth c H locs cells slots Q (F0 m pc ls (.int (lg_cmp x y) :: rest)) :=
  lv_if_gt hx hb hdg ht (fun h => kt ((lg_cmp_gt x y).mp h)) (fun h => kf (fun q => h ((lg_cmp_gt x y).mpr q)))
theorem cv_if_ge (hx : p.tables.exec = Jvm.exec) (hb : c.code = cc) {x y : Int64} {off : Int} {tgt : Nat} (hdg : decode cc pc = .ok (.ifCond .ge off, 3)) (ht : (pc : Int) + off = (tgt : Int)) (kt : y ≤ x → W p l e R s m args below meth c H locs cells slots Q (F0 m tgt ls rest)) (kf : ¬ y ≤ x → W p l e R s m args below meth c H locs cells slots Q (F0 m (pc + 3) ls rest)) : W p l e R s m args below meth c H locs cells slots Q (F0 m pc ls (.int (lg_cmp x y) :: rest)) :=
  lv_if_ge hx hb hdg ht (fun h => kt ((lg_cmp_ge x y).mp h)) (fun h => kf (fun q => h ((lg_cmp_ge x y).mpr q)))
theorem cv_if_eq (hx : p.tables.exec = Jvm.exec) (hb : c.code = cc) {x y : Int64} {off : Int} {tgt : Nat} (hdg : decode cc pc = .ok (.ifCond .eq off, 3)) (ht : (pc : Int) + off = (tgt : Int)) (kt : x = y → W p l e R s m args below meth c H locs cells slots Q (F0 m tgt ls rest)) (kf : ¬ x = y → W p l e R s m args below meth c H locs cells slots Q (F0 m (pc + 3) ls rest)) : W p l e R s m args below meth c H locs cells slots Q (F0 m pc ls (.int (lg_cmp x y) :: rest)) :=
  lv_if_eq hx hb hdg ht (fun h => kt ((lg_cmp_eq x y).mp h)) (fun h => kf (fun q => h ((lg_cmp_eq x y).mpr q)))
theorem cv_if_ne (hx : p.tables.exec = Jvm.exec) (hb : c.code = cc) {x y : Int64} {off : Int} {tgt : Nat} (hdg : decode cc pc = .ok (.ifCond .ne off, 3)) (ht : (pc : Int) + off = (tgt : Int)) (kt : ¬ x = y → W p l e R s m args below meth c H locs cells slots Q (F0 m tgt ls rest)) (kf : x = y → W p l e R s m args below meth c H locs cells slots Q (F0 m (pc + 3) ls rest)) : W p l e R s m args below meth c H locs cells slots Q (F0 m pc ls (.int (lg_cmp x y) :: rest)) :=
  lv_if_ne hx hb hdg ht (fun h => kt (fun q => h ((lg_cmp_eq x y).mpr q))) (fun h => kf ((lg_cmp_eq x y).mp h))
theorem bo_0 {b : Prop} [Decidable b] (h : (if b then (1 : Int32) else 0) = 0) : ¬ b := fun q => by rw [if_pos q] at h; exact absurd h (by decide)
theorem bo_1 {b : Prop} [Decidable b] (h : ¬ (if b then (1 : Int32) else 0) = 0) : b := by
  by_cases q : b
  · exact q
  · rw [if_neg q] at h; exact absurd rfl h
theorem bo_c {b d : Prop} [Decidable b] [Decidable d] (h : b ↔ d) : (if b then (1 : Int32) else 0) = if d then 1 else 0 := by
  by_cases q : b
  · rw [if_pos q, if_pos (h.mp q)]
  · rw [if_neg q, if_neg (fun z => q (h.mpr z))]
theorem bv_if_eq (hx : p.tables.exec = Jvm.exec) (hb : c.code = cc) {b : Prop} [Decidable b] {off : Int} {tgt : Nat} (hdg : decode cc pc = .ok (.ifCond .eq off, 3)) (ht : (pc : Int) + off = (tgt : Int)) (kt : ¬ b → W p l e R s m args below meth c H locs cells slots Q (F0 m tgt ls rest)) (kf : b → W p l e R s m args below meth c H locs cells slots Q (F0 m (pc + 3) ls rest)) : W p l e R s m args below meth c H locs cells slots Q (F0 m pc ls (.int (if b then 1 else 0) :: rest)) :=
  lv_if_eq hx hb hdg ht (fun h => kt (bo_0 h)) (fun h => kf (bo_1 h))
theorem bv_if_ne (hx : p.tables.exec = Jvm.exec) (hb : c.code = cc) {b : Prop} [Decidable b] {off : Int} {tgt : Nat} (hdg : decode cc pc = .ok (.ifCond .ne off, 3)) (ht : (pc : Int) + off = (tgt : Int)) (kt : b → W p l e R s m args below meth c H locs cells slots Q (F0 m tgt ls rest)) (kf : ¬ b → W p l e R s m args below meth c H locs cells slots Q (F0 m (pc + 3) ls rest)) : W p l e R s m args below meth c H locs cells slots Q (F0 m pc ls (.int (if b then 1 else 0) :: rest)) :=
  lv_if_ne hx hb hdg ht (fun h => kt (bo_1 h)) (fun h => kf (bo_0 h))
end WORLD
