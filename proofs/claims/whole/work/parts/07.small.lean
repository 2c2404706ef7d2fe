set_option maxHeartbeats 4000000 in
set_option maxRecDepth 100000 in
theorem c_J9_floorMod_7cf53 (l : Launch) (dd : va_G) {cI cL cQ : ClassId}   {x : Int} {n : Nat} (hxr : -2147483648 ≤ x ∧ x < 2147483648) (h0 : 0 < n) (hn : n < 2147483648) : CTi l yJ9_floorMod_7cf53 wsJ9_floorMod_7cf53 ({ frames := 0, cells := 0, slots := 0, locals := 0 } : Room) dd (tysA cI cL cQ) (am_no) [.int (zI (x)), .int (nI (n))] [] (fun (r : Int32) (u : Unit) => r = nI (fmN x n)) (fun (_ : Unit) => []) := by
  refine CTi_of (cc := cJ9_floorMod_7cf53) (maxL := 3) (by decide +kernel) rfl (Nat.le_of_ble_eq_true rfl) ?_
  intro p e s m args below meth c A Q ls H locs hx hb hts hown hml hP hK hD hS hA hX hl hret
  have hl : lv_has ls 3 [(0, .int (zI (x))), (1, .int (nI (n)))] := hl
  refine lv_iload_n (pc := 0) hx hb dJ9_floorMod_7cf53_0 rfl (lv_at hl 0 rfl) ?_
  refine lv_iload_n (pc := 1) hx hb dJ9_floorMod_7cf53_1 rfl (lv_at hl 1 rfl) ?_
  refine lv_irem (pc := 2) hx hb dJ9_floorMod_7cf53_2 (nI_ne0 h0 hn) ?_
  refine tq_i (y := zI ((x.tmod (n : Int)))) (zI_rem hxr h0 hn) ?_
  refine lv_istore_n (pc := 3) (lv' := [(2, .int (zI ((x.tmod (n : Int))))), (0, .int (zI (x))), (1, .int (nI (n)))]) hx hb dJ9_floorMod_7cf53_3 rfl hl (by decide) rfl (fun ls hl => ?_)
  refine lv_iload_n (pc := 4) hx hb dJ9_floorMod_7cf53_4 rfl (lv_at hl 1 rfl) ?_
  refine lv_iload_n (pc := 5) hx hb dJ9_floorMod_7cf53_5 rfl (lv_at hl 2 rfl) ?_
  refine lv_ixor (pc := 6) hx hb dJ9_floorMod_7cf53_6 ?_
  refine lv_if_ge (pc := 7) (tgt := 18) hx hb dJ9_floorMod_7cf53_7 (by decide) (fun h7 => ?_) (fun h7 => ?_)
  · skip
    have h7 := (xor_sign hxr hn).mp h7
    refine lv_iload_n (pc := 18) hx hb dJ9_floorMod_7cf53_18 rfl (lv_at hl 0 rfl) ?_
    exact hret _ _ _ _ _ (()) (by show zI (x.tmod (n : Int)) = nI (fmN x n); rw [nI_zI, fm_pos h7 h0]) hP hD hS dJ9_floorMod_7cf53_19
  · skip
    have h7 : ¬ 0 ≤ x := fun q => h7 ((xor_sign hxr hn).mpr q)
    refine lv_iload_n (pc := 10) hx hb dJ9_floorMod_7cf53_10 rfl (lv_at hl 0 rfl) ?_
    refine zv_if_eq (pc := 11) (tgt := 18) hx hb (by have := fm_rng (x := x) h0; omega) dJ9_floorMod_7cf53_11 (by decide) (fun h11 => ?_) (fun h11 => ?_)
    · skip
      refine lv_iload_n (pc := 18) hx hb dJ9_floorMod_7cf53_18 rfl (lv_at hl 0 rfl) ?_
      exact hret _ _ _ _ _ (()) (by show zI (x.tmod (n : Int)) = nI (fmN x n); rw [h11, fm_zero h0 h11]; rfl) hP hD hS dJ9_floorMod_7cf53_19
    · skip
      refine lv_iload_n (pc := 14) hx hb dJ9_floorMod_7cf53_14 rfl (lv_at hl 0 rfl) ?_
      refine lv_iload_n (pc := 15) hx hb dJ9_floorMod_7cf53_15 rfl (lv_at hl 2 rfl) ?_
      refine zv_2 (pc := 16) (a := ((n : Nat) : Int)) (b := (x.tmod (n : Int))) ((nI_zI _)) (rfl) ?_
      refine zv_iadd (pc := 16) hx hb dJ9_floorMod_7cf53_16 ?_
      exact hret _ _ _ _ _ (()) (by show zI (x.tmod (n : Int) + ((n : Nat) : Int)) = nI (fmN x n); rw [fm_neg (by omega) h0 h11, ← nI_zI]) hP hD hS dJ9_floorMod_7cf53_17
set_option maxHeartbeats 4000000 in
set_option maxRecDepth 100000 in
theorem c_J7_fill_53178 (l : Launch) (dd : va_G) {cI cL cQ : ClassId} {aa : Nat}  {n : Nat} {f : Nat → Int32} {v : Int32} (hn : n < 2147483648) : CTv l yJ7_fill_53178 wsJ7_fill_53178 ({ frames := 0, cells := 0, slots := 0, locals := 0 } : Room) dd (tysA cI cL cQ) (am_no) [.ref (aa), .int (v)] [(aa, .inl (cI, (n), .inl (f)))] (fun (u : Nat → Int32) => u = fun k => if k < n then v else f k) (fun (u : Nat → Int32) => [(aa, .inl (cI, n, .inl u))]) := by
  refine CTv_of (cc := cJ7_fill_53178) (maxL := 4) (by decide +kernel) rfl (Nat.le_of_ble_eq_true rfl) ?_
  intro p e s m args below meth c A Q ls H locs hx hb hts hown hml hP hK hD hS hA hX hl hret
  have hl : lv_has ls 4 [(0, .ref (aa)), (1, .int (v))] := hl
  refine nv_iconst (pc := 0) (k := 0) hx hb dJ7_fill_53178_0 rfl ?_
  refine lv_istore_n (pc := 1) (lv' := [(2, .int (nI (0))), (0, .ref (aa)), (1, .int (v))]) hx hb dJ7_fill_53178_1 rfl hl (by decide) rfl (fun ls hl => ?_)
  refine lv_aload_n (pc := 2) hx hb dJ7_fill_53178_2 rfl (lv_at hl 1 rfl) ?_
  refine va_alen (pc := 3) hx hb hK hP 0 0 rfl rfl (v := nI n) rfl dJ7_fill_53178_3 ?_
  refine lv_istore_n (pc := 4) (lv' := [(3, .int (nI (n))), (2, .int (nI (0))), (0, .ref (aa)), (1, .int (v))]) hx hb dJ7_fill_53178_4 rfl hl (by decide) rfl (fun ls hl => ?_)
  have e9 : f = (fun k => if k < 0 then v else f k) := fl_0 f v
  rw [e9] at hP hD
  have hP : va_P dd vwCl [(aa, .inl (cI, (n), .inl ((fun k => if k < 0 then v else f k))))] H := hP
  have hD : va_D A [(aa, .inl (cI, (n), .inl ((fun k => if k < 0 then v else f k))))] := hD
  have L5 : ∀ (n9_5 : Nat), ∀ (i : Nat), n - i < n9_5 → (i ≤ n) → ∀ (H : Heap) (locs : List Loc) (ls : Array Slot), va_P dd vwCl [(aa, .inl (cI, (n), .inl ((fun k => if k < i then v else f k))))] H → va_D A [(aa, .inl (cI, (n), .inl ((fun k => if k < i then v else f k))))] → va_S A s.heap H locs → lv_has ls 4 [(0, .ref (aa)), (1, .int (v)), (2, .int (nI (i))), (3, .int (nI (n)))] → W p l e ({ frames := 0, cells := 0, slots := 0, locals := 0 } : Room) s m args below meth c H locs 0 0 Q (F0 m 5 ls []) := by
    intro n9_5
    induction n9_5 with
    | zero => intro i hm; exact absurd hm (Nat.not_lt_zero _)
    | succ n9_5 ih_5 =>
      intro i hm_5 hi H locs ls hP hD hS hl
      refine lv_iload_n (pc := 5) hx hb dJ7_fill_53178_5 rfl (lv_at hl 2 rfl) ?_
      refine lv_iload_n (pc := 6) hx hb dJ7_fill_53178_6 rfl (lv_at hl 3 rfl) ?_
      refine nv_icmp_ge (pc := 7) (tgt := 20) hx hb (a := i) (b := n) (by omega) (by omega) dJ7_fill_53178_7 (by decide) (fun h7 => ?_) (fun h7 => ?_)
      · skip
        exact hret _ _ _ _ ((fun k => if k < i then v else f k)) (by show (fun k => if k < i then v else f k) = _; rw [show i = n by omega]) hP hD hS dJ7_fill_53178_20
      · skip
        refine lv_aload_n (pc := 10) hx hb dJ7_fill_53178_10 rfl (lv_at hl 0 rfl) ?_
        refine lv_iload_n (pc := 11) hx hb dJ7_fill_53178_11 rfl (lv_at hl 2 rfl) ?_
        refine lv_iload_n (pc := 12) hx hb dJ7_fill_53178_12 rfl (lv_at hl 1 rfl) ?_
        refine nv_iast (pc := 13) hx hb hK hP hD hS 0 0 rfl rfl (by omega) (by omega) (ws' := [(aa, .inl (cI, (n), .inl ((upd ((fun k => if k < i then v else f k)) (i) ((v))))))]) rfl dJ7_fill_53178_13 (fun H locs hP hD hS => ?_)
        refine lv_iinc (pc := 14) (v := nI ((i + 1))) (lv' := [(2, .int (nI ((i + 1)))), (0, .ref (aa)), (1, .int (v)), (3, .int (nI (n)))]) hx hb dJ7_fill_53178_14 hl (k := 2) rfl (nI_inc _) (by decide) rfl (fun ls hl => ?_)
        refine lv_goto (pc := 17) (tgt := 5) hx hb dJ7_fill_53178_17 (by decide) ?_
        have e9 : (upd ((fun k => if k < i then v else f k)) (i) ((v))) = (fun k => if k < (i + 1) then v else f k) := fl_upd f v i
        rw [e9] at hP hD
        have hP : va_P dd vwCl [(aa, .inl (cI, (n), .inl ((fun k => if k < (i + 1) then v else f k))))] H := hP
        have hD : va_D A [(aa, .inl (cI, (n), .inl ((fun k => if k < (i + 1) then v else f k))))] := hD
        exact ih_5 ((i + 1)) (by omega) (by omega) _ _ _ hP hD hS (lv_sub hl [1, 2, 0, 3] rfl)
  exact L5 _ (0) (Nat.lt_succ_self _) (by omega) _ _ _ hP hD hS (lv_sub hl [2, 3, 1, 0] rfl)
set_option maxHeartbeats 4000000 in
set_option maxRecDepth 100000 in
theorem c_J7_fill_d0a16 (l : Launch) (dd : va_G) {cI cL cQ : ClassId} {aa : Nat}  {n : Nat} {f : Nat → Int64} {v : Int64} (hn : n < 2147483648) : CTv l yJ7_fill_d0a16 wsJ7_fill_d0a16 ({ frames := 0, cells := 0, slots := 0, locals := 0 } : Room) dd (tysA cI cL cQ) (am_no) [.ref (aa), .long (v)] [(aa, .inl (cL, (n), .inr (.inl (f))))] (fun (u : Nat → Int64) => u = fun k => if k < n then v else f k) (fun (u : Nat → Int64) => [(aa, .inl (cL, n, .inr (.inl u)))]) := by
  refine CTv_of (cc := cJ7_fill_d0a16) (maxL := 5) (by decide +kernel) rfl (Nat.le_of_ble_eq_true rfl) ?_
  intro p e s m args below meth c A Q ls H locs hx hb hts hown hml hP hK hD hS hA hX hl hret
  have hl : lv_has ls 5 [(0, .ref (aa)), (1, .long (v))] := hl
  refine nv_iconst (pc := 0) (k := 0) hx hb dJ7_fill_d0a16_0 rfl ?_
  refine lv_istore_n (pc := 1) (lv' := [(3, .int (nI (0))), (0, .ref (aa)), (1, .long (v))]) hx hb dJ7_fill_d0a16_1 rfl hl (by decide) rfl (fun ls hl => ?_)
  refine lv_aload_n (pc := 2) hx hb dJ7_fill_d0a16_2 rfl (lv_at hl 1 rfl) ?_
  refine va_alen (pc := 3) hx hb hK hP 0 1 rfl rfl (v := nI n) rfl dJ7_fill_d0a16_3 ?_
  refine lv_istore (pc := 4) (lv' := [(4, .int (nI (n))), (3, .int (nI (0))), (0, .ref (aa)), (1, .long (v))]) hx hb dJ7_fill_d0a16_4 hl (by decide) rfl (fun ls hl => ?_)
  have e9 : f = (fun k => if k < 0 then v else f k) := fl_0 f v
  rw [e9] at hP hD
  have hP : va_P dd vwCl [(aa, .inl (cL, (n), .inr (.inl ((fun k => if k < 0 then v else f k)))))] H := hP
  have hD : va_D A [(aa, .inl (cL, (n), .inr (.inl ((fun k => if k < 0 then v else f k)))))] := hD
  have L6 : ∀ (n9_6 : Nat), ∀ (i : Nat), n - i < n9_6 → (i ≤ n) → ∀ (H : Heap) (locs : List Loc) (ls : Array Slot), va_P dd vwCl [(aa, .inl (cL, (n), .inr (.inl ((fun k => if k < i then v else f k)))))] H → va_D A [(aa, .inl (cL, (n), .inr (.inl ((fun k => if k < i then v else f k)))))] → va_S A s.heap H locs → lv_has ls 5 [(0, .ref (aa)), (1, .long (v)), (3, .int (nI (i))), (4, .int (nI (n)))] → W p l e ({ frames := 0, cells := 0, slots := 0, locals := 0 } : Room) s m args below meth c H locs 0 0 Q (F0 m 6 ls []) := by
    intro n9_6
    induction n9_6 with
    | zero => intro i hm; exact absurd hm (Nat.not_lt_zero _)
    | succ n9_6 ih_6 =>
      intro i hm_6 hi H locs ls hP hD hS hl
      refine lv_iload_n (pc := 6) hx hb dJ7_fill_d0a16_6 rfl (lv_at hl 2 rfl) ?_
      refine lv_iload (pc := 7) hx hb dJ7_fill_d0a16_7 (lv_at hl 3 rfl) ?_
      refine nv_icmp_ge (pc := 9) (tgt := 22) hx hb (a := i) (b := n) (by omega) (by omega) dJ7_fill_d0a16_9 (by decide) (fun h9 => ?_) (fun h9 => ?_)
      · skip
        exact hret _ _ _ _ ((fun k => if k < i then v else f k)) (by show (fun k => if k < i then v else f k) = _; rw [show i = n by omega]) hP hD hS dJ7_fill_d0a16_22
      · skip
        refine lv_aload_n (pc := 12) hx hb dJ7_fill_d0a16_12 rfl (lv_at hl 0 rfl) ?_
        refine lv_iload_n (pc := 13) hx hb dJ7_fill_d0a16_13 rfl (lv_at hl 2 rfl) ?_
        refine lv_lload_n (pc := 14) hx hb dJ7_fill_d0a16_14 rfl (lv_at hl 1 rfl) ?_
        refine nv_last (pc := 15) hx hb hK hP hD hS 0 1 rfl rfl (by omega) (by omega) (ws' := [(aa, .inl (cL, (n), .inr (.inl ((vp_updL ((fun k => if k < i then v else f k)) (i) (v))))))]) rfl dJ7_fill_d0a16_15 (fun H locs hP hD hS => ?_)
        refine lv_iinc (pc := 16) (v := nI ((i + 1))) (lv' := [(3, .int (nI ((i + 1)))), (0, .ref (aa)), (1, .long (v)), (4, .int (nI (n)))]) hx hb dJ7_fill_d0a16_16 hl (k := 2) rfl (nI_inc _) (by decide) rfl (fun ls hl => ?_)
        refine lv_goto (pc := 19) (tgt := 6) hx hb dJ7_fill_d0a16_19 (by decide) ?_
        have e9 : (vp_updL ((fun k => if k < i then v else f k)) (i) (v)) = (fun k => if k < (i + 1) then v else f k) := fl_updL f v i
        rw [e9] at hP hD
        have hP : va_P dd vwCl [(aa, .inl (cL, (n), .inr (.inl ((fun k => if k < (i + 1) then v else f k)))))] H := hP
        have hD : va_D A [(aa, .inl (cL, (n), .inr (.inl ((fun k => if k < (i + 1) then v else f k)))))] := hD
        exact ih_6 ((i + 1)) (by omega) (by omega) _ _ _ hP hD hS (lv_sub hl [1, 2, 0, 3] rfl)
  exact L6 _ (0) (Nat.lt_succ_self _) (by omega) _ _ _ hP hD hS (lv_sub hl [2, 3, 1, 0] rfl)
set_option maxHeartbeats 4000000 in
set_option maxRecDepth 100000 in
theorem c_X0_isHold (l : Launch) (dd : va_G) {cI cL cQ : ClassId}   {h : Int} (hr : -2147483648 ≤ h ∧ h < 2147483648) : CTi l yX0_isHold wsX0_isHold ({ frames := 0, cells := 0, slots := 0, locals := 0 } : Room) dd (tysA cI cL cQ) (am_no) [.int (zI (h))] [] (fun (r : Int32) (u : Unit) => r = if (0 ≤ h ∧ h < 6) then 1 else 0) (fun (_ : Unit) => []) := by
  refine CTz_of (cc := cX0_isHold) (maxL := 1) (by decide +kernel) rfl (Nat.le_of_ble_eq_true rfl) ?_
  intro p e s m args below meth c A Q ls H locs hx hb hts hown hml hP hK hD hS hA hX hl hret
  have hl : lv_has ls 1 [(0, .int (zI (h)))] := hl
  refine lv_iload_n (pc := 0) hx hb dX0_isHold_0 rfl (lv_at hl 0 rfl) ?_
  refine zv_if_lt (pc := 1) (tgt := 14) hx hb (by omega) dX0_isHold_1 (by decide) (fun h1 => ?_) (fun h1 => ?_)
  · skip
    refine nv_iconst (pc := 14) (k := 0) hx hb dX0_isHold_14 rfl ?_
    exact hret _ _ _ _ _ (()) (by first | rfl | (split <;> rfl)) (by first | exact (if_pos (by omega)).symm | exact (if_neg (by omega)).symm) hP hD hS dX0_isHold_15
  · skip
    refine lv_iload_n (pc := 4) hx hb dX0_isHold_4 rfl (lv_at hl 0 rfl) ?_
    refine nv_bipush (pc := 5) (k := 6) hx hb dX0_isHold_5 rfl (by decide) ?_
    refine zv_2 (pc := 7) (a := ((6 : Nat) : Int)) (b := h) ((nI_zI _)) (rfl) ?_
    refine zv_icmp_ge (pc := 7) (tgt := 14) hx hb (by omega) (by omega) dX0_isHold_7 (by decide) (fun h7 => ?_) (fun h7 => ?_)
    · skip
      refine nv_iconst (pc := 14) (k := 0) hx hb dX0_isHold_14 rfl ?_
      exact hret _ _ _ _ _ (()) (by first | rfl | (split <;> rfl)) (by first | exact (if_pos (by omega)).symm | exact (if_neg (by omega)).symm) hP hD hS dX0_isHold_15
    · skip
      refine nv_iconst (pc := 10) (k := 1) hx hb dX0_isHold_10 rfl ?_
      refine lv_goto (pc := 11) (tgt := 15) hx hb dX0_isHold_11 (by decide) ?_
      exact hret _ _ _ _ _ (()) (by first | rfl | (split <;> rfl)) (by first | exact (if_pos (by omega)).symm | exact (if_neg (by omega)).symm) hP hD hS dX0_isHold_15
set_option maxHeartbeats 4000000 in
set_option maxRecDepth 100000 in
theorem c_X0_isSign (l : Launch) (dd : va_G) {cI cL cQ : ClassId}   {e9 : Int} (hr : -2147483648 ≤ e9 ∧ e9 < 2147483648) : CTi l yX0_isSign wsX0_isSign ({ frames := 0, cells := 0, slots := 0, locals := 0 } : Room) dd (tysA cI cL cQ) (am_no) [.int (zI (e9))] [] (fun (r : Int32) (u : Unit) => r = if (e9 = 1 ∨ e9 = -1) then 1 else 0) (fun (_ : Unit) => []) := by
  refine CTz_of (cc := cX0_isSign) (maxL := 1) (by decide +kernel) rfl (Nat.le_of_ble_eq_true rfl) ?_
  intro p e s m args below meth c A Q ls H locs hx hb hts hown hml hP hK hD hS hA hX hl hret
  have hl : lv_has ls 1 [(0, .int (zI (e9)))] := hl
  refine lv_iload_n (pc := 0) hx hb dX0_isSign_0 rfl (lv_at hl 0 rfl) ?_
  refine nv_iconst (pc := 1) (k := 1) hx hb dX0_isSign_1 rfl ?_
  refine zv_2 (pc := 2) (a := ((1 : Nat) : Int)) (b := e9) ((nI_zI _)) (rfl) ?_
  refine zv_icmp_eq (pc := 2) (tgt := 10) hx hb (by omega) (by omega) dX0_isSign_2 (by decide) (fun h2 => ?_) (fun h2 => ?_)
  · skip
    refine nv_iconst (pc := 10) (k := 1) hx hb dX0_isSign_10 rfl ?_
    refine lv_goto (pc := 11) (tgt := 15) hx hb dX0_isSign_11 (by decide) ?_
    exact hret _ _ _ _ _ (()) (by first | rfl | (split <;> rfl)) (by first | exact (if_pos (by omega)).symm | exact (if_neg (by omega)).symm) hP hD hS dX0_isSign_15
  · skip
    refine lv_iload_n (pc := 5) hx hb dX0_isSign_5 rfl (lv_at hl 0 rfl) ?_
    refine lv_iconst (pc := 6) (v := zI (-1)) hx hb dX0_isSign_6 rfl ?_
    refine zv_icmp_ne (pc := 7) (tgt := 14) hx hb (by omega) (by omega) dX0_isSign_7 (by decide) (fun h7 => ?_) (fun h7 => ?_)
    · skip
      refine nv_iconst (pc := 14) (k := 0) hx hb dX0_isSign_14 rfl ?_
      exact hret _ _ _ _ _ (()) (by first | rfl | (split <;> rfl)) (by first | exact (if_pos (by omega)).symm | exact (if_neg (by omega)).symm) hP hD hS dX0_isSign_15
    · skip
      refine nv_iconst (pc := 10) (k := 1) hx hb dX0_isSign_10 rfl ?_
      refine lv_goto (pc := 11) (tgt := 15) hx hb dX0_isSign_11 (by decide) ?_
      exact hret _ _ _ _ _ (()) (by first | rfl | (split <;> rfl)) (by first | exact (if_pos (by omega)).symm | exact (if_neg (by omega)).symm) hP hD hS dX0_isSign_15
set_option maxHeartbeats 4000000 in
set_option maxRecDepth 100000 in
theorem c_X1_isSign (l : Launch) (dd : va_G) {cI cL cQ : ClassId}   {e9 : Int} (hr : -2147483648 ≤ e9 ∧ e9 < 2147483648) : CTi l yX1_isSign wsX1_isSign ({ frames := 0, cells := 0, slots := 0, locals := 0 } : Room) dd (tysA cI cL cQ) (am_no) [.int (zI (e9))] [] (fun (r : Int32) (u : Unit) => r = if (e9 = 1 ∨ e9 = -1) then 1 else 0) (fun (_ : Unit) => []) := by
  refine CTz_of (cc := cX1_isSign) (maxL := 1) (by decide +kernel) rfl (Nat.le_of_ble_eq_true rfl) ?_
  intro p e s m args below meth c A Q ls H locs hx hb hts hown hml hP hK hD hS hA hX hl hret
  have hl : lv_has ls 1 [(0, .int (zI (e9)))] := hl
  refine lv_iload_n (pc := 0) hx hb dX1_isSign_0 rfl (lv_at hl 0 rfl) ?_
  refine nv_iconst (pc := 1) (k := 1) hx hb dX1_isSign_1 rfl ?_
  refine zv_2 (pc := 2) (a := ((1 : Nat) : Int)) (b := e9) ((nI_zI _)) (rfl) ?_
  refine zv_icmp_eq (pc := 2) (tgt := 10) hx hb (by omega) (by omega) dX1_isSign_2 (by decide) (fun h2 => ?_) (fun h2 => ?_)
  · skip
    refine nv_iconst (pc := 10) (k := 1) hx hb dX1_isSign_10 rfl ?_
    refine lv_goto (pc := 11) (tgt := 15) hx hb dX1_isSign_11 (by decide) ?_
    exact hret _ _ _ _ _ (()) (by first | rfl | (split <;> rfl)) (by first | exact (if_pos (by omega)).symm | exact (if_neg (by omega)).symm) hP hD hS dX1_isSign_15
  · skip
    refine lv_iload_n (pc := 5) hx hb dX1_isSign_5 rfl (lv_at hl 0 rfl) ?_
    refine lv_iconst (pc := 6) (v := zI (-1)) hx hb dX1_isSign_6 rfl ?_
    refine zv_icmp_ne (pc := 7) (tgt := 14) hx hb (by omega) (by omega) dX1_isSign_7 (by decide) (fun h7 => ?_) (fun h7 => ?_)
    · skip
      refine nv_iconst (pc := 14) (k := 0) hx hb dX1_isSign_14 rfl ?_
      exact hret _ _ _ _ _ (()) (by first | rfl | (split <;> rfl)) (by first | exact (if_pos (by omega)).symm | exact (if_neg (by omega)).symm) hP hD hS dX1_isSign_15
    · skip
      refine nv_iconst (pc := 10) (k := 1) hx hb dX1_isSign_10 rfl ?_
      refine lv_goto (pc := 11) (tgt := 15) hx hb dX1_isSign_11 (by decide) ?_
      exact hret _ _ _ _ _ (()) (by first | rfl | (split <;> rfl)) (by first | exact (if_pos (by omega)).symm | exact (if_neg (by omega)).symm) hP hD hS dX1_isSign_15
set_option maxHeartbeats 4000000 in
set_option maxRecDepth 100000 in
theorem c_X0_isClass (l : Launch) (dd : va_G) {ad : Nat → Nat} {cI cL cQ : ClassId} {tR : Nat}  {ix : Nat → Int32} {pw : Nat → Int32} {sg : Nat → Int32} {tm : Nat → Int32} {hd : Nat → Nat → Int32} {wk : Nat → Int64} {rc : Nat → Int64} {lc : Nat → Int64} {P : Nat} {G : Nat} {D : Nat} {F : Nat} {i : Int} (hi : -2147483648 ≤ i ∧ i < 2147483648) (hD2 : D < 2147483648) : CTi l yX0_isClass wsX0_isClass ({ frames := 0, cells := 0, slots := 0, locals := 0 } : Room) dd (tysA cI cL cQ) (rX tR) [.ref (ad 0), .int (zI (i))] (wC ad cI cL cQ (ix) (pw) (sg) (tm) (hd) (wk) (rc) (lc) (P) (G) (D) (F)) (fun (r : Int32) (u : Unit) => r = if (0 ≤ i ∧ i < (D : Int)) then 1 else 0) (fun (_ : Unit) => (wC ad cI cL cQ (ix) (pw) (sg) (tm) (hd) (wk) (rc) (lc) (P) (G) (D) (F))) := by
  refine CTz_of (cc := cX0_isClass) (maxL := 2) (by decide +kernel) rfl (Nat.le_of_ble_eq_true rfl) ?_
  intro p e s m args below meth c A Q ls H locs hx hb hts hown hml hP hK hD hS hA hX hl hret
  have hin : ∀ w ∈ wsX00, w ∈ wsX0_isClass := by decide +kernel
  have hl : lv_has ls 2 [(0, .ref (ad 0)), (1, .int (zI (i)))] := hl
  refine lv_iload_n (pc := 0) hx hb dX0_isClass_0 rfl (lv_at hl 1 rfl) ?_
  refine zv_if_lt (pc := 1) (tgt := 16) hx hb (by omega) dX0_isClass_1 (by decide) (fun h1 => ?_) (fun h1 => ?_)
  · skip
    refine nv_iconst (pc := 16) (k := 0) hx hb dX0_isClass_16 rfl ?_
    exact hret _ _ _ _ _ (()) (by first | rfl | (split <;> rfl)) (by first | exact (if_pos (by omega)).symm | exact (if_neg (by omega)).symm) hP hD hS dX0_isClass_17
  · skip
    refine lv_iload_n (pc := 4) hx hb dX0_isClass_4 rfl (lv_at hl 1 rfl) ?_
    refine lv_aload_n (pc := 5) hx hb dX0_isClass_5 rfl (lv_at hl 0 rfl) ?_
    refine va_get (pc := 6) (D := dd) (ci := 0) (v := .int (nI (D))) (C := RX0) (T := TX0) (N := 12) hx hb hts hin hown hK hP 0 rfl rfl 10 (by decide) (hts (.fieldLink RX0 74 "TurningSums" "d" "I") (by decide +kernel)) (fun _ h9 => h9) rfl dX0_isClass_6 ?_
    refine zv_2 (pc := 9) (a := ((D : Nat) : Int)) (b := i) ((nI_zI _)) (rfl) ?_
    refine zv_icmp_ge (pc := 9) (tgt := 16) hx hb (by omega) (by omega) dX0_isClass_9 (by decide) (fun h9 => ?_) (fun h9 => ?_)
    · skip
      refine nv_iconst (pc := 16) (k := 0) hx hb dX0_isClass_16 rfl ?_
      exact hret _ _ _ _ _ (()) (by first | rfl | (split <;> rfl)) (by first | exact (if_pos (by omega)).symm | exact (if_neg (by omega)).symm) hP hD hS dX0_isClass_17
    · skip
      refine nv_iconst (pc := 12) (k := 1) hx hb dX0_isClass_12 rfl ?_
      refine lv_goto (pc := 13) (tgt := 17) hx hb dX0_isClass_13 (by decide) ?_
      exact hret _ _ _ _ _ (()) (by first | rfl | (split <;> rfl)) (by first | exact (if_pos (by omega)).symm | exact (if_neg (by omega)).symm) hP hD hS dX0_isClass_17
set_option maxHeartbeats 4000000 in
set_option maxRecDepth 100000 in
theorem c_X0_isSet (l : Launch) (dd : va_G) {ad : Nat → Nat} {cI cL cQ : ClassId} {tR : Nat}  {ix : Nat → Int32} {pw : Nat → Int32} {sg : Nat → Int32} {tm : Nat → Int32} {hd : Nat → Nat → Int32} {wk : Nat → Int64} {rc : Nat → Int64} {lc : Nat → Int64} {P : Nat} {G : Nat} {D : Nat} {F : Nat} {b : Int} (hb9 : -2147483648 ≤ b ∧ b < 2147483648) (h1 : 1 ≤ D) (h2 : D ≤ 12) : CTi l yX0_isSet wsX0_isSet ({ frames := 0, cells := 0, slots := 0, locals := 0 } : Room) dd (tysA cI cL cQ) (rX tR) [.ref (ad 0), .int (zI (b))] (wC ad cI cL cQ (ix) (pw) (sg) (tm) (hd) (wk) (rc) (lc) (P) (G) (D) (F)) (fun (r : Int32) (u : Unit) => r = if (0 ≤ b ∧ b < ((2 ^ D : Nat) : Int)) then 1 else 0) (fun (_ : Unit) => (wC ad cI cL cQ (ix) (pw) (sg) (tm) (hd) (wk) (rc) (lc) (P) (G) (D) (F))) := by
  refine CTz_of (cc := cX0_isSet) (maxL := 2) (by decide +kernel) rfl (Nat.le_of_ble_eq_true rfl) ?_
  intro p e s m args below meth c A Q ls H locs hx hb hts hown hml hP hK hD hS hA hX hl hret
  have hin : ∀ w ∈ wsX00, w ∈ wsX0_isSet := by decide +kernel
  have hl : lv_has ls 2 [(0, .ref (ad 0)), (1, .int (zI (b)))] := hl
  refine lv_iload_n (pc := 0) hx hb dX0_isSet_0 rfl (lv_at hl 1 rfl) ?_
  refine lv_aload_n (pc := 1) hx hb dX0_isSet_1 rfl (lv_at hl 0 rfl) ?_
  refine va_get (pc := 2) (D := dd) (ci := 0) (v := .int (nI (D))) (C := RX0) (T := TX0) (N := 12) hx hb hts hin hown hK hP 0 rfl rfl 10 (by decide) (hts (.fieldLink RX0 74 "TurningSums" "d" "I") (by decide +kernel)) (fun _ h9 => h9) rfl dX0_isSet_2 ?_
  refine lv_iushr (pc := 5) hx hb dX0_isSet_5 rfl ?_
  refine lv_if_ne (pc := 6) (tgt := 13) hx hb dX0_isSet_6 (by decide) (fun h6 => ?_) (fun h6 => ?_)
  · skip
    have h6 : ¬ (0 ≤ b ∧ b < ((2 ^ D : Nat) : Int)) := fun q => h6 ((set_iff hb9 h1 h2).mpr q)
    refine nv_iconst (pc := 13) (k := 0) hx hb dX0_isSet_13 rfl ?_
    exact hret _ _ _ _ _ (()) (by first | rfl | (split <;> rfl)) (by first | exact (if_pos h6).symm | exact (if_neg h6).symm) hP hD hS dX0_isSet_14
  · skip
    have h6 := (set_iff hb9 h1 h2).mp h6
    refine nv_iconst (pc := 9) (k := 1) hx hb dX0_isSet_9 rfl ?_
    refine lv_goto (pc := 10) (tgt := 14) hx hb dX0_isSet_10 (by decide) ?_
    exact hret _ _ _ _ _ (()) (by first | rfl | (split <;> rfl)) (by first | exact (if_pos h6).symm | exact (if_neg h6).symm) hP hD hS dX0_isSet_14
set_option maxHeartbeats 4000000 in
set_option maxRecDepth 100000 in
theorem c_X0_classOf (l : Launch) (dd : va_G) {ad : Nat → Nat} {cI cL cQ : ClassId} {tR : Nat}  {ix : Nat → Int32} {pw : Nat → Int32} {sg : Nat → Int32} {tm : Nat → Int32} {hd : Nat → Nat → Int32} {wk : Nat → Int64} {rc : Nat → Int64} {lc : Nat → Int64} {P : Nat} {G : Nat} {D : Nat} {F : Nat} {x : Nat} (hG : okT P D ix) (h1 : x % P ≠ 0) (h2 : x < 2147483648) : CTi l yX0_classOf wsX0_classOf ({ frames := 0, cells := 0, slots := 0, locals := 0 } : Room) dd (tysA cI cL cQ) (rX tR) [.ref (ad 0), .int (nI (x))] (wC ad cI cL cQ (ix) (pw) (sg) (tm) (hd) (wk) (rc) (lc) (P) (G) (D) (F)) (fun (r : Int32) (u : Unit) => r = nI (clsN P D x)) (fun (_ : Unit) => (wC ad cI cL cQ (ix) (pw) (sg) (tm) (hd) (wk) (rc) (lc) (P) (G) (D) (F))) := by
  refine CTi_of (cc := cX0_classOf) (maxL := 2) (by decide +kernel) rfl (Nat.le_of_ble_eq_true rfl) ?_
  intro p e s m args below meth c A Q ls H locs hx hb hts hown hml hP hK hD hS hA hX hl hret
  have hin : ∀ w ∈ wsX00, w ∈ wsX0_classOf := by decide +kernel
  have hl : lv_has ls 2 [(0, .ref (ad 0)), (1, .int (nI (x)))] := hl
  obtain ⟨g1, g2, g3, g4, hix⟩ := hG
  have hm := Nat.mod_lt x (show 0 < P by omega)
  have hlt := ixN_le P (x % P)
  refine lv_aload_n (pc := 0) hx hb dX0_classOf_0 rfl (lv_at hl 0 rfl) ?_
  refine va_get (pc := 1) (D := dd) (ci := 0) (v := .ref (ad 1)) (C := RX0) (T := TX0) (N := 12) hx hb hts hin hown hK hP 0 rfl rfl 0 (by decide) (hts (.fieldLink RX0 9 "TurningSums" "indexOf" "[I") (by decide +kernel)) (fun _ h9 => h9) rfl dX0_classOf_1 ?_
  refine lv_iload_n (pc := 4) hx hb dX0_classOf_4 rfl (lv_at hl 1 rfl) ?_
  refine lv_aload_n (pc := 5) hx hb dX0_classOf_5 rfl (lv_at hl 0 rfl) ?_
  refine va_get (pc := 6) (D := dd) (ci := 0) (v := .int (nI (P))) (C := RX0) (T := TX0) (N := 12) hx hb hts hin hown hK hP 0 rfl rfl 8 (by decide) (hts (.fieldLink RX0 49 "TurningSums" "p" "I") (by decide +kernel)) (fun _ h9 => h9) rfl dX0_classOf_6 ?_
  refine nv_irem (pc := 9) hx hb (by omega) (by omega) (by omega) dX0_classOf_9 ?_
  refine nv_iald (pc := 10) hx hb hK hP 1 0 rfl rfl (i := (x % P)) (by omega) (by decide) (v := nI ((ixN P ((x % P))))) (hix _ (by omega) (by omega)) dX0_classOf_10 ?_
  refine lv_aload_n (pc := 11) hx hb dX0_classOf_11 rfl (lv_at hl 0 rfl) ?_
  refine va_get (pc := 12) (D := dd) (ci := 0) (v := .int (nI (D))) (C := RX0) (T := TX0) (N := 12) hx hb hts hin hown hK hP 0 rfl rfl 10 (by decide) (hts (.fieldLink RX0 74 "TurningSums" "d" "I") (by decide +kernel)) (fun _ h9 => h9) rfl dX0_classOf_12 ?_
  refine nv_irem (pc := 15) hx hb (by omega) (by omega) (by omega) dX0_classOf_15 ?_
  exact hret _ _ _ _ _ (()) (rfl) hP hD hS dX0_classOf_16
set_option maxHeartbeats 4000000 in
set_option maxRecDepth 100000 in
theorem c_X0_sharesDivisor (l : Launch) (dd : va_G) {ad : Nat → Nat} {cI cL cQ : ClassId} {tR : Nat}  {ix : Nat → Int32} {pw : Nat → Int32} {sg : Nat → Int32} {tm : Nat → Int32} {hd : Nat → Nat → Int32} {wk : Nat → Int64} {rc : Nat → Int64} {lc : Nat → Int64} {P : Nat} {G : Nat} {D : Nat} {F : Nat} {t : Int} (ht : -2147483648 ≤ t ∧ t < 2147483648) (h1 : 1 ≤ D) (h2 : D ≤ 12) : CTi l yX0_sharesDivisor wsX0_sharesDivisor ({ frames := 0, cells := 0, slots := 0, locals := 0 } : Room) dd (tysA cI cL cQ) (rX tR) [.ref (ad 0), .int (zI (t))] (wC ad cI cL cQ (ix) (pw) (sg) (tm) (hd) (wk) (rc) (lc) (P) (G) (D) (F)) (fun (r : Int32) (u : Unit) => r = if (coN D t = false) then 1 else 0) (fun (_ : Unit) => (wC ad cI cL cQ (ix) (pw) (sg) (tm) (hd) (wk) (rc) (lc) (P) (G) (D) (F))) := by
  refine CTz_of (cc := cX0_sharesDivisor) (maxL := 3) (by decide +kernel) rfl (Nat.le_of_ble_eq_true rfl) ?_
  intro p e s m args below meth c A Q ls H locs hx hb hts hown hml hP hK hD hS hA hX hl hret
  have hin : ∀ w ∈ wsX00, w ∈ wsX0_sharesDivisor := by decide +kernel
  have hl : lv_has ls 3 [(0, .ref (ad 0)), (1, .int (zI (t)))] := hl
  refine nv_iconst (pc := 0) (k := 2) hx hb dX0_sharesDivisor_0 rfl ?_
  refine lv_istore_n (pc := 1) (lv' := [(2, .int (nI (2))), (0, .ref (ad 0)), (1, .int (zI (t)))]) hx hb dX0_sharesDivisor_1 rfl hl (by decide) rfl (fun ls hl => ?_)
  have L2 : ∀ (n9_2 : Nat), ∀ (q : Nat), D + 1 - q < n9_2 → (2 ≤ q ∧ q ≤ D + 1) → (∀ k, 2 ≤ k → k < q → ¬ (D % k = 0 ∧ t.tmod (k : Int) = 0)) → ∀ (H : Heap) (locs : List Loc) (ls : Array Slot), va_P dd vwCl (wC ad cI cL cQ (ix) (pw) (sg) (tm) (hd) (wk) (rc) (lc) (P) (G) (D) (F)) H → va_D A (wC ad cI cL cQ (ix) (pw) (sg) (tm) (hd) (wk) (rc) (lc) (P) (G) (D) (F)) → va_S A s.heap H locs → lv_has ls 3 [(0, .ref (ad 0)), (1, .int (zI (t))), (2, .int (nI (q)))] → W p l e ({ frames := 0, cells := 0, slots := 0, locals := 0 } : Room) s m args below meth c H locs 0 0 Q (F0 m 2 ls []) := by
    intro n9_2
    induction n9_2 with
    | zero => intro q hm; exact absurd hm (Nat.not_lt_zero _)
    | succ n9_2 ih_2 =>
      intro q hm_2 hq hn9 H locs ls hP hD hS hl
      refine lv_iload_n (pc := 2) hx hb dX0_sharesDivisor_2 rfl (lv_at hl 2 rfl) ?_
      refine lv_aload_n (pc := 3) hx hb dX0_sharesDivisor_3 rfl (lv_at hl 0 rfl) ?_
      refine va_get (pc := 4) (D := dd) (ci := 0) (v := .int (nI (D))) (C := RX0) (T := TX0) (N := 12) hx hb hts hin hown hK hP 0 rfl rfl 10 (by decide) (hts (.fieldLink RX0 74 "TurningSums" "d" "I") (by decide +kernel)) (fun _ h9 => h9) rfl dX0_sharesDivisor_4 ?_
      refine nv_icmp_gt (pc := 7) (tgt := 33) hx hb (a := q) (b := D) (by omega) (by omega) dX0_sharesDivisor_7 (by decide) (fun h7 => ?_) (fun h7 => ?_)
      · skip
        refine nv_iconst (pc := 33) (k := 0) hx hb dX0_sharesDivisor_33 rfl ?_
        exact hret _ _ _ _ _ (()) (by first | rfl | (split <;> rfl)) (by refine (if_neg (fun q9 => ?_)).symm; rw [co_yes (by omega) (fun k a b => hn9 k a (by omega))] at q9; cases q9) hP hD hS dX0_sharesDivisor_34
      · skip
        refine lv_aload_n (pc := 10) hx hb dX0_sharesDivisor_10 rfl (lv_at hl 0 rfl) ?_
        refine va_get (pc := 11) (D := dd) (ci := 0) (v := .int (nI (D))) (C := RX0) (T := TX0) (N := 12) hx hb hts hin hown hK hP 0 rfl rfl 10 (by decide) (hts (.fieldLink RX0 74 "TurningSums" "d" "I") (by decide +kernel)) (fun _ h9 => h9) rfl dX0_sharesDivisor_11 ?_
        refine lv_iload_n (pc := 14) hx hb dX0_sharesDivisor_14 rfl (lv_at hl 2 rfl) ?_
        refine nv_irem (pc := 15) hx hb (by omega) (by omega) (by omega) dX0_sharesDivisor_15 ?_
        refine nv_if_ne (pc := 16) (tgt := 27) hx hb (a := (D % q)) (Nat.lt_trans (Nat.mod_lt _ (by omega)) (by omega)) dX0_sharesDivisor_16 (by decide) (fun h16 => ?_) (fun h16 => ?_)
        · skip
          refine lv_iinc (pc := 27) (v := nI ((q + 1))) (lv' := [(2, .int (nI ((q + 1)))), (0, .ref (ad 0)), (1, .int (zI (t)))]) hx hb dX0_sharesDivisor_27 hl (k := 2) rfl (nI_inc _) (by decide) rfl (fun ls hl => ?_)
          refine lv_goto (pc := 30) (tgt := 2) hx hb dX0_sharesDivisor_30 (by decide) ?_
          exact ih_2 ((q + 1)) (by omega) (by omega) (fun k a b w => (Nat.lt_or_ge k q).elim (fun z => hn9 k a z w) (fun z => by have e : k = q := (by omega); subst e; omega)) _ _ _ hP hD hS (lv_sub hl [1, 2, 0] rfl)
        · skip
          refine lv_iload_n (pc := 19) hx hb dX0_sharesDivisor_19 rfl (lv_at hl 1 rfl) ?_
          refine lv_iload_n (pc := 20) hx hb dX0_sharesDivisor_20 rfl (lv_at hl 2 rfl) ?_
          refine lv_irem (pc := 21) hx hb dX0_sharesDivisor_21 (nI_ne0 (by omega) (by omega)) ?_
          refine tq_i (y := zI ((t.tmod (q : Int)))) (zI_rem ht (by omega) (by omega)) ?_
          refine zv_if_ne (pc := 22) (tgt := 27) hx hb (by have := fm_rng (x := t) (show 0 < q by omega); omega) dX0_sharesDivisor_22 (by decide) (fun h22 => ?_) (fun h22 => ?_)
          · skip
            refine lv_iinc (pc := 27) (v := nI ((q + 1))) (lv' := [(2, .int (nI ((q + 1)))), (0, .ref (ad 0)), (1, .int (zI (t)))]) hx hb dX0_sharesDivisor_27 hl (k := 2) rfl (nI_inc _) (by decide) rfl (fun ls hl => ?_)
            refine lv_goto (pc := 30) (tgt := 2) hx hb dX0_sharesDivisor_30 (by decide) ?_
            exact ih_2 ((q + 1)) (by omega) (by omega) (fun k a b w => (Nat.lt_or_ge k q).elim (fun z => hn9 k a z w) (fun z => by have e : k = q := (by omega); subst e; omega)) _ _ _ hP hD hS (lv_sub hl [1, 2, 0] rfl)
          · skip
            refine nv_iconst (pc := 25) (k := 1) hx hb dX0_sharesDivisor_25 rfl ?_
            exact hret _ _ _ _ _ (()) (by first | rfl | (split <;> rfl)) ((if_pos (co_no (by omega) hq.1 h16 h22)).symm) hP hD hS dX0_sharesDivisor_26
  exact L2 _ (2) (Nat.lt_succ_self _) (by omega) (fun k a b => by omega) _ _ _ hP hD hS (lv_sub hl [1, 2, 0] rfl)
set_option maxHeartbeats 4000000 in
set_option maxRecDepth 100000 in
theorem c_X1_in (l : Launch) (dd : va_G) {cI cL cQ : ClassId}   {v : Int64} {lo : Int64} {up : Int64}  : CTi l yX1_in wsX1_in ({ frames := 0, cells := 0, slots := 0, locals := 0 } : Room) dd (tysA cI cL cQ) (am_no) [.long (v), .long (lo), .long (up)] [] (fun (r : Int32) (u : Unit) => r = if (lo ≤ v ∧ v ≤ up) then 1 else 0) (fun (_ : Unit) => []) := by
  refine CTz_of (cc := cX1_in) (maxL := 6) (by decide +kernel) rfl (Nat.le_of_ble_eq_true rfl) ?_
  intro p e s m args below meth c A Q ls H locs hx hb hts hown hml hP hK hD hS hA hX hl hret
  have hl : lv_has ls 6 [(0, .long (v)), (2, .long (lo)), (4, .long (up))] := hl
  refine lv_lload_n (pc := 0) hx hb dX1_in_0 rfl (lv_at hl 0 rfl) ?_
  refine lv_lload_n (pc := 1) hx hb dX1_in_1 rfl (lv_at hl 1 rfl) ?_
  refine W.lcmp (pc := 2) hx hb dX1_in_2 ?_
  refine cv_if_lt (pc := 3) (tgt := 17) hx hb dX1_in_3 (by decide) (fun h3 => ?_) (fun h3 => ?_)
  · skip
    refine nv_iconst (pc := 17) (k := 0) hx hb dX1_in_17 rfl ?_
    exact hret _ _ _ _ _ (()) (by first | rfl | (split <;> rfl)) (by refine (if_neg (fun q => ?_)).symm; exact absurd q.1 (Int64.not_le.mpr h3)) hP hD hS dX1_in_18
  · skip
    refine lv_lload_n (pc := 6) hx hb dX1_in_6 rfl (lv_at hl 0 rfl) ?_
    refine lv_lload (pc := 7) hx hb dX1_in_7 (lv_at hl 2 rfl) ?_
    refine W.lcmp (pc := 9) hx hb dX1_in_9 ?_
    refine cv_if_gt (pc := 10) (tgt := 17) hx hb dX1_in_10 (by decide) (fun h10 => ?_) (fun h10 => ?_)
    · skip
      refine nv_iconst (pc := 17) (k := 0) hx hb dX1_in_17 rfl ?_
      exact hret _ _ _ _ _ (()) (by first | rfl | (split <;> rfl)) (by refine (if_neg (fun q => ?_)).symm; exact absurd q.2 (Int64.not_le.mpr h10)) hP hD hS dX1_in_18
    · skip
      refine nv_iconst (pc := 13) (k := 1) hx hb dX1_in_13 rfl ?_
      refine lv_goto (pc := 14) (tgt := 18) hx hb dX1_in_14 (by decide) ?_
      exact hret _ _ _ _ _ (()) (by first | rfl | (split <;> rfl)) ((if_pos ⟨Int64.not_lt.mp h3, Int64.not_lt.mp h10⟩).symm) hP hD hS dX1_in_18
set_option maxHeartbeats 4000000 in
set_option maxRecDepth 100000 in
theorem c_X1_isHold (l : Launch) (dd : va_G) {cI cL cQ : ClassId}   {h : Int} (hr : -2147483648 ≤ h ∧ h < 2147483648) : CTi l yX1_isHold wsX1_isHold ({ frames := 1, cells := 0, slots := 0, locals := 25 } : Room) dd (tysA cI cL cQ) (am_no) [.int (zI (h))] [] (fun (r : Int32) (u : Unit) => r = if (0 ≤ h ∧ h < 6) then 1 else 0) (fun (_ : Unit) => []) := by
  refine CTz_of (cc := cX1_isHold) (maxL := 1) (by decide +kernel) rfl (Nat.le_of_ble_eq_true rfl) ?_
  intro p e s m args below meth c A Q ls H locs hx hb hts hown hml hP hK hD hS hA hX hl hret
  have hl : lv_has ls 1 [(0, .int (zI (h)))] := hl
  refine lv_iload_n (pc := 0) hx hb dX1_isHold_0 rfl (lv_at hl 0 rfl) ?_
  refine lv_i2l (pc := 1) (v := zL (h)) hx hb dX1_isHold_1 (zL_zI (by omega) (by omega)) ?_
  refine lv_lconst (pc := 2) (v := zL 0) hx hb dX1_isHold_2 (by decide) ?_
  refine tq_ldc2 (pc := 3) (k := (5)) hx hb hown (hts (.constantLong RX1 36 (5)) (by decide +kernel)) dX1_isHold_3 ?_
  refine CTi_S0 (pc := 6) am_no_ok (As := [.long (zL (h)), .long (zL 0), .long (zL (5))]) (rest := []) ⟨hx, hb, hml, hown, hts⟩ (c_X1_in l dd ) (va_cwS 3 hts gX1_isHold_X1_in rfl rfl rfl (by decide +kernel) ⟨Nat.le_of_ble_eq_true rfl, Nat.le_of_ble_eq_true rfl⟩) hK hP hD hS hA hX rfl hl.1 rfl (Nat.le_of_ble_eq_true rfl) ⟨Nat.zero_le _, Nat.zero_le _⟩ dX1_isHold_6 (fun r u H locs hw hP hD hS => ?_)
  try dsimp only at hw
  subst hw
  exact hret _ _ _ _ _ (()) (by first | rfl | (split <;> rfl)) (bo_c (by rw [zL_le (by omega) (by omega), zL_le (by omega) (by omega)]; omega)) hP hD hS dX1_isHold_9
set_option maxHeartbeats 4000000 in
set_option maxRecDepth 100000 in
theorem c_X1_isSet (l : Launch) (dd : va_G) {ad : Nat → Nat} {cI cL cQ : ClassId}  {P : Nat} {G : Nat} {D : Nat} {F : Nat} {ix : Nat → Int32} {ho : Nat → Int64} {re : Nat → Int32} {wk : Nat → Int64} {tu : Nat → Int64} {wa : Nat → Int64} {nx : Nat → Int64} {b : Int} (hb9 : -2147483648 ≤ b ∧ b < 2147483648) (h1 : 1 ≤ D) (h2 : D ≤ 12) : CTi l yX1_isSet wsX1_isSet ({ frames := 1, cells := 0, slots := 0, locals := 25 } : Room) dd (tysA cI cL cQ) (am_no) [.ref (ad 0), .int (zI (b))] (wM ad cI cL (P) (G) (D) (F) (ix) (ho) (re) (wk) (tu) (wa) (nx)) (fun (r : Int32) (u : Unit) => r = if (0 ≤ b ∧ b < ((2 ^ D : Nat) : Int)) then 1 else 0) (fun (_ : Unit) => (wM ad cI cL (P) (G) (D) (F) (ix) (ho) (re) (wk) (tu) (wa) (nx))) := by
  refine CTz_of (cc := cX1_isSet) (maxL := 2) (by decide +kernel) rfl (Nat.le_of_ble_eq_true rfl) ?_
  intro p e s m args below meth c A Q ls H locs hx hb hts hown hml hP hK hD hS hA hX hl hret
  have hin : ∀ w ∈ wsX10, w ∈ wsX1_isSet := by decide +kernel
  have hl : lv_has ls 2 [(0, .ref (ad 0)), (1, .int (zI (b)))] := hl
  have hp : 2 ^ D ≤ 4096 := Nat.le_trans (Nat.pow_le_pow_right (by decide) h2) (by decide)
  have hp0 : 0 < 2 ^ D := Nat.pow_pos (by decide)
  refine lv_iload_n (pc := 0) hx hb dX1_isSet_0 rfl (lv_at hl 1 rfl) ?_
  refine lv_i2l (pc := 1) (v := zL (b)) hx hb dX1_isSet_1 (zL_zI (by omega) (by omega)) ?_
  refine lv_lconst (pc := 2) (v := zL 0) hx hb dX1_isSet_2 (by decide) ?_
  refine nv_iconst (pc := 3) (k := 1) hx hb dX1_isSet_3 rfl ?_
  refine lv_aload_n (pc := 4) hx hb dX1_isSet_4 rfl (lv_at hl 0 rfl) ?_
  refine va_get (pc := 5) (D := dd) (ci := 1) (v := .int (nI (D))) (C := RX1) (T := TX1) (N := 11) hx hb hts hin hown hK hP 0 rfl rfl 2 (by decide) (hts (.fieldLink RX1 52 "TurningSumsModel" "d" "I") (by decide +kernel)) (fun _ h9 => h9) rfl dX1_isSet_5 ?_
  refine lv_ishl (pc := 8) hx hb dX1_isSet_8 ?_
  refine tq_i (y := nI ((2 ^ D))) (shl_1 h2) ?_
  refine nv_iconst (pc := 9) (k := 1) hx hb dX1_isSet_9 rfl ?_
  refine nv_isub (pc := 10) hx hb (by omega) dX1_isSet_10 ?_
  refine lv_i2l (pc := 11) (v := zL ((((2 ^ D) - 1) : Nat) : Int)) hx hb dX1_isSet_11 (zL_nI (by omega)) ?_
  refine CTi_S0 (pc := 12) am_no_ok (As := [.long (zL (b)), .long (zL 0), .long (zL ((((2 ^ D) - 1) : Nat) : Int))]) (rest := []) ⟨hx, hb, hml, hown, hts⟩ (c_X1_in l dd ) (va_cwS 3 hts gX1_isSet_X1_in rfl rfl rfl (by decide +kernel) ⟨Nat.le_of_ble_eq_true rfl, Nat.le_of_ble_eq_true rfl⟩) hK hP hD hS hA hX rfl hl.1 rfl (Nat.le_of_ble_eq_true rfl) ⟨Nat.zero_le _, Nat.zero_le _⟩ dX1_isSet_12 (fun r u H locs hw hP hD hS => ?_)
  try dsimp only at hw
  subst hw
  exact hret _ _ _ _ _ (()) (by first | rfl | (split <;> rfl)) (bo_c (by rw [zL_le (by omega) (by omega), zL_le (by omega) (by omega)]; omega)) hP hD hS dX1_isSet_15
set_option maxHeartbeats 4000000 in
set_option maxRecDepth 100000 in
theorem c_X1_rem (l : Launch) (dd : va_G) {cI cL cQ : ClassId}   {z : Int} {n : Nat} (hxr : -9223372036854775808 ≤ z ∧ z < 9223372036854775808) (h0 : 0 < n) (hn : n < 2147483648) : CTi l yX1_rem wsX1_rem ({ frames := 0, cells := 0, slots := 0, locals := 0 } : Room) dd (tysA cI cL cQ) (am_no) [.long (zL (z)), .int (nI (n))] [] (fun (r : Int32) (u : Unit) => r = nI (fmN z n)) (fun (_ : Unit) => []) := by
  refine CTi_of (cc := cX1_rem) (maxL := 4) (by decide +kernel) rfl (Nat.le_of_ble_eq_true rfl) ?_
  intro p e s m args below meth c A Q ls H locs hx hb hts hown hml hP hK hD hS hA hX hl hret
  have hl : lv_has ls 4 [(0, .long (zL (z))), (2, .int (nI (n)))] := hl
  refine lv_lload_n (pc := 0) hx hb dX1_rem_0 rfl (lv_at hl 0 rfl) ?_
  refine lv_iload_n (pc := 1) hx hb dX1_rem_1 rfl (lv_at hl 1 rfl) ?_
  refine lv_i2l (pc := 2) (v := zL ((n : Nat) : Int)) hx hb dX1_rem_2 (zL_nI (by omega)) ?_
  refine lv_lrem (pc := 3) hx hb dX1_rem_3 (zL_ne0 h0 hn) ?_
  refine tq_l (y := zL (z.tmod (n : Int))) (zL_rem hxr h0 hn) ?_
  refine lv_l2i (pc := 4) (v := (zL (z.tmod (n : Int))).toInt32) hx hb dX1_rem_4 rfl ?_
  refine tq_i (y := zI ((z.tmod (n : Int)))) (zL_toI _) ?_
  refine lv_istore_n (pc := 5) (lv' := [(3, .int (zI ((z.tmod (n : Int))))), (0, .long (zL (z))), (2, .int (nI (n)))]) hx hb dX1_rem_5 rfl hl (by decide) rfl (fun ls hl => ?_)
  refine lv_iload_n (pc := 6) hx hb dX1_rem_6 rfl (lv_at hl 0 rfl) ?_
  refine zv_if_ge (pc := 7) (tgt := 16) hx hb (by have := fm_rng (x := z) h0; omega) dX1_rem_7 (by decide) (fun h7 => ?_) (fun h7 => ?_)
  · skip
    refine lv_iload_n (pc := 16) hx hb dX1_rem_16 rfl (lv_at hl 0 rfl) ?_
    exact hret _ _ _ _ _ (()) (by show zI (z.tmod (n : Int)) = nI (fmN z n); by_cases q : 0 ≤ z; (rw [nI_zI, fm_pos q h0]); (have w := fm_neg_rng (show z < 0 by omega) h0; have w2 : z.tmod (n : Int) = 0 := (by omega); rw [w2, fm_zero h0 w2]; rfl)) hP hD hS dX1_rem_17
  · skip
    refine lv_iload_n (pc := 10) hx hb dX1_rem_10 rfl (lv_at hl 0 rfl) ?_
    refine lv_iload_n (pc := 11) hx hb dX1_rem_11 rfl (lv_at hl 2 rfl) ?_
    refine zv_2 (pc := 12) (a := ((n : Nat) : Int)) (b := (z.tmod (n : Int))) ((nI_zI _)) (rfl) ?_
    refine zv_iadd (pc := 12) hx hb dX1_rem_12 ?_
    refine lv_goto (pc := 13) (tgt := 17) hx hb dX1_rem_13 (by decide) ?_
    exact hret _ _ _ _ _ (()) (by show zI (z.tmod (n : Int) + ((n : Nat) : Int)) = nI (fmN z n); by_cases q : 0 ≤ z; (rw [fm_pos q h0] at h7; omega); (rw [fm_neg (by omega) h0 (by omega), ← nI_zI])) hP hD hS dX1_rem_17
