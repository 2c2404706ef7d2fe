set_option maxHeartbeats 4000000 in
set_option maxRecDepth 100000 in
theorem c_X0_add (l : Launch) (dd : va_G) {ad : Nat → Nat} {cI cL cQ : ClassId} {tR : Nat} {way : Int} {hv : Nat → Nat → Int32} {ix : Nat → Int32} {pw : Nat → Int32} {sg : Nat → Int32} {tm : Nat → Int32} {hd : Nat → Nat → Int32} {wk : Nat → Int64} {rc : Nat → Int64} {lc : Nat → Int64} {P : Nat} {D : Nat} {h1 : Nat} {h2 : Nat} {sg9 : Int} (hD1 : 1 ≤ D ∧ D ≤ 12) (hh1 : h1 < 6) (hh2 : h2 < 6) (hsg : (way = 0 ∧ sg9 = 1) ∨ (way ≠ 0 ∧ sg9 = -1)) (hH : okH D hv hd) : CTv l yX0_add wsX0_add ({ frames := 1, cells := 0, slots := 0, locals := 24 } : Room) dd (tysA cI cL cQ) (rX tR) [.ref (ad 0), .ref (ad (9 + h1)), .ref (ad (9 + h2)), .int (zI (sg9))] (wC ad cI cL cQ (ix) (pw) (sg) (tm) (hd) (wk) (rc) (lc) (P) ((rootN P)) (D) ((phN D))) (fun (u : Nat → Int64) => ∀ j, j < phN D → Lf D j u D = adV way (hlV hv h1) (hlV hv h2) j) (fun (u : Nat → Int64) => (wC ad cI cL cQ (ix) (pw) (sg) (tm) (hd) (u) (rc) (lc) (P) ((rootN P)) (D) ((phN D)))) := by
  refine CTv_of (cc := cX0_add) (maxL := 5) (by decide +kernel) rfl (Nat.le_of_ble_eq_true rfl) ?_
  intro p e s m args below meth c A Q ls H locs hx hb hts hown hml hP hK hD hS hA hX hl hret
  have hin : ∀ w ∈ wsX00, w ∈ wsX0_add := by decide +kernel
  have hl : lv_has ls 5 [(0, .ref (ad 0)), (1, .ref (ad (9 + h1))), (2, .ref (ad (9 + h2))), (3, .int (zI (sg9)))] := hl
  have hph := ph_rng D (by omega) hD1.1
  refine lv_aload_n (pc := 0) hx hb dX0_add_0 rfl (lv_at hl 0 rfl) ?_
  refine va_get (pc := 1) (D := dd) (ci := 0) (v := .ref (ad 6)) (C := RX0) (T := TX0) (N := 12) hx hb hts hin hown hK hP 0 rfl rfl 5 (by decide) (hts (.fieldLink RX0 27 "TurningSums" "work" "[J") (by decide +kernel)) (fun _ h9 => h9) rfl dX0_add_1 ?_
  refine lv_lconst (pc := 4) (v := zL 0) hx hb dX0_add_4 (by decide) ?_
  refine CTv_Sp (pc := 5) am_no_ok (As := [.ref (ad 6), .long (zL 0)]) (rest := []) ⟨hx, hb, hml, hown, hts⟩ (c_J7_fill_d0a16 l dd (by decide)) (va_cwS 2 hts gX0_add_J7_fill_d0a16 rfl rfl rfl (by decide +kernel) ⟨Nat.le_of_ble_eq_true rfl, Nat.le_of_ble_eq_true rfl⟩) hK hP hD hS hA trivial [6] [0, 1, 2, 3, 4, 5, 7, 8, 9, 10, 11, 12, 13, 14] rfl rfl rfl rfl (by decide) rfl hl.1 rfl (Nat.le_of_ble_eq_true rfl) ⟨Nat.zero_le _, Nat.zero_le _⟩ dX0_add_5 (fun u H locs hw hP hD hS => ?_)
  try dsimp only at hw
  subst hw
  have hP : va_P dd vwCl (wC ad cI cL cQ (ix) (pw) (sg) (tm) (hd) ((fun k => if k < 12 then zL 0 else (wk) k)) (rc) (lc) (P) ((rootN P)) (D) ((phN D))) H := hP.sub [0, 1, 2, 3, 4, 5, 14, 6, 7, 8, 9, 10, 11, 12, 13] rfl
  have hD : va_D A (wC ad cI cL cQ (ix) (pw) (sg) (tm) (hd) ((fun k => if k < 12 then zL 0 else (wk) k)) (rc) (lc) (P) ((rootN P)) (D) ((phN D))) := hD.sub [0, 1, 2, 3, 4, 5, 14, 6, 7, 8, 9, 10, 11, 12, 13] (by decide) rfl
  refine nv_iconst (pc := 8) (k := 0) hx hb dX0_add_8 rfl ?_
  refine lv_istore (pc := 9) (lv' := [(4, .int (nI (0))), (0, .ref (ad 0)), (1, .ref (ad (9 + h1))), (2, .ref (ad (9 + h2))), (3, .int (zI (sg9)))]) hx hb dX0_add_9 hl (by decide) rfl (fun ls hl => ?_)
  have L11 : ∀ (n9_11 : Nat), ∀ (i : Nat) (w2 : Nat → Int64), phN D + 1 - i < n9_11 → (i ≤ phN D) → (∀ m, m < 12 → w2 m = if m < i then adV way (hlV hv h1) (hlV hv h2) m else zL 0) → ∀ (H : Heap) (locs : List Loc) (ls : Array Slot), va_P dd vwCl (wC ad cI cL cQ (ix) (pw) (sg) (tm) (hd) (w2) (rc) (lc) (P) ((rootN P)) (D) ((phN D))) H → va_D A (wC ad cI cL cQ (ix) (pw) (sg) (tm) (hd) (w2) (rc) (lc) (P) ((rootN P)) (D) ((phN D))) → va_S A s.heap H locs → lv_has ls 5 [(0, .ref (ad 0)), (1, .ref (ad (9 + h1))), (2, .ref (ad (9 + h2))), (3, .int (zI (sg9))), (4, .int (nI (i)))] → W p l e ({ frames := 1, cells := 0, slots := 0, locals := 24 } : Room) s m args below meth c H locs 0 0 Q (F0 m 11 ls []) := by
    intro n9_11
    induction n9_11 with
    | zero => intro i w2 hm; exact absurd hm (Nat.not_lt_zero _)
    | succ n9_11 ih_11 =>
      intro i w2 hm_11 hi hw2 H locs ls hP hD hS hl
      refine lv_iload (pc := 11) hx hb dX0_add_11 (lv_at hl 4 rfl) ?_
      refine lv_aload_n (pc := 13) hx hb dX0_add_13 rfl (lv_at hl 0 rfl) ?_
      refine va_get (pc := 14) (D := dd) (ci := 0) (v := .int (nI ((phN D)))) (C := RX0) (T := TX0) (N := 12) hx hb hts hin hown hK hP 0 rfl rfl 11 (by decide) (hts (.fieldLink RX0 55 "TurningSums" "phi" "I") (by decide +kernel)) (fun _ h9 => h9) rfl dX0_add_14 ?_
      refine nv_icmp_ge (pc := 17) (tgt := 47) hx hb (a := i) (b := (phN D)) (by omega) (by omega) dX0_add_17 (by decide) (fun h17 => ?_) (fun h17 => ?_)
      · skip
        exact hret _ _ _ _ (w2) (fun j z => by rw [Lf_low hD1 z D (by omega) (fun m a b => by rw [hw2 m (by omega), if_neg (by omega)]), hw2 j (by omega), if_pos (by omega)]) hP hD hS dX0_add_47
      · skip
        refine lv_aload_n (pc := 20) hx hb dX0_add_20 rfl (lv_at hl 0 rfl) ?_
        refine va_get (pc := 21) (D := dd) (ci := 0) (v := .ref (ad 6)) (C := RX0) (T := TX0) (N := 12) hx hb hts hin hown hK hP 0 rfl rfl 5 (by decide) (hts (.fieldLink RX0 27 "TurningSums" "work" "[J") (by decide +kernel)) (fun _ h9 => h9) rfl dX0_add_21 ?_
        refine lv_iload (pc := 24) hx hb dX0_add_24 (lv_at hl 4 rfl) ?_
        refine lv_aload_n (pc := 26) hx hb dX0_add_26 rfl (lv_at hl 1 rfl) ?_
        refine lv_iload (pc := 27) hx hb dX0_add_27 (lv_at hl 4 rfl) ?_
        refine nv_iald (pc := 29) hx hb hK hP (9 + (h1)) 0 (hd_get (by omega)) rfl (i := i) (by omega) (by decide) (v := ((hv h1 i))) (hH _ hh1 _ (by omega)) dX0_add_29 ?_
        refine lv_i2l (pc := 30) (v := (((hv h1 i))).toInt64) hx hb dX0_add_30 (rfl) ?_
        refine lv_iload_n (pc := 31) hx hb dX0_add_31 rfl (lv_at hl 3 rfl) ?_
        refine lv_i2l (pc := 32) (v := zL (sg9)) hx hb dX0_add_32 (zL_zI (by omega) (by omega)) ?_
        refine lv_aload_n (pc := 33) hx hb dX0_add_33 rfl (lv_at hl 2 rfl) ?_
        refine lv_iload (pc := 34) hx hb dX0_add_34 (lv_at hl 4 rfl) ?_
        refine nv_iald (pc := 36) hx hb hK hP (9 + (h2)) 0 (hd_get (by omega)) rfl (i := i) (by omega) (by decide) (v := ((hv h2 i))) (hH _ hh2 _ (by omega)) dX0_add_36 ?_
        refine lv_i2l (pc := 37) (v := (((hv h2 i))).toInt64) hx hb dX0_add_37 (rfl) ?_
        refine lv_lmul (pc := 38) hx hb dX0_add_38 ?_
        refine lv_ladd (pc := 39) hx hb dX0_add_39 ?_
        refine nv_last (pc := 40) hx hb hK hP hD hS 6 1 rfl rfl (by omega) (by decide) (ws' := (wC ad cI cL cQ (ix) (pw) (sg) (tm) (hd) ((vp_updL (w2) (i) (((((hv h1 i))).toInt64 + (zL (sg9) * (((hv h2 i))).toInt64))))) (rc) (lc) (P) ((rootN P)) (D) ((phN D)))) rfl dX0_add_40 (fun H locs hP hD hS => ?_)
        refine lv_iinc (pc := 41) (v := nI ((i + 1))) (lv' := [(4, .int (nI ((i + 1)))), (0, .ref (ad 0)), (1, .ref (ad (9 + h1))), (2, .ref (ad (9 + h2))), (3, .int (zI (sg9)))]) hx hb dX0_add_41 hl (k := 4) rfl (nI_inc _) (by decide) rfl (fun ls hl => ?_)
        refine lv_goto (pc := 44) (tgt := 11) hx hb dX0_add_44 (by decide) ?_
        exact ih_11 ((i + 1)) ((vp_updL (w2) (i) (((((hv h1 i))).toInt64 + (zL (sg9) * (((hv h2 i))).toInt64))))) (by omega) (by omega) (ad_s (ad_v hsg) hw2) _ _ _ hP hD hS (lv_sub hl [1, 2, 3, 4, 0] rfl)
  exact L11 _ (0) ((fun k => if k < 12 then zL 0 else (wk) k)) (Nat.lt_succ_self _) (by omega) (fun m z => by show (if m < 12 then zL 0 else wk m) = _; rw [if_pos z]; exact (if_neg (by omega)).symm) _ _ _ hP hD hS (lv_sub hl [1, 2, 3, 4, 0] rfl)
set_option maxHeartbeats 4000000 in
set_option maxRecDepth 100000 in
theorem c_X0_multiply (l : Launch) (dd : va_G) {ad : Nat → Nat} {cI cL cQ : ClassId} {tR : Nat} {hv : Nat → Nat → Int32} {ix : Nat → Int32} {pw : Nat → Int32} {sg : Nat → Int32} {tm : Nat → Int32} {hd : Nat → Nat → Int32} {wk : Nat → Int64} {rc : Nat → Int64} {lc : Nat → Int64} {P : Nat} {D : Nat} {h1 : Nat} {h2 : Nat} {st : Nat} (hD1 : 1 ≤ D ∧ D ≤ 12) (hh1 : h1 < 6) (hh2 : h2 < 6) (hst : st ≤ 12) (hH : okH D hv hd) : CTv l yX0_multiply wsX0_multiply ({ frames := 1, cells := 0, slots := 0, locals := 24 } : Room) dd (tysA cI cL cQ) (rX tR) [.ref (ad 0), .ref (ad (9 + h1)), .ref (ad (9 + h2)), .int (nI (st))] (wC ad cI cL cQ (ix) (pw) (sg) (tm) (hd) (wk) (rc) (lc) (P) ((rootN P)) (D) ((phN D))) (fun (u : Nat → Int64) => ∀ j, j < phN D → Lf D j u D = mlV D (hlV hv h1) (hlV hv h2) st (phN D) j) (fun (u : Nat → Int64) => (wC ad cI cL cQ (ix) (pw) (sg) (tm) (hd) (u) (rc) (lc) (P) ((rootN P)) (D) ((phN D)))) := by
  refine CTv_of (cc := cX0_multiply) (maxL := 6) (by decide +kernel) rfl (Nat.le_of_ble_eq_true rfl) ?_
  intro p e s m args below meth c A Q ls H locs hx hb hts hown hml hP hK hD hS hA hX hl hret
  have hin : ∀ w ∈ wsX00, w ∈ wsX0_multiply := by decide +kernel
  have hl : lv_has ls 6 [(0, .ref (ad 0)), (1, .ref (ad (9 + h1))), (2, .ref (ad (9 + h2))), (3, .int (nI (st)))] := hl
  have hph := ph_rng D (by omega) hD1.1
  refine lv_aload_n (pc := 0) hx hb dX0_multiply_0 rfl (lv_at hl 0 rfl) ?_
  refine va_get (pc := 1) (D := dd) (ci := 0) (v := .ref (ad 6)) (C := RX0) (T := TX0) (N := 12) hx hb hts hin hown hK hP 0 rfl rfl 5 (by decide) (hts (.fieldLink RX0 27 "TurningSums" "work" "[J") (by decide +kernel)) (fun _ h9 => h9) rfl dX0_multiply_1 ?_
  refine lv_lconst (pc := 4) (v := zL 0) hx hb dX0_multiply_4 (by decide) ?_
  refine CTv_Sp (pc := 5) am_no_ok (As := [.ref (ad 6), .long (zL 0)]) (rest := []) ⟨hx, hb, hml, hown, hts⟩ (c_J7_fill_d0a16 l dd (by decide)) (va_cwS 2 hts gX0_multiply_J7_fill_d0a16 rfl rfl rfl (by decide +kernel) ⟨Nat.le_of_ble_eq_true rfl, Nat.le_of_ble_eq_true rfl⟩) hK hP hD hS hA trivial [6] [0, 1, 2, 3, 4, 5, 7, 8, 9, 10, 11, 12, 13, 14] rfl rfl rfl rfl (by decide) rfl hl.1 rfl (Nat.le_of_ble_eq_true rfl) ⟨Nat.zero_le _, Nat.zero_le _⟩ dX0_multiply_5 (fun u H locs hw hP hD hS => ?_)
  try dsimp only at hw
  subst hw
  have hP : va_P dd vwCl (wC ad cI cL cQ (ix) (pw) (sg) (tm) (hd) ((fun k => if k < 12 then zL 0 else (wk) k)) (rc) (lc) (P) ((rootN P)) (D) ((phN D))) H := hP.sub [0, 1, 2, 3, 4, 5, 14, 6, 7, 8, 9, 10, 11, 12, 13] rfl
  have hD : va_D A (wC ad cI cL cQ (ix) (pw) (sg) (tm) (hd) ((fun k => if k < 12 then zL 0 else (wk) k)) (rc) (lc) (P) ((rootN P)) (D) ((phN D))) := hD.sub [0, 1, 2, 3, 4, 5, 14, 6, 7, 8, 9, 10, 11, 12, 13] (by decide) rfl
  refine nv_iconst (pc := 8) (k := 0) hx hb dX0_multiply_8 rfl ?_
  refine lv_istore (pc := 9) (lv' := [(4, .int (nI (0))), (0, .ref (ad 0)), (1, .ref (ad (9 + h1))), (2, .ref (ad (9 + h2))), (3, .int (nI (st)))]) hx hb dX0_multiply_9 hl (by decide) rfl (fun ls hl => ?_)
  have L11 : ∀ (n9_11 : Nat), ∀ (i : Nat) (w1 : Nat → Int64), phN D + 1 - i < n9_11 → (i ≤ phN D) → (∀ j, j < phN D → Lf D j w1 D = mlV D (hlV hv h1) (hlV hv h2) st i j) → ∀ (H : Heap) (locs : List Loc) (ls : Array Slot), va_P dd vwCl (wC ad cI cL cQ (ix) (pw) (sg) (tm) (hd) (w1) (rc) (lc) (P) ((rootN P)) (D) ((phN D))) H → va_D A (wC ad cI cL cQ (ix) (pw) (sg) (tm) (hd) (w1) (rc) (lc) (P) ((rootN P)) (D) ((phN D))) → va_S A s.heap H locs → lv_has ls 6 [(0, .ref (ad 0)), (1, .ref (ad (9 + h1))), (2, .ref (ad (9 + h2))), (3, .int (nI (st))), (4, .int (nI (i)))] → W p l e ({ frames := 1, cells := 0, slots := 0, locals := 24 } : Room) s m args below meth c H locs 0 0 Q (F0 m 11 ls []) := by
    intro n9_11
    induction n9_11 with
    | zero => intro i w1 hm; exact absurd hm (Nat.not_lt_zero _)
    | succ n9_11 ih_11 =>
      intro i w1 hm_11 hi hL1 H locs ls hP hD hS hl
      refine lv_iload (pc := 11) hx hb dX0_multiply_11 (lv_at hl 4 rfl) ?_
      refine lv_aload_n (pc := 13) hx hb dX0_multiply_13 rfl (lv_at hl 0 rfl) ?_
      refine va_get (pc := 14) (D := dd) (ci := 0) (v := .int (nI ((phN D)))) (C := RX0) (T := TX0) (N := 12) hx hb hts hin hown hK hP 0 rfl rfl 11 (by decide) (hts (.fieldLink RX0 55 "TurningSums" "phi" "I") (by decide +kernel)) (fun _ h9 => h9) rfl dX0_multiply_14 ?_
      refine nv_icmp_ge (pc := 17) (tgt := 75) hx hb (a := i) (b := (phN D)) (by omega) (by omega) dX0_multiply_17 (by decide) (fun h17 => ?_) (fun h17 => ?_)
      · skip
        exact hret _ _ _ _ (w1) (fun j z => by rw [hL1 j z, show i = phN D by omega]) hP hD hS dX0_multiply_75
      · skip
        refine nv_iconst (pc := 20) (k := 0) hx hb dX0_multiply_20 rfl ?_
        refine lv_istore (pc := 21) (lv' := [(5, .int (nI (0))), (0, .ref (ad 0)), (1, .ref (ad (9 + h1))), (2, .ref (ad (9 + h2))), (3, .int (nI (st))), (4, .int (nI (i)))]) hx hb dX0_multiply_21 hl (by decide) rfl (fun ls hl => ?_)
        have L23 : ∀ (n9_23 : Nat), ∀ (k : Nat) (w2 : Nat → Int64), phN D + 1 - k < n9_23 → (k ≤ phN D) → (∀ j, j < phN D → Lf D j w2 D = mlV D (hlV hv h1) (hlV hv h2) st i j + rwV D (hlV hv h1) (hlV hv h2) st i k j) → ∀ (H : Heap) (locs : List Loc) (ls : Array Slot), va_P dd vwCl (wC ad cI cL cQ (ix) (pw) (sg) (tm) (hd) (w2) (rc) (lc) (P) ((rootN P)) (D) ((phN D))) H → va_D A (wC ad cI cL cQ (ix) (pw) (sg) (tm) (hd) (w2) (rc) (lc) (P) ((rootN P)) (D) ((phN D))) → va_S A s.heap H locs → lv_has ls 6 [(0, .ref (ad 0)), (1, .ref (ad (9 + h1))), (2, .ref (ad (9 + h2))), (3, .int (nI (st))), (4, .int (nI (i))), (5, .int (nI (k)))] → W p l e ({ frames := 1, cells := 0, slots := 0, locals := 24 } : Room) s m args below meth c H locs 0 0 Q (F0 m 23 ls []) := by
          intro n9_23
          induction n9_23 with
          | zero => intro k w2 hm; exact absurd hm (Nat.not_lt_zero _)
          | succ n9_23 ih_23 =>
            intro k w2 hm_23 hk hL2 H locs ls hP hD hS hl
            have hks := Nat.mul_le_mul hk hst
            have hkm := Nat.mul_le_mul (show k ≤ 12 by omega) hst
            have hm := Nat.mod_lt (i + k * st) (show 0 < D by omega)
            refine lv_iload (pc := 23) hx hb dX0_multiply_23 (lv_at hl 5 rfl) ?_
            refine lv_aload_n (pc := 25) hx hb dX0_multiply_25 rfl (lv_at hl 0 rfl) ?_
            refine va_get (pc := 26) (D := dd) (ci := 0) (v := .int (nI ((phN D)))) (C := RX0) (T := TX0) (N := 12) hx hb hts hin hown hK hP 0 rfl rfl 11 (by decide) (hts (.fieldLink RX0 55 "TurningSums" "phi" "I") (by decide +kernel)) (fun _ h9 => h9) rfl dX0_multiply_26 ?_
            refine nv_icmp_ge (pc := 29) (tgt := 69) hx hb (a := k) (b := (phN D)) (by omega) (by omega) dX0_multiply_29 (by decide) (fun h29 => ?_) (fun h29 => ?_)
            · skip
              refine lv_iinc (pc := 69) (v := nI ((i + 1))) (lv' := [(4, .int (nI ((i + 1)))), (0, .ref (ad 0)), (1, .ref (ad (9 + h1))), (2, .ref (ad (9 + h2))), (3, .int (nI (st))), (5, .int (nI (k)))]) hx hb dX0_multiply_69 hl (k := 4) rfl (nI_inc _) (by decide) rfl (fun ls hl => ?_)
              refine lv_goto (pc := 72) (tgt := 11) hx hb dX0_multiply_72 (by decide) ?_
              exact ih_11 ((i + 1)) (w2) (by omega) (by omega) (fun j z => (hL2 j z).trans (by rw [show k = phN D by omega]; rfl)) _ _ _ hP hD hS (lv_sub hl [1, 2, 3, 4, 0] rfl)
            · skip
              refine lv_aload_n (pc := 32) hx hb dX0_multiply_32 rfl (lv_at hl 0 rfl) ?_
              refine va_get (pc := 33) (D := dd) (ci := 0) (v := .ref (ad 6)) (C := RX0) (T := TX0) (N := 12) hx hb hts hin hown hK hP 0 rfl rfl 5 (by decide) (hts (.fieldLink RX0 27 "TurningSums" "work" "[J") (by decide +kernel)) (fun _ h9 => h9) rfl dX0_multiply_33 ?_
              refine lv_iload (pc := 36) hx hb dX0_multiply_36 (lv_at hl 4 rfl) ?_
              refine lv_iload (pc := 38) hx hb dX0_multiply_38 (lv_at hl 5 rfl) ?_
              refine lv_iload_n (pc := 40) hx hb dX0_multiply_40 rfl (lv_at hl 3 rfl) ?_
              refine nv_imul (pc := 41) hx hb dX0_multiply_41 ?_
              refine nv_iadd (pc := 42) hx hb dX0_multiply_42 ?_
              refine lv_aload_n (pc := 43) hx hb dX0_multiply_43 rfl (lv_at hl 0 rfl) ?_
              refine va_get (pc := 44) (D := dd) (ci := 0) (v := .int (nI (D))) (C := RX0) (T := TX0) (N := 12) hx hb hts hin hown hK hP 0 rfl rfl 10 (by decide) (hts (.fieldLink RX0 74 "TurningSums" "d" "I") (by decide +kernel)) (fun _ h9 => h9) rfl dX0_multiply_44 ?_
              refine nv_irem (pc := 47) hx hb (by omega) (by omega) (by omega) dX0_multiply_47 ?_
              refine lv_dup2_11 (pc := 48) hx hb dX0_multiply_48 rfl rfl ?_
              refine nv_lald (pc := 49) hx hb hK hP 6 1 rfl rfl (i := ((i + (k * st)) % D)) (by omega) (by decide) (v := (w2) (((i + (k * st)) % D))) (rfl) dX0_multiply_49 ?_
              refine lv_aload_n (pc := 50) hx hb dX0_multiply_50 rfl (lv_at hl 1 rfl) ?_
              refine lv_iload (pc := 51) hx hb dX0_multiply_51 (lv_at hl 4 rfl) ?_
              refine nv_iald (pc := 53) hx hb hK hP (9 + (h1)) 0 (hd_get (by omega)) rfl (i := i) (by omega) (by decide) (v := ((hv h1 i))) (hH _ hh1 _ (by omega)) dX0_multiply_53 ?_
              refine lv_i2l (pc := 54) (v := (((hv h1 i))).toInt64) hx hb dX0_multiply_54 (rfl) ?_
              refine lv_aload_n (pc := 55) hx hb dX0_multiply_55 rfl (lv_at hl 2 rfl) ?_
              refine lv_iload (pc := 56) hx hb dX0_multiply_56 (lv_at hl 5 rfl) ?_
              refine nv_iald (pc := 58) hx hb hK hP (9 + (h2)) 0 (hd_get (by omega)) rfl (i := k) (by omega) (by decide) (v := ((hv h2 k))) (hH _ hh2 _ (by omega)) dX0_multiply_58 ?_
              refine lv_i2l (pc := 59) (v := (((hv h2 k))).toInt64) hx hb dX0_multiply_59 (rfl) ?_
              refine lv_lmul (pc := 60) hx hb dX0_multiply_60 ?_
              refine lv_ladd (pc := 61) hx hb dX0_multiply_61 ?_
              refine nv_last (pc := 62) hx hb hK hP hD hS 6 1 rfl rfl (by omega) (by decide) (ws' := (wC ad cI cL cQ (ix) (pw) (sg) (tm) (hd) ((vp_updL (w2) (((i + (k * st)) % D)) (((w2) (((i + (k * st)) % D)) + ((((hv h1 i))).toInt64 * (((hv h2 k))).toInt64))))) (rc) (lc) (P) ((rootN P)) (D) ((phN D)))) rfl dX0_multiply_62 (fun H locs hP hD hS => ?_)
              refine lv_iinc (pc := 63) (v := nI ((k + 1))) (lv' := [(5, .int (nI ((k + 1)))), (0, .ref (ad 0)), (1, .ref (ad (9 + h1))), (2, .ref (ad (9 + h2))), (3, .int (nI (st))), (4, .int (nI (i)))]) hx hb dX0_multiply_63 hl (k := 5) rfl (nI_inc _) (by decide) rfl (fun ls hl => ?_)
              refine lv_goto (pc := 66) (tgt := 23) hx hb dX0_multiply_66 (by decide) ?_
              exact ih_23 ((k + 1)) ((vp_updL (w2) (((i + (k * st)) % D)) (((w2) (((i + (k * st)) % D)) + ((((hv h1 i))).toInt64 * (((hv h2 k))).toInt64))))) (by omega) (by omega) (fun j z => by rw [Lf_add (by omega), hL2 j z, Int64.add_assoc]; rfl) _ _ _ hP hD hS (lv_sub hl [1, 2, 3, 4, 5, 0] rfl)
        exact L23 _ (0) (w1) (Nat.lt_succ_self _) (by omega) (fun j z => by rw [hL1 j z]; exact (Int64.add_zero _).symm) _ _ _ hP hD hS (lv_sub hl [1, 2, 3, 4, 5, 0] rfl)
  exact L11 _ (0) ((fun k => if k < 12 then zL 0 else (wk) k)) (Nat.lt_succ_self _) (by omega) (fun j z => Lf_zero (fun m a => if_pos (by omega))) _ _ _ hP hD hS (lv_sub hl [1, 2, 3, 4, 0] rfl)
set_option maxHeartbeats 4000000 in
set_option maxRecDepth 100000 in
theorem c_X0_sum (l : Launch) (dd : va_G) {ad : Nat → Nat} {cI cL cQ : ClassId} {tR : Nat} {hv : Nat → Nat → Int32} {ix : Nat → Int32} {pw : Nat → Int32} {sg : Nat → Int32} {tm : Nat → Int32} {hd : Nat → Nat → Int32} {wk : Nat → Int64} {rc : Nat → Int64} {lc : Nat → Int64} {P : Nat} {D : Nat} {h : Int} {a : Int} {b : Int} (hhr : -2147483648 ≤ h ∧ h < 2147483648) (har : -2147483648 ≤ a ∧ a < 2147483648) (hbr : -2147483648 ≤ b ∧ b < 2147483648) (hP1 : okP P) (hD1 : 1 ≤ D ∧ D ≤ 12) (hix : ∀ y, 1 ≤ y → y < P → ix y = nI (ixN P y)) (hH : okH D hv hd) : CTi l yX0_sum wsX0_sum ({ frames := 2, cells := 0, slots := 0, locals := 44 } : Room) dd (tysA cI cL cQ) (rX tR) [.ref (ad 0), .int (zI (h)), .int (zI (a)), .int (zI (b))] (wC ad cI cL cQ (ix) (pw) (sg) (tm) (hd) (wk) (rc) (lc) (P) ((rootN P)) (D) ((phN D))) (fun (r : Int32) (u : (Nat → Int64) × (Nat → Nat → Int32)) => (¬ (0 ≤ h ∧ h < 6) ∧ r = zI (-2) ∧ u.2 = hd) ∨ ((0 ≤ h ∧ h < 6) ∧ r = nI (P - 2) ∧ ((inR D (fun j => sumV P D a b P j) ∧ okH D (stR hv h.toNat (fun j => sumV P D a b P j)) u.2) ∨ (¬ inR D (fun j => sumV P D a b P j) ∧ u.2 = hd)))) (fun (u : (Nat → Int64) × (Nat → Nat → Int32)) => (wC ad cI cL cQ (ix) (pw) (sg) (tm) (u.2) (u.1) (rc) (lc) (P) ((rootN P)) (D) ((phN D)))) := by
  refine CTi_of (cc := cX0_sum) (maxL := 7) (by decide +kernel) rfl (Nat.le_of_ble_eq_true rfl) ?_
  intro p e s m args below meth c A Q ls H locs hx hb hts hown hml hP hK hD hS hA hX hl hret
  have hin : ∀ w ∈ wsX00, w ∈ wsX0_sum := by decide +kernel
  have hl : lv_has ls 7 [(0, .ref (ad 0)), (1, .int (zI (h))), (2, .int (zI (a))), (3, .int (zI (b)))] := hl
  obtain ⟨o1, o2, o3, o4, o5, o6⟩ := id hP1
  have hph := ph_rng D (by omega) hD1.1
  refine lv_iload_n (pc := 0) hx hb dX0_sum_0 rfl (lv_at hl 1 rfl) ?_
  refine CTi_S0 (pc := 1) am_no_ok (As := [.int (zI (h))]) (rest := []) ⟨hx, hb, hml, hown, hts⟩ (c_X0_isHold l dd (by omega)) (va_cwS 1 hts gX0_sum_X0_isHold rfl rfl rfl (by decide +kernel) ⟨Nat.le_of_ble_eq_true rfl, Nat.le_of_ble_eq_true rfl⟩) hK hP hD hS hA trivial rfl hl.1 rfl (Nat.le_of_ble_eq_true rfl) ⟨Nat.zero_le _, Nat.zero_le _⟩ dX0_sum_1 (fun r u H locs hw hP hD hS => ?_)
  try dsimp only at hw
  subst hw
  refine bv_if_ne (pc := 4) (tgt := 10) hx hb dX0_sum_4 (by decide) (fun h4 => ?_) (fun h4 => ?_)
  · skip
    refine lv_iload_n (pc := 10) hx hb dX0_sum_10 rfl (lv_at hl 2 rfl) ?_
    refine lv_aload_n (pc := 11) hx hb dX0_sum_11 rfl (lv_at hl 0 rfl) ?_
    refine va_get (pc := 12) (D := dd) (ci := 0) (v := .int (nI (D))) (C := RX0) (T := TX0) (N := 12) hx hb hts hin hown hK hP 0 rfl rfl 10 (by decide) (hts (.fieldLink RX0 74 "TurningSums" "d" "I") (by decide +kernel)) (fun _ h9 => h9) rfl dX0_sum_12 ?_
    refine CTi_S0 (pc := 15) am_no_ok (As := [.int (zI (a)), .int (nI (D))]) (rest := []) ⟨hx, hb, hml, hown, hts⟩ (c_J9_floorMod_7cf53 l dd (by omega) (by omega) (by omega)) (va_cwS 2 hts gX0_sum_J9_floorMod_7cf53 rfl rfl rfl (by decide +kernel) ⟨Nat.le_of_ble_eq_true rfl, Nat.le_of_ble_eq_true rfl⟩) hK hP hD hS hA trivial rfl hl.1 rfl (Nat.le_of_ble_eq_true rfl) ⟨Nat.zero_le _, Nat.zero_le _⟩ dX0_sum_15 (fun r u H locs hw hP hD hS => ?_)
    try dsimp only at hw
    subst hw
    refine lv_istore (pc := 18) (lv' := [(4, .int (nI ((fmN (a) (D))))), (0, .ref (ad 0)), (1, .int (zI (h))), (2, .int (zI (a))), (3, .int (zI (b)))]) hx hb dX0_sum_18 hl (by decide) rfl (fun ls hl => ?_)
    refine lv_iload_n (pc := 20) hx hb dX0_sum_20 rfl (lv_at hl 4 rfl) ?_
    refine lv_aload_n (pc := 21) hx hb dX0_sum_21 rfl (lv_at hl 1 rfl) ?_
    refine va_get (pc := 22) (D := dd) (ci := 0) (v := .int (nI (D))) (C := RX0) (T := TX0) (N := 12) hx hb hts hin hown hK hP 0 rfl rfl 10 (by decide) (hts (.fieldLink RX0 74 "TurningSums" "d" "I") (by decide +kernel)) (fun _ h9 => h9) rfl dX0_sum_22 ?_
    refine CTi_S0 (pc := 25) am_no_ok (As := [.int (zI (b)), .int (nI (D))]) (rest := []) ⟨hx, hb, hml, hown, hts⟩ (c_J9_floorMod_7cf53 l dd (by omega) (by omega) (by omega)) (va_cwS 2 hts gX0_sum_J9_floorMod_7cf53 rfl rfl rfl (by decide +kernel) ⟨Nat.le_of_ble_eq_true rfl, Nat.le_of_ble_eq_true rfl⟩) hK hP hD hS hA trivial rfl hl.1 rfl (Nat.le_of_ble_eq_true rfl) ⟨Nat.zero_le _, Nat.zero_le _⟩ dX0_sum_25 (fun r u H locs hw hP hD hS => ?_)
    try dsimp only at hw
    subst hw
    refine lv_istore (pc := 28) (lv' := [(5, .int (nI ((fmN (b) (D))))), (4, .int (nI ((fmN (a) (D))))), (0, .ref (ad 0)), (1, .int (zI (h))), (2, .int (zI (a))), (3, .int (zI (b)))]) hx hb dX0_sum_28 hl (by decide) rfl (fun ls hl => ?_)
    refine lv_aload_n (pc := 30) hx hb dX0_sum_30 rfl (lv_at hl 2 rfl) ?_
    refine va_get (pc := 31) (D := dd) (ci := 0) (v := .ref (ad 6)) (C := RX0) (T := TX0) (N := 12) hx hb hts hin hown hK hP 0 rfl rfl 5 (by decide) (hts (.fieldLink RX0 27 "TurningSums" "work" "[J") (by decide +kernel)) (fun _ h9 => h9) rfl dX0_sum_31 ?_
    refine lv_lconst (pc := 34) (v := zL 0) hx hb dX0_sum_34 (by decide) ?_
    refine CTv_Sp (pc := 35) am_no_ok (As := [.ref (ad 6), .long (zL 0)]) (rest := []) ⟨hx, hb, hml, hown, hts⟩ (c_J7_fill_d0a16 l dd (by decide)) (va_cwS 2 hts gX0_sum_J7_fill_d0a16 rfl rfl rfl (by decide +kernel) ⟨Nat.le_of_ble_eq_true rfl, Nat.le_of_ble_eq_true rfl⟩) hK hP hD hS hA trivial [6] [0, 1, 2, 3, 4, 5, 7, 8, 9, 10, 11, 12, 13, 14] rfl rfl rfl rfl (by decide) rfl hl.1 rfl (Nat.le_of_ble_eq_true rfl) ⟨Nat.zero_le _, Nat.zero_le _⟩ dX0_sum_35 (fun u H locs hw hP hD hS => ?_)
    try dsimp only at hw
    subst hw
    have hP : va_P dd vwCl (wC ad cI cL cQ (ix) (pw) (sg) (tm) (hd) ((fun k => if k < 12 then zL 0 else (wk) k)) (rc) (lc) (P) ((rootN P)) (D) ((phN D))) H := hP.sub [0, 1, 2, 3, 4, 5, 14, 6, 7, 8, 9, 10, 11, 12, 13] rfl
    have hD : va_D A (wC ad cI cL cQ (ix) (pw) (sg) (tm) (hd) ((fun k => if k < 12 then zL 0 else (wk) k)) (rc) (lc) (P) ((rootN P)) (D) ((phN D))) := hD.sub [0, 1, 2, 3, 4, 5, 14, 6, 7, 8, 9, 10, 11, 12, 13] (by decide) rfl
    refine nv_iconst (pc := 38) (k := 2) hx hb dX0_sum_38 rfl ?_
    refine lv_istore (pc := 39) (lv' := [(6, .int (nI (2))), (5, .int (nI ((fmN (b) (D))))), (4, .int (nI ((fmN (a) (D))))), (0, .ref (ad 0)), (1, .int (zI (h))), (2, .int (zI (a))), (3, .int (zI (b)))]) hx hb dX0_sum_39 hl (by decide) rfl (fun ls hl => ?_)
    have L41 : ∀ (n9_41 : Nat), ∀ (x : Nat) (w2 : Nat → Int64), P + 1 - x < n9_41 → (2 ≤ x ∧ x ≤ P) → (∀ j, j < phN D → Lf D j w2 D = sumV P D a b x j) → ∀ (H : Heap) (locs : List Loc) (ls : Array Slot), va_P dd vwCl (wC ad cI cL cQ (ix) (pw) (sg) (tm) (hd) (w2) (rc) (lc) (P) ((rootN P)) (D) ((phN D))) H → va_D A (wC ad cI cL cQ (ix) (pw) (sg) (tm) (hd) (w2) (rc) (lc) (P) ((rootN P)) (D) ((phN D))) → va_S A s.heap H locs → lv_has ls 7 [(0, .ref (ad 0)), (1, .int (zI (h))), (2, .int (zI (a))), (3, .int (zI (b))), (4, .int (nI ((fmN (a) (D))))), (5, .int (nI ((fmN (b) (D))))), (6, .int (nI (x)))] → W p l e ({ frames := 2, cells := 0, slots := 0, locals := 44 } : Room) s m args below meth c H locs 0 0 Q (F0 m 41 ls []) := by
      intro n9_41
      induction n9_41 with
      | zero => intro x w2 hm; exact absurd hm (Nat.not_lt_zero _)
      | succ n9_41 ih_41 =>
        intro x w2 hm_41 hx9 hL2 H locs ls hP hD hS hl
        have hc1 : clsN P D x < D := Nat.mod_lt _ (by omega)
        have hc2 : clsN P D (P + 1 - x) < D := Nat.mod_lt _ (by omega)
        have hf1 := fmN_lt a (show 0 < D by omega)
        have hf2 := fmN_lt b (show 0 < D by omega)
        have hq1 := Nat.mul_le_mul (show fmN a D ≤ 12 by omega) (show clsN P D x ≤ 12 by omega)
        have hq2 := Nat.mul_le_mul (show fmN b D ≤ 12 by omega) (show clsN P D (P + 1 - x) ≤ 12 by omega)
        have hm := Nat.mod_lt (fmN a D * clsN P D x + fmN b D * clsN P D (P + 1 - x)) (show 0 < D by omega)
        refine lv_iload (pc := 41) hx hb dX0_sum_41 (lv_at hl 6 rfl) ?_
        refine lv_aload_n (pc := 43) hx hb dX0_sum_43 rfl (lv_at hl 0 rfl) ?_
        refine va_get (pc := 44) (D := dd) (ci := 0) (v := .int (nI (P))) (C := RX0) (T := TX0) (N := 12) hx hb hts hin hown hK hP 0 rfl rfl 8 (by decide) (hts (.fieldLink RX0 49 "TurningSums" "p" "I") (by decide +kernel)) (fun _ h9 => h9) rfl dX0_sum_44 ?_
        refine nv_icmp_ge (pc := 47) (tgt := 96) hx hb (a := x) (b := P) (by omega) (by omega) dX0_sum_47 (by decide) (fun h47 => ?_) (fun h47 => ?_)
        · skip
          refine lv_aload_n (pc := 96) hx hb dX0_sum_96 rfl (lv_at hl 0 rfl) ?_
          refine lv_iload_n (pc := 97) hx hb dX0_sum_97 rfl (lv_at hl 1 rfl) ?_
          refine tq_i (pc := 98) (y := nI ((h).toNat)) (zI_toNat (by omega)) ?_
          refine CTi_Vw (pc := 98) (rX_ok tR) (As := [.int (nI ((h).toNat))]) (rest := []) ⟨hx, hb, hml, hown, hts⟩ (c_X0_store l dd (fun j => sumV P D a b P j) hD1 (by omega) (fun j z => (hL2 j z).trans (by rw [show x = P by omega])) hH) (cwV 1 hts gX0_sum_X0_store rfl rfl rfl (by decide +kernel) ⟨Nat.le_of_ble_eq_true rfl, Nat.le_of_ble_eq_true rfl⟩) hK hP hD hS hA hX hK 0 0 rfl rfl rfl rfl hl.1 rfl (Nat.le_of_ble_eq_true rfl) ⟨Nat.zero_le _, Nat.zero_le _⟩ dX0_sum_98 (fun r u H locs hw hP hD hS => ?_)
          try dsimp only at hw
          obtain ⟨wk98, hd98, e9⟩ : ∃ z z2, (z, z2) = u := ⟨_, _, rfl⟩
          rw [← e9] at hw hP hD
          have hw98 := hw
          have hP : va_P dd vwCl (wC ad cI cL cQ (ix) (pw) (sg) (tm) (hd98) (wk98) (rc) (lc) (P) ((rootN P)) (D) ((phN D))) H := hP
          have hD : va_D A (wC ad cI cL cQ (ix) (pw) (sg) (tm) (hd98) (wk98) (rc) (lc) (P) ((rootN P)) (D) ((phN D))) := hD
          refine lv_pop (pc := 101) hx hb dX0_sum_101 rfl ?_
          refine lv_aload_n (pc := 102) hx hb dX0_sum_102 rfl (lv_at hl 0 rfl) ?_
          refine va_get (pc := 103) (D := dd) (ci := 0) (v := .int (nI (P))) (C := RX0) (T := TX0) (N := 12) hx hb hts hin hown hK hP 0 rfl rfl 8 (by decide) (hts (.fieldLink RX0 49 "TurningSums" "p" "I") (by decide +kernel)) (fun _ h9 => h9) rfl dX0_sum_103 ?_
          refine nv_iconst (pc := 106) (k := 2) hx hb dX0_sum_106 rfl ?_
          refine nv_isub (pc := 107) hx hb (by omega) dX0_sum_107 ?_
          exact hret _ _ _ _ _ (wk98, hd98) (Or.inr ⟨h4, rfl, hw98.elim (fun z => Or.inl ⟨z.1, z.2.2⟩) (fun z => Or.inr ⟨z.1, z.2.2⟩)⟩) hP hD hS dX0_sum_108
        · skip
          refine lv_aload_n (pc := 50) hx hb dX0_sum_50 rfl (lv_at hl 0 rfl) ?_
          refine va_get (pc := 51) (D := dd) (ci := 0) (v := .ref (ad 6)) (C := RX0) (T := TX0) (N := 12) hx hb hts hin hown hK hP 0 rfl rfl 5 (by decide) (hts (.fieldLink RX0 27 "TurningSums" "work" "[J") (by decide +kernel)) (fun _ h9 => h9) rfl dX0_sum_51 ?_
          refine lv_iload (pc := 54) hx hb dX0_sum_54 (lv_at hl 4 rfl) ?_
          refine lv_aload_n (pc := 56) hx hb dX0_sum_56 rfl (lv_at hl 0 rfl) ?_
          refine lv_iload (pc := 57) hx hb dX0_sum_57 (lv_at hl 6 rfl) ?_
          refine CTi_Vw (pc := 59) (rX_ok tR) (As := [.int (nI (x))]) (rest := [.int (nI ((fmN (a) (D)))), .ref (ad 6)]) ⟨hx, hb, hml, hown, hts⟩ (c_X0_classOf l dd ⟨o1, o2, hD1.1, hD1.2, hix⟩ (by rw [Nat.mod_eq_of_lt (by omega)]; omega) (by omega)) (cwV 1 hts gX0_sum_X0_classOf rfl rfl rfl (by decide +kernel) ⟨Nat.le_of_ble_eq_true rfl, Nat.le_of_ble_eq_true rfl⟩) hK hP hD hS hA hX hK 0 0 rfl rfl rfl rfl hl.1 rfl (Nat.le_of_ble_eq_true rfl) ⟨Nat.zero_le _, Nat.zero_le _⟩ dX0_sum_59 (fun r u H locs hw hP hD hS => ?_)
          try dsimp only at hw
          subst hw
          refine nv_imul (pc := 62) hx hb dX0_sum_62 ?_
          refine lv_iload (pc := 63) hx hb dX0_sum_63 (lv_at hl 5 rfl) ?_
          refine lv_aload_n (pc := 65) hx hb dX0_sum_65 rfl (lv_at hl 0 rfl) ?_
          refine lv_aload_n (pc := 66) hx hb dX0_sum_66 rfl (lv_at hl 0 rfl) ?_
          refine va_get (pc := 67) (D := dd) (ci := 0) (v := .int (nI (P))) (C := RX0) (T := TX0) (N := 12) hx hb hts hin hown hK hP 0 rfl rfl 8 (by decide) (hts (.fieldLink RX0 49 "TurningSums" "p" "I") (by decide +kernel)) (fun _ h9 => h9) rfl dX0_sum_67 ?_
          refine nv_iconst (pc := 70) (k := 1) hx hb dX0_sum_70 rfl ?_
          refine nv_iadd (pc := 71) hx hb dX0_sum_71 ?_
          refine lv_iload (pc := 72) hx hb dX0_sum_72 (lv_at hl 6 rfl) ?_
          refine nv_isub (pc := 74) hx hb (by omega) dX0_sum_74 ?_
          refine CTi_Vw (pc := 75) (rX_ok tR) (As := [.int (nI (((P + 1) - x)))]) (rest := [.int (nI ((fmN (b) (D)))), .int (nI (((fmN (a) (D)) * (clsN P D (x))))), .ref (ad 6)]) ⟨hx, hb, hml, hown, hts⟩ (c_X0_classOf l dd ⟨o1, o2, hD1.1, hD1.2, hix⟩ (by rw [Nat.mod_eq_of_lt (by omega)]; omega) (by omega)) (cwV 1 hts gX0_sum_X0_classOf rfl rfl rfl (by decide +kernel) ⟨Nat.le_of_ble_eq_true rfl, Nat.le_of_ble_eq_true rfl⟩) hK hP hD hS hA hX hK 0 0 rfl rfl rfl rfl hl.1 rfl (Nat.le_of_ble_eq_true rfl) ⟨Nat.zero_le _, Nat.zero_le _⟩ dX0_sum_75 (fun r u H locs hw hP hD hS => ?_)
          try dsimp only at hw
          subst hw
          refine nv_imul (pc := 78) hx hb dX0_sum_78 ?_
          refine nv_iadd (pc := 79) hx hb dX0_sum_79 ?_
          refine lv_aload_n (pc := 80) hx hb dX0_sum_80 rfl (lv_at hl 0 rfl) ?_
          refine va_get (pc := 81) (D := dd) (ci := 0) (v := .int (nI (D))) (C := RX0) (T := TX0) (N := 12) hx hb hts hin hown hK hP 0 rfl rfl 10 (by decide) (hts (.fieldLink RX0 74 "TurningSums" "d" "I") (by decide +kernel)) (fun _ h9 => h9) rfl dX0_sum_81 ?_
          refine nv_irem (pc := 84) hx hb (by omega) (by omega) (by omega) dX0_sum_84 ?_
          refine lv_dup2_11 (pc := 85) hx hb dX0_sum_85 rfl rfl ?_
          refine nv_lald (pc := 86) hx hb hK hP 6 1 rfl rfl (i := ((((fmN (a) (D)) * (clsN P D (x))) + ((fmN (b) (D)) * (clsN P D (((P + 1) - x))))) % D)) (by omega) (by decide) (v := (w2) (((((fmN (a) (D)) * (clsN P D (x))) + ((fmN (b) (D)) * (clsN P D (((P + 1) - x))))) % D))) (rfl) dX0_sum_86 ?_
          refine lv_lconst (pc := 87) (v := zL 1) hx hb dX0_sum_87 (by decide) ?_
          refine lv_ladd (pc := 88) hx hb dX0_sum_88 ?_
          refine nv_last (pc := 89) hx hb hK hP hD hS 6 1 rfl rfl (by omega) (by decide) (ws' := (wC ad cI cL cQ (ix) (pw) (sg) (tm) (hd) ((vp_updL (w2) (((((fmN (a) (D)) * (clsN P D (x))) + ((fmN (b) (D)) * (clsN P D (((P + 1) - x))))) % D)) (((w2) (((((fmN (a) (D)) * (clsN P D (x))) + ((fmN (b) (D)) * (clsN P D (((P + 1) - x))))) % D)) + zL 1)))) (rc) (lc) (P) ((rootN P)) (D) ((phN D)))) rfl dX0_sum_89 (fun H locs hP hD hS => ?_)
          refine lv_iinc (pc := 90) (v := nI ((x + 1))) (lv' := [(6, .int (nI ((x + 1)))), (0, .ref (ad 0)), (1, .int (zI (h))), (2, .int (zI (a))), (3, .int (zI (b))), (4, .int (nI ((fmN (a) (D))))), (5, .int (nI ((fmN (b) (D)))))]) hx hb dX0_sum_90 hl (k := 6) rfl (nI_inc _) (by decide) rfl (fun ls hl => ?_)
          refine lv_goto (pc := 93) (tgt := 41) hx hb dX0_sum_93 (by decide) ?_
          exact ih_41 ((x + 1)) ((vp_updL (w2) (((((fmN (a) (D)) * (clsN P D (x))) + ((fmN (b) (D)) * (clsN P D (((P + 1) - x))))) % D)) (((w2) (((((fmN (a) (D)) * (clsN P D (x))) + ((fmN (b) (D)) * (clsN P D (((P + 1) - x))))) % D)) + zL 1)))) (by omega) (by omega) (fun j z => by rw [Lf_add (by omega), hL2 j z, sumV_s hx9.1, ← sum_e (by omega)]) _ _ _ hP hD hS (lv_sub hl [1, 2, 3, 4, 5, 6, 0] rfl)
    exact L41 _ (2) ((fun k => if k < 12 then zL 0 else (wk) k)) (Nat.lt_succ_self _) (by omega) (fun j z => by rw [sumV_2]; exact Lf_zero (fun m a => if_pos (by omega))) _ _ _ hP hD hS (lv_sub hl [3, 4, 5, 6, 2, 1, 0] rfl)
  · skip
    refine lv_bipush (pc := 7) (v := zI (-2)) hx hb dX0_sum_7 (by decide) ?_
    exact hret _ _ _ _ _ (wk, hd) (Or.inl ⟨h4, rfl, rfl⟩) hP hD hS dX0_sum_9
set_option maxHeartbeats 4000000 in
set_option maxRecDepth 100000 in
theorem c_X0_unit (l : Launch) (dd : va_G) {ad : Nat → Nat} {cI cL cQ : ClassId} {tR : Nat} {hv : Nat → Nat → Int32} {ix : Nat → Int32} {pw : Nat → Int32} {sg : Nat → Int32} {tm : Nat → Int32} {hd : Nat → Nat → Int32} {wk : Nat → Int64} {rc : Nat → Int64} {lc : Nat → Int64} {P : Nat} {D : Nat} {h : Int} {q9 : Int} {k9 : Int} (hhr : -2147483648 ≤ h ∧ h < 2147483648) (hqr : -2147483648 ≤ q9 ∧ q9 < 2147483648) (hkr : -2147483648 ≤ k9 ∧ k9 < 2147483648) (hP1 : okP P) (hD1 : 1 ≤ D ∧ D ≤ 12) (hH : okH D hv hd) : CTi l yX0_unit wsX0_unit ({ frames := 2, cells := 0, slots := 0, locals := 44 } : Room) dd (tysA cI cL cQ) (rX tR) [.ref (ad 0), .int (zI (h)), .int (zI (q9)), .int (zI (k9))] (wC ad cI cL cQ (ix) (pw) (sg) (tm) (hd) (wk) (rc) (lc) (P) ((rootN P)) (D) ((phN D))) (fun (r : Int32) (u : (Nat → Int64) × (Nat → Nat → Int32)) => (¬ (0 ≤ h ∧ h < 6) ∧ r = zI (-2) ∧ u.2 = hd) ∨ ((0 ≤ h ∧ h < 6) ∧ ¬ (-1000 ≤ q9 ∧ q9 ≤ 1000) ∧ r = zI (-3) ∧ u.2 = hd) ∨ ((0 ≤ h ∧ h < 6) ∧ (-1000 ≤ q9 ∧ q9 ≤ 1000) ∧ ((inR D (unV D q9 k9) ∧ r = nI 1 ∧ okH D (stR hv h.toNat (unV D q9 k9)) u.2) ∨ (¬ inR D (unV D q9 k9) ∧ r = zI (-5) ∧ u.2 = hd)))) (fun (u : (Nat → Int64) × (Nat → Nat → Int32)) => (wC ad cI cL cQ (ix) (pw) (sg) (tm) (u.2) (u.1) (rc) (lc) (P) ((rootN P)) (D) ((phN D)))) := by
  refine CTi_of (cc := cX0_unit) (maxL := 4) (by decide +kernel) rfl (Nat.le_of_ble_eq_true rfl) ?_
  intro p e s m args below meth c A Q ls H locs hx hb hts hown hml hP hK hD hS hA hX hl hret
  have hin : ∀ w ∈ wsX00, w ∈ wsX0_unit := by decide +kernel
  have hl : lv_has ls 4 [(0, .ref (ad 0)), (1, .int (zI (h))), (2, .int (zI (q9))), (3, .int (zI (k9)))] := hl
  obtain ⟨o1, o2, o3, o4, o5, o6⟩ := id hP1
  have hph := ph_rng D (by omega) hD1.1
  have hm := fmN_lt k9 (show 0 < D by omega)
  refine lv_iload_n (pc := 0) hx hb dX0_unit_0 rfl (lv_at hl 1 rfl) ?_
  refine CTi_S0 (pc := 1) am_no_ok (As := [.int (zI (h))]) (rest := []) ⟨hx, hb, hml, hown, hts⟩ (c_X0_isHold l dd (by omega)) (va_cwS 1 hts gX0_unit_X0_isHold rfl rfl rfl (by decide +kernel) ⟨Nat.le_of_ble_eq_true rfl, Nat.le_of_ble_eq_true rfl⟩) hK hP hD hS hA trivial rfl hl.1 rfl (Nat.le_of_ble_eq_true rfl) ⟨Nat.zero_le _, Nat.zero_le _⟩ dX0_unit_1 (fun r u H locs hw hP hD hS => ?_)
  try dsimp only at hw
  subst hw
  refine bv_if_ne (pc := 4) (tgt := 10) hx hb dX0_unit_4 (by decide) (fun h4 => ?_) (fun h4 => ?_)
  · skip
    refine lv_iload_n (pc := 10) hx hb dX0_unit_10 rfl (lv_at hl 2 rfl) ?_
    refine lv_sipush (pc := 11) (v := zI (-1000)) hx hb dX0_unit_11 (by decide) ?_
    refine zv_icmp_lt (pc := 14) (tgt := 24) hx hb (by omega) (by omega) dX0_unit_14 (by decide) (fun h14 => ?_) (fun h14 => ?_)
    · skip
      refine lv_bipush (pc := 24) (v := zI (-3)) hx hb dX0_unit_24 (by decide) ?_
      exact hret _ _ _ _ _ (wk, hd) (Or.inr (Or.inl ⟨h4, by omega, rfl, rfl⟩)) hP hD hS dX0_unit_26
    · skip
      refine lv_iload_n (pc := 17) hx hb dX0_unit_17 rfl (lv_at hl 2 rfl) ?_
      refine nv_sipush (pc := 18) (k := 1000) hx hb dX0_unit_18 rfl (by decide) ?_
      refine zv_2 (pc := 21) (a := ((1000 : Nat) : Int)) (b := q9) ((nI_zI _)) (rfl) ?_
      refine zv_icmp_le (pc := 21) (tgt := 27) hx hb (by omega) (by omega) dX0_unit_21 (by decide) (fun h21 => ?_) (fun h21 => ?_)
      · skip
        refine lv_aload_n (pc := 27) hx hb dX0_unit_27 rfl (lv_at hl 0 rfl) ?_
        refine va_get (pc := 28) (D := dd) (ci := 0) (v := .ref (ad 6)) (C := RX0) (T := TX0) (N := 12) hx hb hts hin hown hK hP 0 rfl rfl 5 (by decide) (hts (.fieldLink RX0 27 "TurningSums" "work" "[J") (by decide +kernel)) (fun _ h9 => h9) rfl dX0_unit_28 ?_
        refine lv_lconst (pc := 31) (v := zL 0) hx hb dX0_unit_31 (by decide) ?_
        refine CTv_Sp (pc := 32) am_no_ok (As := [.ref (ad 6), .long (zL 0)]) (rest := []) ⟨hx, hb, hml, hown, hts⟩ (c_J7_fill_d0a16 l dd (by decide)) (va_cwS 2 hts gX0_unit_J7_fill_d0a16 rfl rfl rfl (by decide +kernel) ⟨Nat.le_of_ble_eq_true rfl, Nat.le_of_ble_eq_true rfl⟩) hK hP hD hS hA trivial [6] [0, 1, 2, 3, 4, 5, 7, 8, 9, 10, 11, 12, 13, 14] rfl rfl rfl rfl (by decide) rfl hl.1 rfl (Nat.le_of_ble_eq_true rfl) ⟨Nat.zero_le _, Nat.zero_le _⟩ dX0_unit_32 (fun u H locs hw hP hD hS => ?_)
        try dsimp only at hw
        subst hw
        have hP : va_P dd vwCl (wC ad cI cL cQ (ix) (pw) (sg) (tm) (hd) ((fun k => if k < 12 then zL 0 else (wk) k)) (rc) (lc) (P) ((rootN P)) (D) ((phN D))) H := hP.sub [0, 1, 2, 3, 4, 5, 14, 6, 7, 8, 9, 10, 11, 12, 13] rfl
        have hD : va_D A (wC ad cI cL cQ (ix) (pw) (sg) (tm) (hd) ((fun k => if k < 12 then zL 0 else (wk) k)) (rc) (lc) (P) ((rootN P)) (D) ((phN D))) := hD.sub [0, 1, 2, 3, 4, 5, 14, 6, 7, 8, 9, 10, 11, 12, 13] (by decide) rfl
        refine lv_aload_n (pc := 35) hx hb dX0_unit_35 rfl (lv_at hl 0 rfl) ?_
        refine va_get (pc := 36) (D := dd) (ci := 0) (v := .ref (ad 6)) (C := RX0) (T := TX0) (N := 12) hx hb hts hin hown hK hP 0 rfl rfl 5 (by decide) (hts (.fieldLink RX0 27 "TurningSums" "work" "[J") (by decide +kernel)) (fun _ h9 => h9) rfl dX0_unit_36 ?_
        refine lv_iload_n (pc := 39) hx hb dX0_unit_39 rfl (lv_at hl 3 rfl) ?_
        refine lv_aload_n (pc := 40) hx hb dX0_unit_40 rfl (lv_at hl 0 rfl) ?_
        refine va_get (pc := 41) (D := dd) (ci := 0) (v := .int (nI (D))) (C := RX0) (T := TX0) (N := 12) hx hb hts hin hown hK hP 0 rfl rfl 10 (by decide) (hts (.fieldLink RX0 74 "TurningSums" "d" "I") (by decide +kernel)) (fun _ h9 => h9) rfl dX0_unit_41 ?_
        refine CTi_S0 (pc := 44) am_no_ok (As := [.int (zI (k9)), .int (nI (D))]) (rest := [.ref (ad 6)]) ⟨hx, hb, hml, hown, hts⟩ (c_J9_floorMod_7cf53 l dd (by omega) (by omega) (by omega)) (va_cwS 2 hts gX0_unit_J9_floorMod_7cf53 rfl rfl rfl (by decide +kernel) ⟨Nat.le_of_ble_eq_true rfl, Nat.le_of_ble_eq_true rfl⟩) hK hP hD hS hA trivial rfl hl.1 rfl (Nat.le_of_ble_eq_true rfl) ⟨Nat.zero_le _, Nat.zero_le _⟩ dX0_unit_44 (fun r u H locs hw hP hD hS => ?_)
        try dsimp only at hw
        subst hw
        refine lv_iload_n (pc := 47) hx hb dX0_unit_47 rfl (lv_at hl 2 rfl) ?_
        refine lv_i2l (pc := 48) (v := zL (q9)) hx hb dX0_unit_48 (zL_zI (by omega) (by omega)) ?_
        refine nv_last (pc := 49) hx hb hK hP hD hS 6 1 rfl rfl (by omega) (by decide) (ws' := (wC ad cI cL cQ (ix) (pw) (sg) (tm) (hd) ((vp_updL ((fun k => if k < 12 then zL 0 else (wk) k)) ((fmN (k9) (D))) (zL (q9)))) (rc) (lc) (P) ((rootN P)) (D) ((phN D)))) rfl dX0_unit_49 (fun H locs hP hD hS => ?_)
        refine lv_aload_n (pc := 50) hx hb dX0_unit_50 rfl (lv_at hl 0 rfl) ?_
        refine lv_iload_n (pc := 51) hx hb dX0_unit_51 rfl (lv_at hl 1 rfl) ?_
        refine tq_i (pc := 52) (y := nI ((h).toNat)) (zI_toNat (by omega)) ?_
        refine CTi_Vw (pc := 52) (rX_ok tR) (As := [.int (nI ((h).toNat))]) (rest := []) ⟨hx, hb, hml, hown, hts⟩ (c_X0_store l dd (unV D q9 k9) hD1 (by omega) (fun j z => Lf_set (fun m a => if_pos (by omega)) hm) hH) (cwV 1 hts gX0_unit_X0_store rfl rfl rfl (by decide +kernel) ⟨Nat.le_of_ble_eq_true rfl, Nat.le_of_ble_eq_true rfl⟩) hK hP hD hS hA hX hK 0 0 rfl rfl rfl rfl hl.1 rfl (Nat.le_of_ble_eq_true rfl) ⟨Nat.zero_le _, Nat.zero_le _⟩ dX0_unit_52 (fun r u H locs hw hP hD hS => ?_)
        try dsimp only at hw
        obtain ⟨wk52, hd52, e9⟩ : ∃ z z2, (z, z2) = u := ⟨_, _, rfl⟩
        rw [← e9] at hw hP hD
        have hw52 := hw
        have hP : va_P dd vwCl (wC ad cI cL cQ (ix) (pw) (sg) (tm) (hd52) (wk52) (rc) (lc) (P) ((rootN P)) (D) ((phN D))) H := hP
        have hD : va_D A (wC ad cI cL cQ (ix) (pw) (sg) (tm) (hd52) (wk52) (rc) (lc) (P) ((rootN P)) (D) ((phN D))) := hD
        exact hret _ _ _ _ _ (wk52, hd52) (Or.inr (Or.inr ⟨h4, by omega, hw52⟩)) hP hD hS dX0_unit_55
      · skip
        refine lv_bipush (pc := 24) (v := zI (-3)) hx hb dX0_unit_24 (by decide) ?_
        exact hret _ _ _ _ _ (wk, hd) (Or.inr (Or.inl ⟨h4, by omega, rfl, rfl⟩)) hP hD hS dX0_unit_26
  · skip
    refine lv_bipush (pc := 7) (v := zI (-2)) hx hb dX0_unit_7 (by decide) ?_
    exact hret _ _ _ _ _ (wk, hd) (Or.inl ⟨h4, rfl, rfl⟩) hP hD hS dX0_unit_9
set_option maxHeartbeats 4000000 in
set_option maxRecDepth 100000 in
theorem c_X0_join (l : Launch) (dd : va_G) {ad : Nat → Nat} {cI cL cQ : ClassId} {tR : Nat} {hv : Nat → Nat → Int32} {ix : Nat → Int32} {pw : Nat → Int32} {sg : Nat → Int32} {tm : Nat → Int32} {hd : Nat → Nat → Int32} {wk : Nat → Int64} {rc : Nat → Int64} {lc : Nat → Int64} {P : Nat} {D : Nat} {h : Int} {way : Int} {o1 : Int} {o2 : Int} (hhr : -2147483648 ≤ h ∧ h < 2147483648) (hwr : -2147483648 ≤ way ∧ way < 2147483648) (h1r : -2147483648 ≤ o1 ∧ o1 < 2147483648) (h2r : -2147483648 ≤ o2 ∧ o2 < 2147483648) (hP1 : okP P) (hD1 : 1 ≤ D ∧ D ≤ 12) (hH : okH D hv hd) : CTi l yX0_join wsX0_join ({ frames := 2, cells := 0, slots := 0, locals := 49 } : Room) dd (tysA cI cL cQ) (rX tR) [.ref (ad 0), .int (zI (h)), .int (zI (way)), .int (zI (o1)), .int (zI (o2))] (wC ad cI cL cQ (ix) (pw) (sg) (tm) (hd) (wk) (rc) (lc) (P) ((rootN P)) (D) ((phN D))) (fun (r : Int32) (u : (Nat → Int64) × (Nat → Nat → Int32)) => (¬ ((0 ≤ h ∧ h < 6) ∧ (0 ≤ o1 ∧ o1 < 6) ∧ (0 ≤ o2 ∧ o2 < 6)) ∧ r = zI (-2) ∧ u.2 = hd) ∨ (((0 ≤ h ∧ h < 6) ∧ (0 ≤ o1 ∧ o1 < 6) ∧ (0 ≤ o2 ∧ o2 < 6)) ∧ ¬ (0 ≤ way ∧ way ≤ 2) ∧ r = zI (-3) ∧ u.2 = hd) ∨ (((0 ≤ h ∧ h < 6) ∧ (0 ≤ o1 ∧ o1 < 6) ∧ (0 ≤ o2 ∧ o2 < 6)) ∧ (0 ≤ way ∧ way ≤ 2) ∧ ((inR D ((fun j => if way = 2 then mlV D (hlV hv o1.toNat) (hlV hv o2.toNat) 1 (phN D) j else adV way (hlV hv o1.toNat) (hlV hv o2.toNat) j)) ∧ r = nI 1 ∧ okH D (stR hv h.toNat ((fun j => if way = 2 then mlV D (hlV hv o1.toNat) (hlV hv o2.toNat) 1 (phN D) j else adV way (hlV hv o1.toNat) (hlV hv o2.toNat) j))) u.2) ∨ (¬ inR D ((fun j => if way = 2 then mlV D (hlV hv o1.toNat) (hlV hv o2.toNat) 1 (phN D) j else adV way (hlV hv o1.toNat) (hlV hv o2.toNat) j)) ∧ r = zI (-5) ∧ u.2 = hd)))) (fun (u : (Nat → Int64) × (Nat → Nat → Int32)) => (wC ad cI cL cQ (ix) (pw) (sg) (tm) (u.2) (u.1) (rc) (lc) (P) ((rootN P)) (D) ((phN D)))) := by
  refine CTi_of (cc := cX0_join) (maxL := 5) (by decide +kernel) rfl (Nat.le_of_ble_eq_true rfl) ?_
  intro p e s m args below meth c A Q ls H locs hx hb hts hown hml hP hK hD hS hA hX hl hret
  have hin : ∀ w ∈ wsX00, w ∈ wsX0_join := by decide +kernel
  have hl : lv_has ls 5 [(0, .ref (ad 0)), (1, .int (zI (h))), (2, .int (zI (way))), (3, .int (zI (o1))), (4, .int (zI (o2)))] := hl
  obtain ⟨p1, p2, p3, p4, p5, p6⟩ := id hP1
  have hph := ph_rng D (by omega) hD1.1
  refine lv_iload_n (pc := 0) hx hb dX0_join_0 rfl (lv_at hl 1 rfl) ?_
  refine CTi_S0 (pc := 1) am_no_ok (As := [.int (zI (h))]) (rest := []) ⟨hx, hb, hml, hown, hts⟩ (c_X0_isHold l dd (by omega)) (va_cwS 1 hts gX0_join_X0_isHold rfl rfl rfl (by decide +kernel) ⟨Nat.le_of_ble_eq_true rfl, Nat.le_of_ble_eq_true rfl⟩) hK hP hD hS hA trivial rfl hl.1 rfl (Nat.le_of_ble_eq_true rfl) ⟨Nat.zero_le _, Nat.zero_le _⟩ dX0_join_1 (fun r u H locs hw hP hD hS => ?_)
  try dsimp only at hw
  subst hw
  refine bv_if_eq (pc := 4) (tgt := 22) hx hb dX0_join_4 (by decide) (fun h4 => ?_) (fun h4 => ?_)
  · skip
    refine lv_bipush (pc := 22) (v := zI (-2)) hx hb dX0_join_22 (by decide) ?_
    exact hret _ _ _ _ _ (wk, hd) (Or.inl ⟨by omega, rfl, rfl⟩) hP hD hS dX0_join_24
  · skip
    refine lv_iload_n (pc := 7) hx hb dX0_join_7 rfl (lv_at hl 3 rfl) ?_
    refine CTi_S0 (pc := 8) am_no_ok (As := [.int (zI (o1))]) (rest := []) ⟨hx, hb, hml, hown, hts⟩ (c_X0_isHold l dd (by omega)) (va_cwS 1 hts gX0_join_X0_isHold rfl rfl rfl (by decide +kernel) ⟨Nat.le_of_ble_eq_true rfl, Nat.le_of_ble_eq_true rfl⟩) hK hP hD hS hA trivial rfl hl.1 rfl (Nat.le_of_ble_eq_true rfl) ⟨Nat.zero_le _, Nat.zero_le _⟩ dX0_join_8 (fun r u H locs hw hP hD hS => ?_)
    try dsimp only at hw
    subst hw
    refine bv_if_eq (pc := 11) (tgt := 22) hx hb dX0_join_11 (by decide) (fun h11 => ?_) (fun h11 => ?_)
    · skip
      refine lv_bipush (pc := 22) (v := zI (-2)) hx hb dX0_join_22 (by decide) ?_
      exact hret _ _ _ _ _ (wk, hd) (Or.inl ⟨by omega, rfl, rfl⟩) hP hD hS dX0_join_24
    · skip
      refine lv_iload (pc := 14) hx hb dX0_join_14 (lv_at hl 4 rfl) ?_
      refine CTi_S0 (pc := 16) am_no_ok (As := [.int (zI (o2))]) (rest := []) ⟨hx, hb, hml, hown, hts⟩ (c_X0_isHold l dd (by omega)) (va_cwS 1 hts gX0_join_X0_isHold rfl rfl rfl (by decide +kernel) ⟨Nat.le_of_ble_eq_true rfl, Nat.le_of_ble_eq_true rfl⟩) hK hP hD hS hA trivial rfl hl.1 rfl (Nat.le_of_ble_eq_true rfl) ⟨Nat.zero_le _, Nat.zero_le _⟩ dX0_join_16 (fun r u H locs hw hP hD hS => ?_)
      try dsimp only at hw
      subst hw
      refine bv_if_ne (pc := 19) (tgt := 25) hx hb dX0_join_19 (by decide) (fun h19 => ?_) (fun h19 => ?_)
      · skip
        refine lv_iload_n (pc := 25) hx hb dX0_join_25 rfl (lv_at hl 2 rfl) ?_
        refine zv_if_lt (pc := 26) (tgt := 34) hx hb (by omega) dX0_join_26 (by decide) (fun h26 => ?_) (fun h26 => ?_)
        · skip
          refine lv_bipush (pc := 34) (v := zI (-3)) hx hb dX0_join_34 (by decide) ?_
          exact hret _ _ _ _ _ (wk, hd) (Or.inr (Or.inl ⟨by omega, by omega, rfl, rfl⟩)) hP hD hS dX0_join_36
        · skip
          refine lv_iload_n (pc := 29) hx hb dX0_join_29 rfl (lv_at hl 2 rfl) ?_
          refine nv_iconst (pc := 30) (k := 2) hx hb dX0_join_30 rfl ?_
          refine zv_2 (pc := 31) (a := ((2 : Nat) : Int)) (b := way) ((nI_zI _)) (rfl) ?_
          refine zv_icmp_le (pc := 31) (tgt := 37) hx hb (by omega) (by omega) dX0_join_31 (by decide) (fun h31 => ?_) (fun h31 => ?_)
          · skip
            refine lv_iload_n (pc := 37) hx hb dX0_join_37 rfl (lv_at hl 2 rfl) ?_
            refine nv_iconst (pc := 38) (k := 2) hx hb dX0_join_38 rfl ?_
            refine zv_2 (pc := 39) (a := ((2 : Nat) : Int)) (b := way) ((nI_zI _)) (rfl) ?_
            refine zv_icmp_ne (pc := 39) (tgt := 63) hx hb (by omega) (by omega) dX0_join_39 (by decide) (fun h39 => ?_) (fun h39 => ?_)
            · skip
              refine lv_aload_n (pc := 63) hx hb dX0_join_63 rfl (lv_at hl 0 rfl) ?_
              refine lv_aload_n (pc := 64) hx hb dX0_join_64 rfl (lv_at hl 0 rfl) ?_
              refine va_get (pc := 65) (D := dd) (ci := 0) (v := .ref (ad 5)) (C := RX0) (T := TX0) (N := 12) hx hb hts hin hown hK hP 0 rfl rfl 4 (by decide) (hts (.fieldLink RX0 24 "TurningSums" "holds" "[[I") (by decide +kernel)) (fun _ h9 => h9) rfl dX0_join_65 ?_
              refine lv_iload_n (pc := 68) hx hb dX0_join_68 rfl (lv_at hl 3 rfl) ?_
              refine tq_i (y := nI ((o1).toNat)) (zI_toNat (by omega)) ?_
              refine nv_aald (pc := 69) hx hb hK hP 5 2 rfl rfl (i := (o1).toNat) (by omega) (by decide) (if_pos (by omega)) dX0_join_69 ?_
              refine lv_aload_n (pc := 70) hx hb dX0_join_70 rfl (lv_at hl 0 rfl) ?_
              refine va_get (pc := 71) (D := dd) (ci := 0) (v := .ref (ad 5)) (C := RX0) (T := TX0) (N := 12) hx hb hts hin hown hK hP 0 rfl rfl 4 (by decide) (hts (.fieldLink RX0 24 "TurningSums" "holds" "[[I") (by decide +kernel)) (fun _ h9 => h9) rfl dX0_join_71 ?_
              refine lv_iload (pc := 74) hx hb dX0_join_74 (lv_at hl 4 rfl) ?_
              refine tq_i (y := nI ((o2).toNat)) (zI_toNat (by omega)) ?_
              refine nv_aald (pc := 76) hx hb hK hP 5 2 rfl rfl (i := (o2).toNat) (by omega) (by decide) (if_pos (by omega)) dX0_join_76 ?_
              refine lv_iload_n (pc := 77) hx hb dX0_join_77 rfl (lv_at hl 2 rfl) ?_
              refine zv_if_ne (pc := 78) (tgt := 85) hx hb (by omega) dX0_join_78 (by decide) (fun h78 => ?_) (fun h78 => ?_)
              · skip
                refine lv_iconst (pc := 85) (v := zI (-1)) hx hb dX0_join_85 rfl ?_
                refine CTv_Vw (pc := 86) (rX_ok tR) (As := [.ref (ad (9 + ((o1).toNat))), .ref (ad (9 + ((o2).toNat))), .int (zI ((-1)))]) (rest := []) ⟨hx, hb, hml, hown, hts⟩ (c_X0_add l dd hD1 (by omega) (by omega) (Or.inr ⟨by omega, rfl⟩) hH) (cwV 3 hts gX0_join_X0_add rfl rfl rfl (by decide +kernel) ⟨Nat.le_of_ble_eq_true rfl, Nat.le_of_ble_eq_true rfl⟩) hK hP hD hS hA hX hK 0 0 rfl rfl rfl rfl hl.1 rfl (Nat.le_of_ble_eq_true rfl) ⟨Nat.zero_le _, Nat.zero_le _⟩ dX0_join_86 (fun u H locs hw hP hD hS => ?_)
                try dsimp only at hw
                obtain ⟨wk86, e9⟩ : ∃ z, z = u := ⟨_, rfl⟩
                rw [← e9] at hw hP hD
                have hw86 := hw
                have hP : va_P dd vwCl (wC ad cI cL cQ (ix) (pw) (sg) (tm) (hd) (wk86) (rc) (lc) (P) ((rootN P)) (D) ((phN D))) H := hP
                have hD : va_D A (wC ad cI cL cQ (ix) (pw) (sg) (tm) (hd) (wk86) (rc) (lc) (P) ((rootN P)) (D) ((phN D))) := hD
                refine lv_aload_n (pc := 89) hx hb dX0_join_89 rfl (lv_at hl 0 rfl) ?_
                refine lv_iload_n (pc := 90) hx hb dX0_join_90 rfl (lv_at hl 1 rfl) ?_
                refine tq_i (pc := 91) (y := nI ((h).toNat)) (zI_toNat (by omega)) ?_
                refine CTi_Vw (pc := 91) (rX_ok tR) (As := [.int (nI ((h).toNat))]) (rest := []) ⟨hx, hb, hml, hown, hts⟩ (c_X0_store l dd (fun j => if way = 2 then mlV D (hlV hv o1.toNat) (hlV hv o2.toNat) 1 (phN D) j else adV way (hlV hv o1.toNat) (hlV hv o2.toNat) j) hD1 (by omega) (fun j z => (hw86 j z).trans (if_neg (by omega)).symm) hH) (cwV 1 hts gX0_join_X0_store rfl rfl rfl (by decide +kernel) ⟨Nat.le_of_ble_eq_true rfl, Nat.le_of_ble_eq_true rfl⟩) hK hP hD hS hA hX hK 0 0 rfl rfl rfl rfl hl.1 rfl (Nat.le_of_ble_eq_true rfl) ⟨Nat.zero_le _, Nat.zero_le _⟩ dX0_join_91 (fun r u H locs hw hP hD hS => ?_)
                try dsimp only at hw
                obtain ⟨wk91, hd91, e9⟩ : ∃ z z2, (z, z2) = u := ⟨_, _, rfl⟩
                rw [← e9] at hw hP hD
                have hw91 := hw
                have hP : va_P dd vwCl (wC ad cI cL cQ (ix) (pw) (sg) (tm) (hd91) (wk91) (rc) (lc) (P) ((rootN P)) (D) ((phN D))) H := hP
                have hD : va_D A (wC ad cI cL cQ (ix) (pw) (sg) (tm) (hd91) (wk91) (rc) (lc) (P) ((rootN P)) (D) ((phN D))) := hD
                exact hret _ _ _ _ _ (wk91, hd91) (Or.inr (Or.inr ⟨by omega, by omega, hw91⟩)) hP hD hS dX0_join_94
              · skip
                refine nv_iconst (pc := 81) (k := 1) hx hb dX0_join_81 rfl ?_
                refine lv_goto (pc := 82) (tgt := 86) hx hb dX0_join_82 (by decide) ?_
                refine tq_i (pc := 86) (y := zI (((1 : Nat) : Int))) ((nI_zI _)) ?_
                refine CTv_Vw (pc := 86) (rX_ok tR) (As := [.ref (ad (9 + ((o1).toNat))), .ref (ad (9 + ((o2).toNat))), .int (zI (((1 : Nat) : Int)))]) (rest := []) ⟨hx, hb, hml, hown, hts⟩ (c_X0_add l dd hD1 (by omega) (by omega) (Or.inl ⟨by omega, rfl⟩) hH) (cwV 3 hts gX0_join_X0_add rfl rfl rfl (by decide +kernel) ⟨Nat.le_of_ble_eq_true rfl, Nat.le_of_ble_eq_true rfl⟩) hK hP hD hS hA hX hK 0 0 rfl rfl rfl rfl hl.1 rfl (Nat.le_of_ble_eq_true rfl) ⟨Nat.zero_le _, Nat.zero_le _⟩ dX0_join_86 (fun u H locs hw hP hD hS => ?_)
                try dsimp only at hw
                obtain ⟨wk86, e9⟩ : ∃ z, z = u := ⟨_, rfl⟩
                rw [← e9] at hw hP hD
                have hw86 := hw
                have hP : va_P dd vwCl (wC ad cI cL cQ (ix) (pw) (sg) (tm) (hd) (wk86) (rc) (lc) (P) ((rootN P)) (D) ((phN D))) H := hP
                have hD : va_D A (wC ad cI cL cQ (ix) (pw) (sg) (tm) (hd) (wk86) (rc) (lc) (P) ((rootN P)) (D) ((phN D))) := hD
                refine lv_aload_n (pc := 89) hx hb dX0_join_89 rfl (lv_at hl 0 rfl) ?_
                refine lv_iload_n (pc := 90) hx hb dX0_join_90 rfl (lv_at hl 1 rfl) ?_
                refine tq_i (pc := 91) (y := nI ((h).toNat)) (zI_toNat (by omega)) ?_
                refine CTi_Vw (pc := 91) (rX_ok tR) (As := [.int (nI ((h).toNat))]) (rest := []) ⟨hx, hb, hml, hown, hts⟩ (c_X0_store l dd (fun j => if way = 2 then mlV D (hlV hv o1.toNat) (hlV hv o2.toNat) 1 (phN D) j else adV way (hlV hv o1.toNat) (hlV hv o2.toNat) j) hD1 (by omega) (fun j z => (hw86 j z).trans (if_neg (by omega)).symm) hH) (cwV 1 hts gX0_join_X0_store rfl rfl rfl (by decide +kernel) ⟨Nat.le_of_ble_eq_true rfl, Nat.le_of_ble_eq_true rfl⟩) hK hP hD hS hA hX hK 0 0 rfl rfl rfl rfl hl.1 rfl (Nat.le_of_ble_eq_true rfl) ⟨Nat.zero_le _, Nat.zero_le _⟩ dX0_join_91 (fun r u H locs hw hP hD hS => ?_)
                try dsimp only at hw
                obtain ⟨wk91, hd91, e9⟩ : ∃ z z2, (z, z2) = u := ⟨_, _, rfl⟩
                rw [← e9] at hw hP hD
                have hw91 := hw
                have hP : va_P dd vwCl (wC ad cI cL cQ (ix) (pw) (sg) (tm) (hd91) (wk91) (rc) (lc) (P) ((rootN P)) (D) ((phN D))) H := hP
                have hD : va_D A (wC ad cI cL cQ (ix) (pw) (sg) (tm) (hd91) (wk91) (rc) (lc) (P) ((rootN P)) (D) ((phN D))) := hD
                exact hret _ _ _ _ _ (wk91, hd91) (Or.inr (Or.inr ⟨by omega, by omega, hw91⟩)) hP hD hS dX0_join_94
            · skip
              refine lv_aload_n (pc := 42) hx hb dX0_join_42 rfl (lv_at hl 0 rfl) ?_
              refine lv_aload_n (pc := 43) hx hb dX0_join_43 rfl (lv_at hl 0 rfl) ?_
              refine va_get (pc := 44) (D := dd) (ci := 0) (v := .ref (ad 5)) (C := RX0) (T := TX0) (N := 12) hx hb hts hin hown hK hP 0 rfl rfl 4 (by decide) (hts (.fieldLink RX0 24 "TurningSums" "holds" "[[I") (by decide +kernel)) (fun _ h9 => h9) rfl dX0_join_44 ?_
              refine lv_iload_n (pc := 47) hx hb dX0_join_47 rfl (lv_at hl 3 rfl) ?_
              refine tq_i (y := nI ((o1).toNat)) (zI_toNat (by omega)) ?_
              refine nv_aald (pc := 48) hx hb hK hP 5 2 rfl rfl (i := (o1).toNat) (by omega) (by decide) (if_pos (by omega)) dX0_join_48 ?_
              refine lv_aload_n (pc := 49) hx hb dX0_join_49 rfl (lv_at hl 0 rfl) ?_
              refine va_get (pc := 50) (D := dd) (ci := 0) (v := .ref (ad 5)) (C := RX0) (T := TX0) (N := 12) hx hb hts hin hown hK hP 0 rfl rfl 4 (by decide) (hts (.fieldLink RX0 24 "TurningSums" "holds" "[[I") (by decide +kernel)) (fun _ h9 => h9) rfl dX0_join_50 ?_
              refine lv_iload (pc := 53) hx hb dX0_join_53 (lv_at hl 4 rfl) ?_
              refine tq_i (y := nI ((o2).toNat)) (zI_toNat (by omega)) ?_
              refine nv_aald (pc := 55) hx hb hK hP 5 2 rfl rfl (i := (o2).toNat) (by omega) (by decide) (if_pos (by omega)) dX0_join_55 ?_
              refine nv_iconst (pc := 56) (k := 1) hx hb dX0_join_56 rfl ?_
              refine CTv_Vw (pc := 57) (rX_ok tR) (As := [.ref (ad (9 + ((o1).toNat))), .ref (ad (9 + ((o2).toNat))), .int (nI (1))]) (rest := []) ⟨hx, hb, hml, hown, hts⟩ (c_X0_multiply l dd hD1 (by omega) (by omega) (by omega) hH) (cwV 3 hts gX0_join_X0_multiply rfl rfl rfl (by decide +kernel) ⟨Nat.le_of_ble_eq_true rfl, Nat.le_of_ble_eq_true rfl⟩) hK hP hD hS hA hX hK 0 0 rfl rfl rfl rfl hl.1 rfl (Nat.le_of_ble_eq_true rfl) ⟨Nat.zero_le _, Nat.zero_le _⟩ dX0_join_57 (fun u H locs hw hP hD hS => ?_)
              try dsimp only at hw
              obtain ⟨wk57, e9⟩ : ∃ z, z = u := ⟨_, rfl⟩
              rw [← e9] at hw hP hD
              have hw57 := hw
              have hP : va_P dd vwCl (wC ad cI cL cQ (ix) (pw) (sg) (tm) (hd) (wk57) (rc) (lc) (P) ((rootN P)) (D) ((phN D))) H := hP
              have hD : va_D A (wC ad cI cL cQ (ix) (pw) (sg) (tm) (hd) (wk57) (rc) (lc) (P) ((rootN P)) (D) ((phN D))) := hD
              refine lv_goto (pc := 60) (tgt := 89) hx hb dX0_join_60 (by decide) ?_
              refine lv_aload_n (pc := 89) hx hb dX0_join_89 rfl (lv_at hl 0 rfl) ?_
              refine lv_iload_n (pc := 90) hx hb dX0_join_90 rfl (lv_at hl 1 rfl) ?_
              refine tq_i (pc := 91) (y := nI ((h).toNat)) (zI_toNat (by omega)) ?_
              refine CTi_Vw (pc := 91) (rX_ok tR) (As := [.int (nI ((h).toNat))]) (rest := []) ⟨hx, hb, hml, hown, hts⟩ (c_X0_store l dd (fun j => if way = 2 then mlV D (hlV hv o1.toNat) (hlV hv o2.toNat) 1 (phN D) j else adV way (hlV hv o1.toNat) (hlV hv o2.toNat) j) hD1 (by omega) (fun j z => (hw57 j z).trans (if_pos (by omega)).symm) hH) (cwV 1 hts gX0_join_X0_store rfl rfl rfl (by decide +kernel) ⟨Nat.le_of_ble_eq_true rfl, Nat.le_of_ble_eq_true rfl⟩) hK hP hD hS hA hX hK 0 0 rfl rfl rfl rfl hl.1 rfl (Nat.le_of_ble_eq_true rfl) ⟨Nat.zero_le _, Nat.zero_le _⟩ dX0_join_91 (fun r u H locs hw hP hD hS => ?_)
              try dsimp only at hw
              obtain ⟨wk91, hd91, e9⟩ : ∃ z z2, (z, z2) = u := ⟨_, _, rfl⟩
              rw [← e9] at hw hP hD
              have hw91 := hw
              have hP : va_P dd vwCl (wC ad cI cL cQ (ix) (pw) (sg) (tm) (hd91) (wk91) (rc) (lc) (P) ((rootN P)) (D) ((phN D))) H := hP
              have hD : va_D A (wC ad cI cL cQ (ix) (pw) (sg) (tm) (hd91) (wk91) (rc) (lc) (P) ((rootN P)) (D) ((phN D))) := hD
              exact hret _ _ _ _ _ (wk91, hd91) (Or.inr (Or.inr ⟨by omega, by omega, hw91⟩)) hP hD hS dX0_join_94
          · skip
            refine lv_bipush (pc := 34) (v := zI (-3)) hx hb dX0_join_34 (by decide) ?_
            exact hret _ _ _ _ _ (wk, hd) (Or.inr (Or.inl ⟨by omega, by omega, rfl, rfl⟩)) hP hD hS dX0_join_36
      · skip
        refine lv_bipush (pc := 22) (v := zI (-2)) hx hb dX0_join_22 (by decide) ?_
        exact hret _ _ _ _ _ (wk, hd) (Or.inl ⟨by omega, rfl, rfl⟩) hP hD hS dX0_join_24
set_option maxHeartbeats 4000000 in
set_option maxRecDepth 100000 in
theorem c_X0_turn (l : Launch) (dd : va_G) {ad : Nat → Nat} {cI cL cQ : ClassId} {tR : Nat} {hv : Nat → Nat → Int32} {ix : Nat → Int32} {pw : Nat → Int32} {sg : Nat → Int32} {tm : Nat → Int32} {hd : Nat → Nat → Int32} {wk : Nat → Int64} {rc : Nat → Int64} {lc : Nat → Int64} {P : Nat} {D : Nat} {h : Int} {o : Int} {t : Int} (hhr : -2147483648 ≤ h ∧ h < 2147483648) (hor : -2147483648 ≤ o ∧ o < 2147483648) (htr : -2147483648 ≤ t ∧ t < 2147483648) (hP1 : okP P) (hD1 : 1 ≤ D ∧ D ≤ 12) (hH : okH D hv hd) : CTi l yX0_turn wsX0_turn ({ frames := 2, cells := 0, slots := 0, locals := 44 } : Room) dd (tysA cI cL cQ) (rX tR) [.ref (ad 0), .int (zI (h)), .int (zI (o)), .int (zI (t))] (wC ad cI cL cQ (ix) (pw) (sg) (tm) (hd) (wk) (rc) (lc) (P) ((rootN P)) (D) ((phN D))) (fun (r : Int32) (u : (Nat → Int64) × (Nat → Nat → Int32)) => (¬ ((0 ≤ h ∧ h < 6) ∧ (0 ≤ o ∧ o < 6)) ∧ r = zI (-2) ∧ u.2 = hd) ∨ (((0 ≤ h ∧ h < 6) ∧ (0 ≤ o ∧ o < 6)) ∧ coN D t = false ∧ r = zI (-3) ∧ u.2 = hd) ∨ (((0 ≤ h ∧ h < 6) ∧ (0 ≤ o ∧ o < 6)) ∧ coN D t = true ∧ ((inR D (fun j => tnV D (hlV hv o.toNat) t (phN D) j) ∧ r = nI 1 ∧ okH D (stR hv h.toNat (fun j => tnV D (hlV hv o.toNat) t (phN D) j)) u.2) ∨ (¬ inR D (fun j => tnV D (hlV hv o.toNat) t (phN D) j) ∧ r = zI (-5) ∧ u.2 = hd)))) (fun (u : (Nat → Int64) × (Nat → Nat → Int32)) => (wC ad cI cL cQ (ix) (pw) (sg) (tm) (u.2) (u.1) (rc) (lc) (P) ((rootN P)) (D) ((phN D)))) := by
  refine CTi_of (cc := cX0_turn) (maxL := 6) (by decide +kernel) rfl (Nat.le_of_ble_eq_true rfl) ?_
  intro p e s m args below meth c A Q ls H locs hx hb hts hown hml hP hK hD hS hA hX hl hret
  have hin : ∀ w ∈ wsX00, w ∈ wsX0_turn := by decide +kernel
  have hl : lv_has ls 6 [(0, .ref (ad 0)), (1, .int (zI (h))), (2, .int (zI (o))), (3, .int (zI (t)))] := hl
  obtain ⟨o1, o2, o3, o4, o5, o6⟩ := id hP1
  have hph := ph_rng D (by omega) hD1.1
  have hf := fmN_lt t (show 0 < D by omega)
  refine lv_iload_n (pc := 0) hx hb dX0_turn_0 rfl (lv_at hl 1 rfl) ?_
  refine CTi_S0 (pc := 1) am_no_ok (As := [.int (zI (h))]) (rest := []) ⟨hx, hb, hml, hown, hts⟩ (c_X0_isHold l dd (by omega)) (va_cwS 1 hts gX0_turn_X0_isHold rfl rfl rfl (by decide +kernel) ⟨Nat.le_of_ble_eq_true rfl, Nat.le_of_ble_eq_true rfl⟩) hK hP hD hS hA trivial rfl hl.1 rfl (Nat.le_of_ble_eq_true rfl) ⟨Nat.zero_le _, Nat.zero_le _⟩ dX0_turn_1 (fun r u H locs hw hP hD hS => ?_)
  try dsimp only at hw
  subst hw
  refine bv_if_eq (pc := 4) (tgt := 14) hx hb dX0_turn_4 (by decide) (fun h4 => ?_) (fun h4 => ?_)
  · skip
    refine lv_bipush (pc := 14) (v := zI (-2)) hx hb dX0_turn_14 (by decide) ?_
    exact hret _ _ _ _ _ (wk, hd) (Or.inl ⟨by omega, rfl, rfl⟩) hP hD hS dX0_turn_16
  · skip
    refine lv_iload_n (pc := 7) hx hb dX0_turn_7 rfl (lv_at hl 2 rfl) ?_
    refine CTi_S0 (pc := 8) am_no_ok (As := [.int (zI (o))]) (rest := []) ⟨hx, hb, hml, hown, hts⟩ (c_X0_isHold l dd (by omega)) (va_cwS 1 hts gX0_turn_X0_isHold rfl rfl rfl (by decide +kernel) ⟨Nat.le_of_ble_eq_true rfl, Nat.le_of_ble_eq_true rfl⟩) hK hP hD hS hA trivial rfl hl.1 rfl (Nat.le_of_ble_eq_true rfl) ⟨Nat.zero_le _, Nat.zero_le _⟩ dX0_turn_8 (fun r u H locs hw hP hD hS => ?_)
    try dsimp only at hw
    subst hw
    refine bv_if_ne (pc := 11) (tgt := 17) hx hb dX0_turn_11 (by decide) (fun h11 => ?_) (fun h11 => ?_)
    · skip
      refine lv_aload_n (pc := 17) hx hb dX0_turn_17 rfl (lv_at hl 0 rfl) ?_
      refine lv_iload_n (pc := 18) hx hb dX0_turn_18 rfl (lv_at hl 3 rfl) ?_
      refine CTi_Vw (pc := 19) (rX_ok tR) (As := [.int (zI (t))]) (rest := []) ⟨hx, hb, hml, hown, hts⟩ (c_X0_sharesDivisor l dd (by omega) (by omega) (by omega)) (cwV 1 hts gX0_turn_X0_sharesDivisor rfl rfl rfl (by decide +kernel) ⟨Nat.le_of_ble_eq_true rfl, Nat.le_of_ble_eq_true rfl⟩) hK hP hD hS hA hX hK 0 0 rfl rfl rfl rfl hl.1 rfl (Nat.le_of_ble_eq_true rfl) ⟨Nat.zero_le _, Nat.zero_le _⟩ dX0_turn_19 (fun r u H locs hw hP hD hS => ?_)
      try dsimp only at hw
      subst hw
      refine bv_if_eq (pc := 22) (tgt := 28) hx hb dX0_turn_22 (by decide) (fun h22 => ?_) (fun h22 => ?_)
      · skip
        refine lv_iload_n (pc := 28) hx hb dX0_turn_28 rfl (lv_at hl 3 rfl) ?_
        refine lv_aload_n (pc := 29) hx hb dX0_turn_29 rfl (lv_at hl 0 rfl) ?_
        refine va_get (pc := 30) (D := dd) (ci := 0) (v := .int (nI (D))) (C := RX0) (T := TX0) (N := 12) hx hb hts hin hown hK hP 0 rfl rfl 10 (by decide) (hts (.fieldLink RX0 74 "TurningSums" "d" "I") (by decide +kernel)) (fun _ h9 => h9) rfl dX0_turn_30 ?_
        refine CTi_S0 (pc := 33) am_no_ok (As := [.int (zI (t)), .int (nI (D))]) (rest := []) ⟨hx, hb, hml, hown, hts⟩ (c_J9_floorMod_7cf53 l dd (by omega) (by omega) (by omega)) (va_cwS 2 hts gX0_turn_J9_floorMod_7cf53 rfl rfl rfl (by decide +kernel) ⟨Nat.le_of_ble_eq_true rfl, Nat.le_of_ble_eq_true rfl⟩) hK hP hD hS hA trivial rfl hl.1 rfl (Nat.le_of_ble_eq_true rfl) ⟨Nat.zero_le _, Nat.zero_le _⟩ dX0_turn_33 (fun r u H locs hw hP hD hS => ?_)
        try dsimp only at hw
        subst hw
        refine lv_istore (pc := 36) (lv' := [(4, .int (nI ((fmN (t) (D))))), (0, .ref (ad 0)), (1, .int (zI (h))), (2, .int (zI (o))), (3, .int (zI (t)))]) hx hb dX0_turn_36 hl (by decide) rfl (fun ls hl => ?_)
        refine lv_aload_n (pc := 38) hx hb dX0_turn_38 rfl (lv_at hl 1 rfl) ?_
        refine va_get (pc := 39) (D := dd) (ci := 0) (v := .ref (ad 6)) (C := RX0) (T := TX0) (N := 12) hx hb hts hin hown hK hP 0 rfl rfl 5 (by decide) (hts (.fieldLink RX0 27 "TurningSums" "work" "[J") (by decide +kernel)) (fun _ h9 => h9) rfl dX0_turn_39 ?_
        refine lv_lconst (pc := 42) (v := zL 0) hx hb dX0_turn_42 (by decide) ?_
        refine CTv_Sp (pc := 43) am_no_ok (As := [.ref (ad 6), .long (zL 0)]) (rest := []) ⟨hx, hb, hml, hown, hts⟩ (c_J7_fill_d0a16 l dd (by decide)) (va_cwS 2 hts gX0_turn_J7_fill_d0a16 rfl rfl rfl (by decide +kernel) ⟨Nat.le_of_ble_eq_true rfl, Nat.le_of_ble_eq_true rfl⟩) hK hP hD hS hA trivial [6] [0, 1, 2, 3, 4, 5, 7, 8, 9, 10, 11, 12, 13, 14] rfl rfl rfl rfl (by decide) rfl hl.1 rfl (Nat.le_of_ble_eq_true rfl) ⟨Nat.zero_le _, Nat.zero_le _⟩ dX0_turn_43 (fun u H locs hw hP hD hS => ?_)
        try dsimp only at hw
        subst hw
        have hP : va_P dd vwCl (wC ad cI cL cQ (ix) (pw) (sg) (tm) (hd) ((fun k => if k < 12 then zL 0 else (wk) k)) (rc) (lc) (P) ((rootN P)) (D) ((phN D))) H := hP.sub [0, 1, 2, 3, 4, 5, 14, 6, 7, 8, 9, 10, 11, 12, 13] rfl
        have hD : va_D A (wC ad cI cL cQ (ix) (pw) (sg) (tm) (hd) ((fun k => if k < 12 then zL 0 else (wk) k)) (rc) (lc) (P) ((rootN P)) (D) ((phN D))) := hD.sub [0, 1, 2, 3, 4, 5, 14, 6, 7, 8, 9, 10, 11, 12, 13] (by decide) rfl
        refine nv_iconst (pc := 46) (k := 0) hx hb dX0_turn_46 rfl ?_
        refine lv_istore (pc := 47) (lv' := [(5, .int (nI (0))), (4, .int (nI ((fmN (t) (D))))), (0, .ref (ad 0)), (1, .int (zI (h))), (2, .int (zI (o))), (3, .int (zI (t)))]) hx hb dX0_turn_47 hl (by decide) rfl (fun ls hl => ?_)
        have L49 : ∀ (n9_49 : Nat), ∀ (i : Nat) (w2 : Nat → Int64), phN D + 1 - i < n9_49 → (i ≤ phN D) → (∀ j, j < phN D → Lf D j w2 D = tnV D (hlV hv o.toNat) t i j) → ∀ (H : Heap) (locs : List Loc) (ls : Array Slot), va_P dd vwCl (wC ad cI cL cQ (ix) (pw) (sg) (tm) (hd) (w2) (rc) (lc) (P) ((rootN P)) (D) ((phN D))) H → va_D A (wC ad cI cL cQ (ix) (pw) (sg) (tm) (hd) (w2) (rc) (lc) (P) ((rootN P)) (D) ((phN D))) → va_S A s.heap H locs → lv_has ls 6 [(0, .ref (ad 0)), (1, .int (zI (h))), (2, .int (zI (o))), (3, .int (zI (t))), (4, .int (nI ((fmN (t) (D))))), (5, .int (nI (i)))] → W p l e ({ frames := 2, cells := 0, slots := 0, locals := 44 } : Room) s m args below meth c H locs 0 0 Q (F0 m 49 ls []) := by
          intro n9_49
          induction n9_49 with
          | zero => intro i w2 hm; exact absurd hm (Nat.not_lt_zero _)
          | succ n9_49 ih_49 =>
            intro i w2 hm_49 hi hL2 H locs ls hP hD hS hl
            have hkm := Nat.mul_le_mul (show i ≤ 12 by omega) (show fmN t D ≤ 12 by omega)
            have hm := Nat.mod_lt (i * fmN t D) (show 0 < D by omega)
            refine lv_iload (pc := 49) hx hb dX0_turn_49 (lv_at hl 5 rfl) ?_
            refine lv_aload_n (pc := 51) hx hb dX0_turn_51 rfl (lv_at hl 0 rfl) ?_
            refine va_get (pc := 52) (D := dd) (ci := 0) (v := .int (nI ((phN D)))) (C := RX0) (T := TX0) (N := 12) hx hb hts hin hown hK hP 0 rfl rfl 11 (by decide) (hts (.fieldLink RX0 55 "TurningSums" "phi" "I") (by decide +kernel)) (fun _ h9 => h9) rfl dX0_turn_52 ?_
            refine nv_icmp_ge (pc := 55) (tgt := 92) hx hb (a := i) (b := (phN D)) (by omega) (by omega) dX0_turn_55 (by decide) (fun h55 => ?_) (fun h55 => ?_)
            · skip
              refine lv_aload_n (pc := 92) hx hb dX0_turn_92 rfl (lv_at hl 0 rfl) ?_
              refine lv_iload_n (pc := 93) hx hb dX0_turn_93 rfl (lv_at hl 1 rfl) ?_
              refine tq_i (pc := 94) (y := nI ((h).toNat)) (zI_toNat (by omega)) ?_
              refine CTi_Vw (pc := 94) (rX_ok tR) (As := [.int (nI ((h).toNat))]) (rest := []) ⟨hx, hb, hml, hown, hts⟩ (c_X0_store l dd (fun j => tnV D (hlV hv o.toNat) t (phN D) j) hD1 (by omega) (fun j z => (hL2 j z).trans (by rw [show i = phN D by omega])) hH) (cwV 1 hts gX0_turn_X0_store rfl rfl rfl (by decide +kernel) ⟨Nat.le_of_ble_eq_true rfl, Nat.le_of_ble_eq_true rfl⟩) hK hP hD hS hA hX hK 0 0 rfl rfl rfl rfl hl.1 rfl (Nat.le_of_ble_eq_true rfl) ⟨Nat.zero_le _, Nat.zero_le _⟩ dX0_turn_94 (fun r u H locs hw hP hD hS => ?_)
              try dsimp only at hw
              obtain ⟨wk94, hd94, e9⟩ : ∃ z z2, (z, z2) = u := ⟨_, _, rfl⟩
              rw [← e9] at hw hP hD
              have hw94 := hw
              have hP : va_P dd vwCl (wC ad cI cL cQ (ix) (pw) (sg) (tm) (hd94) (wk94) (rc) (lc) (P) ((rootN P)) (D) ((phN D))) H := hP
              have hD : va_D A (wC ad cI cL cQ (ix) (pw) (sg) (tm) (hd94) (wk94) (rc) (lc) (P) ((rootN P)) (D) ((phN D))) := hD
              exact hret _ _ _ _ _ (wk94, hd94) (Or.inr (Or.inr ⟨by omega, by simpa using h22, hw94⟩)) hP hD hS dX0_turn_97
            · skip
              refine lv_aload_n (pc := 58) hx hb dX0_turn_58 rfl (lv_at hl 0 rfl) ?_
              refine va_get (pc := 59) (D := dd) (ci := 0) (v := .ref (ad 6)) (C := RX0) (T := TX0) (N := 12) hx hb hts hin hown hK hP 0 rfl rfl 5 (by decide) (hts (.fieldLink RX0 27 "TurningSums" "work" "[J") (by decide +kernel)) (fun _ h9 => h9) rfl dX0_turn_59 ?_
              refine lv_iload (pc := 62) hx hb dX0_turn_62 (lv_at hl 5 rfl) ?_
              refine lv_iload (pc := 64) hx hb dX0_turn_64 (lv_at hl 4 rfl) ?_
              refine nv_imul (pc := 66) hx hb dX0_turn_66 ?_
              refine lv_aload_n (pc := 67) hx hb dX0_turn_67 rfl (lv_at hl 0 rfl) ?_
              refine va_get (pc := 68) (D := dd) (ci := 0) (v := .int (nI (D))) (C := RX0) (T := TX0) (N := 12) hx hb hts hin hown hK hP 0 rfl rfl 10 (by decide) (hts (.fieldLink RX0 74 "TurningSums" "d" "I") (by decide +kernel)) (fun _ h9 => h9) rfl dX0_turn_68 ?_
              refine nv_irem (pc := 71) hx hb (by omega) (by omega) (by omega) dX0_turn_71 ?_
              refine lv_dup2_11 (pc := 72) hx hb dX0_turn_72 rfl rfl ?_
              refine nv_lald (pc := 73) hx hb hK hP 6 1 rfl rfl (i := ((i * (fmN (t) (D))) % D)) (by omega) (by decide) (v := (w2) (((i * (fmN (t) (D))) % D))) (rfl) dX0_turn_73 ?_
              refine lv_aload_n (pc := 74) hx hb dX0_turn_74 rfl (lv_at hl 0 rfl) ?_
              refine va_get (pc := 75) (D := dd) (ci := 0) (v := .ref (ad 5)) (C := RX0) (T := TX0) (N := 12) hx hb hts hin hown hK hP 0 rfl rfl 4 (by decide) (hts (.fieldLink RX0 24 "TurningSums" "holds" "[[I") (by decide +kernel)) (fun _ h9 => h9) rfl dX0_turn_75 ?_
              refine lv_iload_n (pc := 78) hx hb dX0_turn_78 rfl (lv_at hl 2 rfl) ?_
              refine tq_i (y := nI ((o).toNat)) (zI_toNat (by omega)) ?_
              refine nv_aald (pc := 79) hx hb hK hP 5 2 rfl rfl (i := (o).toNat) (by omega) (by decide) (if_pos (by omega)) dX0_turn_79 ?_
              refine lv_iload (pc := 80) hx hb dX0_turn_80 (lv_at hl 5 rfl) ?_
              refine nv_iald (pc := 82) hx hb hK hP (9 + ((o).toNat)) 0 (hd_get (by omega)) rfl (i := i) (by omega) (by decide) (v := ((hv o.toNat i))) (hH _ (by omega) _ (by omega)) dX0_turn_82 ?_
              refine lv_i2l (pc := 83) (v := (((hv o.toNat i))).toInt64) hx hb dX0_turn_83 (rfl) ?_
              refine lv_ladd (pc := 84) hx hb dX0_turn_84 ?_
              refine nv_last (pc := 85) hx hb hK hP hD hS 6 1 rfl rfl (by omega) (by decide) (ws' := (wC ad cI cL cQ (ix) (pw) (sg) (tm) (hd) ((vp_updL (w2) (((i * (fmN (t) (D))) % D)) (((w2) (((i * (fmN (t) (D))) % D)) + (((hv o.toNat i))).toInt64)))) (rc) (lc) (P) ((rootN P)) (D) ((phN D)))) rfl dX0_turn_85 (fun H locs hP hD hS => ?_)
              refine lv_iinc (pc := 86) (v := nI ((i + 1))) (lv' := [(5, .int (nI ((i + 1)))), (0, .ref (ad 0)), (1, .int (zI (h))), (2, .int (zI (o))), (3, .int (zI (t))), (4, .int (nI ((fmN (t) (D)))))]) hx hb dX0_turn_86 hl (k := 5) rfl (nI_inc _) (by decide) rfl (fun ls hl => ?_)
              refine lv_goto (pc := 89) (tgt := 49) hx hb dX0_turn_89 (by decide) ?_
              exact ih_49 ((i + 1)) ((vp_updL (w2) (((i * (fmN (t) (D))) % D)) (((w2) (((i * (fmN (t) (D))) % D)) + (((hv o.toNat i))).toInt64)))) (by omega) (by omega) (fun j z => by rw [Lf_add (by omega), hL2 j z, fm_one (by omega)]; rfl) _ _ _ hP hD hS (lv_sub hl [1, 2, 3, 4, 5, 0] rfl)
        exact L49 _ (0) ((fun k => if k < 12 then zL 0 else (wk) k)) (Nat.lt_succ_self _) (by omega) (fun j z => Lf_zero (fun m a => if_pos (by omega))) _ _ _ hP hD hS (lv_sub hl [2, 3, 4, 5, 1, 0] rfl)
      · skip
        refine lv_bipush (pc := 25) (v := zI (-3)) hx hb dX0_turn_25 (by decide) ?_
        exact hret _ _ _ _ _ (wk, hd) (Or.inr (Or.inl ⟨by omega, h22, rfl, rfl⟩)) hP hD hS dX0_turn_27
    · skip
      refine lv_bipush (pc := 14) (v := zI (-2)) hx hb dX0_turn_14 (by decide) ?_
      exact hret _ _ _ _ _ (wk, hd) (Or.inl ⟨by omega, rfl, rfl⟩) hP hD hS dX0_turn_16
set_option maxHeartbeats 4000000 in
set_option maxRecDepth 100000 in
theorem c_X0_size (l : Launch) (dd : va_G) {ad : Nat → Nat} {cI cL cQ : ClassId} {tR : Nat} {hv : Nat → Nat → Int32} {ix : Nat → Int32} {pw : Nat → Int32} {sg : Nat → Int32} {tm : Nat → Int32} {hd : Nat → Nat → Int32} {wk : Nat → Int64} {rc : Nat → Int64} {lc : Nat → Int64} {P : Nat} {D : Nat} {h : Int} (hhr : -2147483648 ≤ h ∧ h < 2147483648) (hP1 : okP P) (hD1 : 1 ≤ D ∧ D ≤ 12) (hH : okH D hv hd) : CTl l yX0_size wsX0_size ({ frames := 2, cells := 0, slots := 0, locals := 49 } : Room) dd (tysA cI cL cQ) (rX tR) [.ref (ad 0), .int (zI (h))] (wC ad cI cL cQ (ix) (pw) (sg) (tm) (hd) (wk) (rc) (lc) (P) ((rootN P)) (D) ((phN D))) (fun (r : Int64) (u : Nat → Int64) => (¬ (0 ≤ h ∧ h < 6) ∧ r = zL (-9223372036854775808)) ∨ ((0 ≤ h ∧ h < 6) ∧ (∃ j, 1 ≤ j ∧ j < phN D ∧ (fun j => mlV D (hlV hv h.toNat) (hlV hv h.toNat) (D - 1) (phN D) j) j ≠ 0) ∧ r = zL (-9223372036854775808)) ∨ ((0 ≤ h ∧ h < 6) ∧ (∀ j, 1 ≤ j → j < phN D → (fun j => mlV D (hlV hv h.toNat) (hlV hv h.toNat) (D - 1) (phN D) j) j = 0) ∧ r = (fun j => mlV D (hlV hv h.toNat) (hlV hv h.toNat) (D - 1) (phN D) j) 0)) (fun (u : Nat → Int64) => (wC ad cI cL cQ (ix) (pw) (sg) (tm) (hd) (u) (rc) (lc) (P) ((rootN P)) (D) ((phN D)))) := by
  refine CTl_of (cc := cX0_size) (maxL := 3) (by decide +kernel) rfl (Nat.le_of_ble_eq_true rfl) ?_
  intro p e s m args below meth c A Q ls H locs hx hb hts hown hml hP hK hD hS hA hX hl hret
  have hin : ∀ w ∈ wsX00, w ∈ wsX0_size := by decide +kernel
  have hl : lv_has ls 3 [(0, .ref (ad 0)), (1, .int (zI (h)))] := hl
  obtain ⟨o1, o2, o3, o4, o5, o6⟩ := id hP1
  have hph := ph_rng D (by omega) hD1.1
  refine lv_iload_n (pc := 0) hx hb dX0_size_0 rfl (lv_at hl 1 rfl) ?_
  refine CTi_S0 (pc := 1) am_no_ok (As := [.int (zI (h))]) (rest := []) ⟨hx, hb, hml, hown, hts⟩ (c_X0_isHold l dd (by omega)) (va_cwS 1 hts gX0_size_X0_isHold rfl rfl rfl (by decide +kernel) ⟨Nat.le_of_ble_eq_true rfl, Nat.le_of_ble_eq_true rfl⟩) hK hP hD hS hA trivial rfl hl.1 rfl (Nat.le_of_ble_eq_true rfl) ⟨Nat.zero_le _, Nat.zero_le _⟩ dX0_size_1 (fun r u H locs hw hP hD hS => ?_)
  try dsimp only at hw
  subst hw
  refine bv_if_ne (pc := 4) (tgt := 11) hx hb dX0_size_4 (by decide) (fun h4 => ?_) (fun h4 => ?_)
  · skip
    refine lv_aload_n (pc := 11) hx hb dX0_size_11 rfl (lv_at hl 0 rfl) ?_
    refine lv_aload_n (pc := 12) hx hb dX0_size_12 rfl (lv_at hl 0 rfl) ?_
    refine va_get (pc := 13) (D := dd) (ci := 0) (v := .ref (ad 5)) (C := RX0) (T := TX0) (N := 12) hx hb hts hin hown hK hP 0 rfl rfl 4 (by decide) (hts (.fieldLink RX0 24 "TurningSums" "holds" "[[I") (by decide +kernel)) (fun _ h9 => h9) rfl dX0_size_13 ?_
    refine lv_iload_n (pc := 16) hx hb dX0_size_16 rfl (lv_at hl 1 rfl) ?_
    refine tq_i (y := nI ((h).toNat)) (zI_toNat (by omega)) ?_
    refine nv_aald (pc := 17) hx hb hK hP 5 2 rfl rfl (i := (h).toNat) (by omega) (by decide) (if_pos (by omega)) dX0_size_17 ?_
    refine lv_aload_n (pc := 18) hx hb dX0_size_18 rfl (lv_at hl 0 rfl) ?_
    refine va_get (pc := 19) (D := dd) (ci := 0) (v := .ref (ad 5)) (C := RX0) (T := TX0) (N := 12) hx hb hts hin hown hK hP 0 rfl rfl 4 (by decide) (hts (.fieldLink RX0 24 "TurningSums" "holds" "[[I") (by decide +kernel)) (fun _ h9 => h9) rfl dX0_size_19 ?_
    refine lv_iload_n (pc := 22) hx hb dX0_size_22 rfl (lv_at hl 1 rfl) ?_
    refine tq_i (y := nI ((h).toNat)) (zI_toNat (by omega)) ?_
    refine nv_aald (pc := 23) hx hb hK hP 5 2 rfl rfl (i := (h).toNat) (by omega) (by decide) (if_pos (by omega)) dX0_size_23 ?_
    refine lv_aload_n (pc := 24) hx hb dX0_size_24 rfl (lv_at hl 0 rfl) ?_
    refine va_get (pc := 25) (D := dd) (ci := 0) (v := .int (nI (D))) (C := RX0) (T := TX0) (N := 12) hx hb hts hin hown hK hP 0 rfl rfl 10 (by decide) (hts (.fieldLink RX0 74 "TurningSums" "d" "I") (by decide +kernel)) (fun _ h9 => h9) rfl dX0_size_25 ?_
    refine nv_iconst (pc := 28) (k := 1) hx hb dX0_size_28 rfl ?_
    refine nv_isub (pc := 29) hx hb (by omega) dX0_size_29 ?_
    refine CTv_Vw (pc := 30) (rX_ok tR) (As := [.ref (ad (9 + ((h).toNat))), .ref (ad (9 + ((h).toNat))), .int (nI ((D - 1)))]) (rest := []) ⟨hx, hb, hml, hown, hts⟩ (c_X0_multiply l dd hD1 (by omega) (by omega) (by omega) hH) (cwV 3 hts gX0_size_X0_multiply rfl rfl rfl (by decide +kernel) ⟨Nat.le_of_ble_eq_true rfl, Nat.le_of_ble_eq_true rfl⟩) hK hP hD hS hA hX hK 0 0 rfl rfl rfl rfl hl.1 rfl (Nat.le_of_ble_eq_true rfl) ⟨Nat.zero_le _, Nat.zero_le _⟩ dX0_size_30 (fun u H locs hw hP hD hS => ?_)
    try dsimp only at hw
    obtain ⟨wk30, e9⟩ : ∃ z, z = u := ⟨_, rfl⟩
    rw [← e9] at hw hP hD
    have hw30 := hw
    have hP : va_P dd vwCl (wC ad cI cL cQ (ix) (pw) (sg) (tm) (hd) (wk30) (rc) (lc) (P) ((rootN P)) (D) ((phN D))) H := hP
    have hD : va_D A (wC ad cI cL cQ (ix) (pw) (sg) (tm) (hd) (wk30) (rc) (lc) (P) ((rootN P)) (D) ((phN D))) := hD
    refine lv_aload_n (pc := 33) hx hb dX0_size_33 rfl (lv_at hl 0 rfl) ?_
    refine CTv_Vw (pc := 34) (rX_ok tR) (As := []) (rest := []) ⟨hx, hb, hml, hown, hts⟩ (c_X0_reduce l dd hD1) (cwV 0 hts gX0_size_X0_reduce rfl rfl rfl (by decide +kernel) ⟨Nat.le_of_ble_eq_true rfl, Nat.le_of_ble_eq_true rfl⟩) hK hP hD hS hA hX hK 0 0 rfl rfl rfl rfl hl.1 rfl (Nat.le_of_ble_eq_true rfl) ⟨Nat.zero_le _, Nat.zero_le _⟩ dX0_size_34 (fun u H locs hw hP hD hS => ?_)
    try dsimp only at hw
    obtain ⟨wk34, e9⟩ : ∃ z, z = u := ⟨_, rfl⟩
    rw [← e9] at hw hP hD
    have hw34 := hw
    have hP : va_P dd vwCl (wC ad cI cL cQ (ix) (pw) (sg) (tm) (hd) (wk34) (rc) (lc) (P) ((rootN P)) (D) ((phN D))) H := hP
    have hD : va_D A (wC ad cI cL cQ (ix) (pw) (sg) (tm) (hd) (wk34) (rc) (lc) (P) ((rootN P)) (D) ((phN D))) := hD
    refine nv_iconst (pc := 37) (k := 1) hx hb dX0_size_37 rfl ?_
    refine lv_istore_n (pc := 38) (lv' := [(2, .int (nI (1))), (0, .ref (ad 0)), (1, .int (zI (h)))]) hx hb dX0_size_38 rfl hl (by decide) rfl (fun ls hl => ?_)
    have hvw : ∀ j, j < phN D → wk34 j = (fun j => mlV D (hlV hv h.toNat) (hlV hv h.toNat) (D - 1) (phN D) j) j := fun j z => (hw34 j z).trans (hw30 j z)
    have L39 : ∀ (n9_39 : Nat), ∀ (i : Nat), phN D + 1 - i < n9_39 → (1 ≤ i ∧ (i ≤ phN D ∨ i = 1)) → (∀ q, 1 ≤ q → q < i → (fun j => mlV D (hlV hv h.toNat) (hlV hv h.toNat) (D - 1) (phN D) j) q = 0) → ∀ (H : Heap) (locs : List Loc) (ls : Array Slot), va_P dd vwCl (wC ad cI cL cQ (ix) (pw) (sg) (tm) (hd) (wk34) (rc) (lc) (P) ((rootN P)) (D) ((phN D))) H → va_D A (wC ad cI cL cQ (ix) (pw) (sg) (tm) (hd) (wk34) (rc) (lc) (P) ((rootN P)) (D) ((phN D))) → va_S A s.heap H locs → lv_has ls 3 [(0, .ref (ad 0)), (1, .int (zI (h))), (2, .int (nI (i)))] → W p l e ({ frames := 2, cells := 0, slots := 0, locals := 49 } : Room) s m args below meth c H locs 0 0 Q (F0 m 39 ls []) := by
      intro n9_39
      induction n9_39 with
      | zero => intro i hm; exact absurd hm (Nat.not_lt_zero _)
      | succ n9_39 ih_39 =>
        intro i hm_39 hi hz9 H locs ls hP hD hS hl
        refine lv_iload_n (pc := 39) hx hb dX0_size_39 rfl (lv_at hl 2 rfl) ?_
        refine lv_aload_n (pc := 40) hx hb dX0_size_40 rfl (lv_at hl 0 rfl) ?_
        refine va_get (pc := 41) (D := dd) (ci := 0) (v := .int (nI ((phN D)))) (C := RX0) (T := TX0) (N := 12) hx hb hts hin hown hK hP 0 rfl rfl 11 (by decide) (hts (.fieldLink RX0 55 "TurningSums" "phi" "I") (by decide +kernel)) (fun _ h9 => h9) rfl dX0_size_41 ?_
        refine nv_icmp_ge (pc := 44) (tgt := 68) hx hb (a := i) (b := (phN D)) (by omega) (by omega) dX0_size_44 (by decide) (fun h44 => ?_) (fun h44 => ?_)
        · skip
          refine lv_aload_n (pc := 68) hx hb dX0_size_68 rfl (lv_at hl 0 rfl) ?_
          refine va_get (pc := 69) (D := dd) (ci := 0) (v := .ref (ad 6)) (C := RX0) (T := TX0) (N := 12) hx hb hts hin hown hK hP 0 rfl rfl 5 (by decide) (hts (.fieldLink RX0 27 "TurningSums" "work" "[J") (by decide +kernel)) (fun _ h9 => h9) rfl dX0_size_69 ?_
          refine nv_iconst (pc := 72) (k := 0) hx hb dX0_size_72 rfl ?_
          refine nv_lald (pc := 73) hx hb hK hP 6 1 rfl rfl (i := 0) (by omega) (by decide) (v := ((fun j => mlV D (hlV hv h.toNat) (hlV hv h.toNat) (D - 1) (phN D) j) 0)) (hvw _ (by omega)) dX0_size_73 ?_
          exact hret _ _ _ _ _ (wk34) (Or.inr (Or.inr ⟨h4, fun j z w => hz9 j z (by omega), rfl⟩)) hP hD hS dX0_size_74
        · skip
          refine lv_aload_n (pc := 47) hx hb dX0_size_47 rfl (lv_at hl 0 rfl) ?_
          refine va_get (pc := 48) (D := dd) (ci := 0) (v := .ref (ad 6)) (C := RX0) (T := TX0) (N := 12) hx hb hts hin hown hK hP 0 rfl rfl 5 (by decide) (hts (.fieldLink RX0 27 "TurningSums" "work" "[J") (by decide +kernel)) (fun _ h9 => h9) rfl dX0_size_48 ?_
          refine lv_iload_n (pc := 51) hx hb dX0_size_51 rfl (lv_at hl 2 rfl) ?_
          refine nv_lald (pc := 52) hx hb hK hP 6 1 rfl rfl (i := i) (by omega) (by decide) (v := ((fun j => mlV D (hlV hv h.toNat) (hlV hv h.toNat) (D - 1) (phN D) j) i)) (hvw _ (by omega)) dX0_size_52 ?_
          refine lv_lconst (pc := 53) (v := zL 0) hx hb dX0_size_53 (by decide) ?_
          refine W.lcmp (pc := 54) hx hb dX0_size_54 ?_
          refine cv_if_eq (pc := 55) (tgt := 62) hx hb dX0_size_55 (by decide) (fun h55 => ?_) (fun h55 => ?_)
          · skip
            refine lv_iinc (pc := 62) (v := nI ((i + 1))) (lv' := [(2, .int (nI ((i + 1)))), (0, .ref (ad 0)), (1, .int (zI (h)))]) hx hb dX0_size_62 hl (k := 2) rfl (nI_inc _) (by decide) rfl (fun ls hl => ?_)
            refine lv_goto (pc := 65) (tgt := 39) hx hb dX0_size_65 (by decide) ?_
            exact ih_39 ((i + 1)) (by omega) (by omega) (fun q z w => (Nat.lt_or_ge q i).elim (fun y => hz9 q z y) (fun y => by have e : q = i := (by omega); subst e; exact h55)) _ _ _ hP hD hS (lv_sub hl [1, 2, 0] rfl)
          · skip
            refine tq_ldc2 (pc := 58) (k := (-9223372036854775808)) hx hb hown (hts (.constantLong RX0 97 (-9223372036854775808)) (by decide +kernel)) dX0_size_58 ?_
            exact hret _ _ _ _ _ (wk34) (Or.inr (Or.inl ⟨h4, ⟨i, hi.1, by omega, h55⟩, rfl⟩)) hP hD hS dX0_size_61
    exact L39 _ (1) (Nat.lt_succ_self _) (by omega) (fun q z w => by omega) _ _ _ hP hD hS (lv_sub hl [1, 2, 0] rfl)
  · skip
    refine tq_ldc2 (pc := 7) (k := (-9223372036854775808)) hx hb hown (hts (.constantLong RX0 97 (-9223372036854775808)) (by decide +kernel)) dX0_size_7 ?_
    exact hret _ _ _ _ _ (wk) (Or.inl ⟨h4, rfl⟩) hP hD hS dX0_size_10
