set_option maxHeartbeats 4000000 in
set_option maxRecDepth 100000 in
theorem c_X0_lengthened (l : Launch) (dd : va_G) {ad : Nat → Nat} {cI cL cQ : ClassId} {tR : Nat} {k9 : Nat} {ix : Nat → Int32} {pw : Nat → Int32} {sg : Nat → Int32} {tm : Nat → Int32} {hd : Nat → Nat → Int32} {wk : Nat → Int64} {rc : Nat → Int64} {lc : Nat → Int64} {P : Nat} {D : Nat} {tz : Int64} {sv : Nat} (hP1 : okP P) (hD1 : 1 ≤ D ∧ D ≤ 12) (hdv : (P - 1) % D = 0) (hI : okI P ix pw) (hs9 : sv < P) (htz : tz = wyS P D k9 0) (hrc : ∀ q, q < D → rc q = wyS P D k9 (rootN P ^ q % P)) : CTl l yX0_lengthened wsX0_lengthened ({ frames := 1, cells := 0, slots := 0, locals := 21 } : Room) dd (tysA cI cL cQ) (rX tR) [.ref (ad 0), .long (tz), .int (nI (sv))] (wC ad cI cL cQ (ix) (pw) (sg) (tm) (hd) (wk) (rc) (lc) (P) ((rootN P)) (D) ((phN D))) (fun (r : Int64) (u : Unit) => r = wyS P D (k9 + 1) sv) (fun (_ : Unit) => (wC ad cI cL cQ (ix) (pw) (sg) (tm) (hd) (wk) (rc) (lc) (P) ((rootN P)) (D) ((phN D)))) := by
  refine CTl_of (cc := cX0_lengthened) (maxL := 9) (by decide +kernel) rfl (Nat.le_of_ble_eq_true rfl) ?_
  intro p e s m args below meth c A Q ls H locs hx hb hts hown hml hP hK hD hS hA hX hl hret
  have hin : ∀ w ∈ wsX00, w ∈ wsX0_lengthened := by decide +kernel
  have hl : lv_has ls 9 [(0, .ref (ad 0)), (1, .long (tz)), (3, .int (nI (sv)))] := hl
  obtain ⟨o1, o2, o3, o4, o5, o6⟩ := id hP1
  have hph := ph_rng D (by omega) hD1.1
  obtain ⟨hix, hpw⟩ := id hI
  have hDP : D ≤ P - 1 := Nat.le_of_dvd (by omega) (Nat.dvd_of_mod_eq_zero hdv)
  have hdq : (P - 1) / D * D = P - 1 := Nat.div_mul_cancel (Nat.dvd_of_mod_eq_zero hdv)
  have hdl9 := Nat.div_le_self (P - 1) D
  refine lv_lconst (pc := 0) (v := zL 0) hx hb dX0_lengthened_0 (by decide) ?_
  refine lv_lstore (pc := 1) (lv' := [(4, .long (zL 0)), (0, .ref (ad 0)), (1, .long (tz)), (3, .int (nI (sv)))]) hx hb dX0_lengthened_1 hl (by decide) rfl (fun ls hl => ?_)
  refine lv_aload_n (pc := 3) hx hb dX0_lengthened_3 rfl (lv_at hl 1 rfl) ?_
  refine va_get (pc := 4) (D := dd) (ci := 0) (v := .int (nI (P))) (C := RX0) (T := TX0) (N := 12) hx hb hts hin hown hK hP 0 rfl rfl 8 (by decide) (hts (.fieldLink RX0 49 "TurningSums" "p" "I") (by decide +kernel)) (fun _ h9 => h9) rfl dX0_lengthened_4 ?_
  refine nv_iconst (pc := 7) (k := 1) hx hb dX0_lengthened_7 rfl ?_
  refine nv_isub (pc := 8) hx hb (by omega) dX0_lengthened_8 ?_
  refine lv_aload_n (pc := 9) hx hb dX0_lengthened_9 rfl (lv_at hl 1 rfl) ?_
  refine va_get (pc := 10) (D := dd) (ci := 0) (v := .int (nI (D))) (C := RX0) (T := TX0) (N := 12) hx hb hts hin hown hK hP 0 rfl rfl 10 (by decide) (hts (.fieldLink RX0 74 "TurningSums" "d" "I") (by decide +kernel)) (fun _ h9 => h9) rfl dX0_lengthened_10 ?_
  refine nv_idiv (pc := 13) hx hb (by omega) (by omega) (by omega) dX0_lengthened_13 ?_
  refine lv_istore (pc := 14) (lv' := [(6, .int (nI (((P - 1) / D)))), (4, .long (zL 0)), (0, .ref (ad 0)), (1, .long (tz)), (3, .int (nI (sv)))]) hx hb dX0_lengthened_14 hl (by decide) rfl (fun ls hl => ?_)
  refine nv_iconst (pc := 16) (k := 0) hx hb dX0_lengthened_16 rfl ?_
  refine lv_istore (pc := 17) (lv' := [(7, .int (nI (0))), (6, .int (nI (((P - 1) / D)))), (4, .long (zL 0)), (0, .ref (ad 0)), (1, .long (tz)), (3, .int (nI (sv)))]) hx hb dX0_lengthened_17 hl (by decide) rfl (fun ls hl => ?_)
  have L19 : ∀ (n9_19 : Nat), ∀ (i9 : Nat) (al : Int64), P - i9 < n9_19 → (i9 ≤ (P - 1) / D) → (al = stS (fun q => wyS P D k9 (sbN P sv (rootN P ^ q % P))) D (i9 * D)) → ∀ (H : Heap) (locs : List Loc) (ls : Array Slot), va_P dd vwCl (wC ad cI cL cQ (ix) (pw) (sg) (tm) (hd) (wk) (rc) (lc) (P) ((rootN P)) (D) ((phN D))) H → va_D A (wC ad cI cL cQ (ix) (pw) (sg) (tm) (hd) (wk) (rc) (lc) (P) ((rootN P)) (D) ((phN D))) → va_S A s.heap H locs → lv_has ls 9 [(0, .ref (ad 0)), (1, .long (tz)), (3, .int (nI (sv))), (4, .long (al)), (6, .int (nI (((P - 1) / D)))), (7, .int (nI (i9)))] → W p l e ({ frames := 1, cells := 0, slots := 0, locals := 21 } : Room) s m args below meth c H locs 0 0 Q (F0 m 19 ls []) := by
    intro n9_19
    induction n9_19 with
    | zero => intro i9 al hm; exact absurd hm (Nat.not_lt_zero _)
    | succ n9_19 ih_19 =>
      intro i9 al hm_19 hi9 hal H locs ls hP hD hS hl
      have hm := Nat.mod_lt (rootN P ^ (i9 * D)) (show 0 < P by omega)
      refine lv_iload (pc := 19) hx hb dX0_lengthened_19 (lv_at hl 5 rfl) ?_
      refine lv_iload (pc := 21) hx hb dX0_lengthened_21 (lv_at hl 4 rfl) ?_
      refine nv_icmp_ge (pc := 23) (tgt := 78) hx hb (a := i9) (b := ((P - 1) / D)) (by omega) (by omega) dX0_lengthened_23 (by decide) (fun h23 => ?_) (fun h23 => ?_)
      · skip
        refine lv_lload (pc := 78) hx hb dX0_lengthened_78 (lv_at hl 3 rfl) ?_
        exact hret _ _ _ _ _ (()) (by rw [hal, wy_st hP1 hdv, show i9 * D = P - 1 by rw [show i9 = (P - 1) / D by omega]; exact hdq]) hP hD hS dX0_lengthened_80
      · skip
        refine lv_iload_n (pc := 26) hx hb dX0_lengthened_26 rfl (lv_at hl 2 rfl) ?_
        refine lv_aload_n (pc := 27) hx hb dX0_lengthened_27 rfl (lv_at hl 0 rfl) ?_
        refine va_get (pc := 28) (D := dd) (ci := 0) (v := .ref (ad 2)) (C := RX0) (T := TX0) (N := 12) hx hb hts hin hown hK hP 0 rfl rfl 1 (by decide) (hts (.fieldLink RX0 13 "TurningSums" "powerOf" "[I") (by decide +kernel)) (fun _ h9 => h9) rfl dX0_lengthened_28 ?_
        refine lv_iload (pc := 31) hx hb dX0_lengthened_31 (lv_at hl 5 rfl) ?_
        refine lv_aload_n (pc := 33) hx hb dX0_lengthened_33 rfl (lv_at hl 0 rfl) ?_
        refine va_get (pc := 34) (D := dd) (ci := 0) (v := .int (nI (D))) (C := RX0) (T := TX0) (N := 12) hx hb hts hin hown hK hP 0 rfl rfl 10 (by decide) (hts (.fieldLink RX0 74 "TurningSums" "d" "I") (by decide +kernel)) (fun _ h9 => h9) rfl dX0_lengthened_34 ?_
        have hmi := Nat.mul_le_mul_right D (show i9 + 1 ≤ (P - 1) / D by omega)
        rw [Nat.add_one_mul] at hmi
        refine nv_imul (pc := 37) hx hb dX0_lengthened_37 ?_
        refine nv_iald (pc := 38) hx hb hK hP 2 0 rfl rfl (i := (i9 * D)) (by omega) (by decide) (v := nI ((rootN P ^ ((i9 * D)) % P))) (hpw _ (by omega)) dX0_lengthened_38 ?_
        refine zv_2 (pc := 39) (a := (((rootN P ^ ((i9 * D)) % P) : Nat) : Int)) (b := ((sv : Nat) : Int)) ((nI_zI _)) ((nI_zI _)) ?_
        refine zv_isub (pc := 39) hx hb dX0_lengthened_39 ?_
        refine lv_istore (pc := 40) (lv' := [(8, .int (zI ((((sv : Nat) : Int) - (((rootN P ^ ((i9 * D)) % P) : Nat) : Int))))), (0, .ref (ad 0)), (1, .long (tz)), (3, .int (nI (sv))), (4, .long (al)), (6, .int (nI (((P - 1) / D)))), (7, .int (nI (i9)))]) hx hb dX0_lengthened_40 hl (by decide) rfl (fun ls hl => ?_)
        refine lv_lload (pc := 42) hx hb dX0_lengthened_42 (lv_at hl 4 rfl) ?_
        refine lv_iload (pc := 44) hx hb dX0_lengthened_44 (lv_at hl 0 rfl) ?_
        refine zv_if_ne (pc := 46) (tgt := 53) hx hb (by omega) dX0_lengthened_46 (by decide) (fun h46 => ?_) (fun h46 => ?_)
        · skip
          refine lv_aload_n (pc := 53) hx hb dX0_lengthened_53 rfl (lv_at hl 1 rfl) ?_
          refine va_get (pc := 54) (D := dd) (ci := 0) (v := .ref (ad 7)) (C := RX0) (T := TX0) (N := 12) hx hb hts hin hown hK hP 0 rfl rfl 6 (by decide) (hts (.fieldLink RX0 31 "TurningSums" "rowsOfClass" "[J") (by decide +kernel)) (fun _ h9 => h9) rfl dX0_lengthened_54 ?_
          refine lv_aload_n (pc := 57) hx hb dX0_lengthened_57 rfl (lv_at hl 1 rfl) ?_
          refine lv_iload (pc := 58) hx hb dX0_lengthened_58 (lv_at hl 0 rfl) ?_
          refine lv_aload_n (pc := 60) hx hb dX0_lengthened_60 rfl (lv_at hl 1 rfl) ?_
          refine va_get (pc := 61) (D := dd) (ci := 0) (v := .int (nI (P))) (C := RX0) (T := TX0) (N := 12) hx hb hts hin hown hK hP 0 rfl rfl 8 (by decide) (hts (.fieldLink RX0 49 "TurningSums" "p" "I") (by decide +kernel)) (fun _ h9 => h9) rfl dX0_lengthened_61 ?_
          refine zv_2 (pc := 64) (a := ((P : Nat) : Int)) (b := (((sv : Nat) : Int) - (((rootN P ^ ((i9 * D)) % P) : Nat) : Int))) ((nI_zI _)) (rfl) ?_
          refine zv_iadd (pc := 64) hx hb dX0_lengthened_64 ?_
          refine tq_i (pc := 65) (y := nI ((((((sv : Nat) : Int) - (((rootN P ^ ((i9 * D)) % P) : Nat) : Int)) + ((P : Nat) : Int))).toNat)) (zI_toNat (by omega)) ?_
          refine CTi_Vw (pc := 65) (rX_ok tR) (As := [.int (nI ((((((sv : Nat) : Int) - (((rootN P ^ ((i9 * D)) % P) : Nat) : Int)) + ((P : Nat) : Int))).toNat))]) (rest := [.ref (ad 7), .long (al)]) ⟨hx, hb, hml, hown, hts⟩ (c_X0_classOf l dd ⟨o1, o2, hD1.1, hD1.2, hix⟩ (cls_sb (D := D) hs9 hm (by omega)).2 (by omega)) (cwV 1 hts gX0_lengthened_X0_classOf rfl rfl rfl (by decide +kernel) ⟨Nat.le_of_ble_eq_true rfl, Nat.le_of_ble_eq_true rfl⟩) hK hP hD hS hA hX hK 0 0 rfl rfl rfl rfl hl.1 rfl (Nat.le_of_ble_eq_true rfl) ⟨Nat.zero_le _, Nat.zero_le _⟩ dX0_lengthened_65 (fun r u H locs hw hP hD hS => ?_)
          try dsimp only at hw
          subst hw
          refine tq_i (y := nI ((clsN P D (sbN P sv (rootN P ^ (i9 * D) % P))))) (congrArg nI (cls_sb hs9 hm (by omega)).1) ?_
          refine nv_lald (pc := 68) hx hb hK hP 7 1 rfl rfl (i := (clsN P D (sbN P sv (rootN P ^ (i9 * D) % P)))) (Nat.lt_of_lt_of_le (Nat.mod_lt _ (by omega)) hD1.2) (by decide) (v := (wyS P D k9 (sbN P sv (rootN P ^ (i9 * D) % P)))) ((hrc _ (Nat.mod_lt _ (by omega))).trans (wy_cls hP1 hD1.1 hdv (sb_nz hs9 hm (by omega)).1 (sbN_lt (by omega))).symm) dX0_lengthened_68 ?_
          refine lv_ladd (pc := 69) hx hb dX0_lengthened_69 ?_
          refine lv_lstore (pc := 70) (lv' := [(4, .long ((al + (wyS P D k9 (sbN P sv (rootN P ^ (i9 * D) % P)))))), (8, .int (zI ((((sv : Nat) : Int) - (((rootN P ^ ((i9 * D)) % P) : Nat) : Int))))), (0, .ref (ad 0)), (1, .long (tz)), (3, .int (nI (sv))), (6, .int (nI (((P - 1) / D)))), (7, .int (nI (i9)))]) hx hb dX0_lengthened_70 hl (by decide) rfl (fun ls hl => ?_)
          refine lv_iinc (pc := 72) (v := nI ((i9 + 1))) (lv' := [(7, .int (nI ((i9 + 1)))), (4, .long ((al + (wyS P D k9 (sbN P sv (rootN P ^ (i9 * D) % P)))))), (8, .int (zI ((((sv : Nat) : Int) - (((rootN P ^ ((i9 * D)) % P) : Nat) : Int))))), (0, .ref (ad 0)), (1, .long (tz)), (3, .int (nI (sv))), (6, .int (nI (((P - 1) / D))))]) hx hb dX0_lengthened_72 hl (k := 6) rfl (nI_inc _) (by decide) rfl (fun ls hl => ?_)
          refine lv_goto (pc := 75) (tgt := 19) hx hb dX0_lengthened_75 (by decide) ?_
          exact ih_19 ((i9 + 1)) ((al + (wyS P D k9 (sbN P sv (rootN P ^ (i9 * D) % P))))) (by omega) (by omega) (by rw [Nat.add_one_mul, stS_s hD1.1 (Nat.mul_mod_left _ _), ← hal]) _ _ _ hP hD hS (lv_sub hl [3, 4, 5, 1, 6, 0] rfl)
        · skip
          refine lv_lload_n (pc := 49) hx hb dX0_lengthened_49 rfl (lv_at hl 2 rfl) ?_
          refine tq_l (y := (wyS P D k9 (sbN P sv (rootN P ^ (i9 * D) % P)))) (by rw [htz, sb_0 hs9 hm (by omega)]) ?_
          refine lv_goto (pc := 50) (tgt := 69) hx hb dX0_lengthened_50 (by decide) ?_
          refine lv_ladd (pc := 69) hx hb dX0_lengthened_69 ?_
          refine lv_lstore (pc := 70) (lv' := [(4, .long ((al + (wyS P D k9 (sbN P sv (rootN P ^ (i9 * D) % P)))))), (8, .int (zI ((((sv : Nat) : Int) - (((rootN P ^ ((i9 * D)) % P) : Nat) : Int))))), (0, .ref (ad 0)), (1, .long (tz)), (3, .int (nI (sv))), (6, .int (nI (((P - 1) / D)))), (7, .int (nI (i9)))]) hx hb dX0_lengthened_70 hl (by decide) rfl (fun ls hl => ?_)
          refine lv_iinc (pc := 72) (v := nI ((i9 + 1))) (lv' := [(7, .int (nI ((i9 + 1)))), (4, .long ((al + (wyS P D k9 (sbN P sv (rootN P ^ (i9 * D) % P)))))), (8, .int (zI ((((sv : Nat) : Int) - (((rootN P ^ ((i9 * D)) % P) : Nat) : Int))))), (0, .ref (ad 0)), (1, .long (tz)), (3, .int (nI (sv))), (6, .int (nI (((P - 1) / D))))]) hx hb dX0_lengthened_72 hl (k := 6) rfl (nI_inc _) (by decide) rfl (fun ls hl => ?_)
          refine lv_goto (pc := 75) (tgt := 19) hx hb dX0_lengthened_75 (by decide) ?_
          exact ih_19 ((i9 + 1)) ((al + (wyS P D k9 (sbN P sv (rootN P ^ (i9 * D) % P))))) (by omega) (by omega) (by rw [Nat.add_one_mul, stS_s hD1.1 (Nat.mul_mod_left _ _), ← hal]) _ _ _ hP hD hS (lv_sub hl [3, 4, 5, 1, 6, 0] rfl)
  exact L19 _ (0) (zL 0) (Nat.lt_succ_self _) (Nat.zero_le _) (by rw [Nat.zero_mul]; exact zL_0) _ _ _ hP hD hS (lv_sub hl [3, 4, 5, 2, 1, 0] rfl)
set_option maxHeartbeats 4000000 in
set_option maxRecDepth 100000 in
theorem c_X0_rows (l : Launch) (dd : va_G) {ad : Nat → Nat} {cI cL cQ : ClassId} {tR : Nat}  {ix : Nat → Int32} {pw : Nat → Int32} {sg : Nat → Int32} {tm : Nat → Int32} {hd : Nat → Nat → Int32} {wk : Nat → Int64} {rc : Nat → Int64} {lc : Nat → Int64} {P : Nat} {D : Nat} {k9 : Int} (hkr : -2147483648 ≤ k9 ∧ k9 < 2147483648) (hP1 : okP P) (hD1 : 1 ≤ D ∧ D ≤ 12) (hdv : (P - 1) % D = 0) (hI : okI P ix pw) : CTl l yX0_rows wsX0_rows ({ frames := 2, cells := 0, slots := 0, locals := 60 } : Room) dd (tysA cI cL cQ) (rX tR) [.ref (ad 0), .int (zI (k9))] (wC ad cI cL cQ (ix) (pw) (sg) (tm) (hd) (wk) (rc) (lc) (P) ((rootN P)) (D) ((phN D))) (fun (r : Int64) (u : (Nat → Int64) × (Nat → Int64)) => r = rwS P D k9) (fun (u : (Nat → Int64) × (Nat → Int64)) => (wC ad cI cL cQ (ix) (pw) (sg) (tm) (hd) (wk) (u.1) (u.2) (P) ((rootN P)) (D) ((phN D)))) := by
  refine CTl_of (cc := cX0_rows) (maxL := 6) (by decide +kernel) rfl (Nat.le_of_ble_eq_true rfl) ?_
  intro p e s m args below meth c A Q ls H locs hx hb hts hown hml hP hK hD hS hA hX hl hret
  have hin : ∀ w ∈ wsX00, w ∈ wsX0_rows := by decide +kernel
  have hl : lv_has ls 6 [(0, .ref (ad 0)), (1, .int (zI (k9)))] := hl
  obtain ⟨o1, o2, o3, o4, o5, o6⟩ := id hP1
  have hph := ph_rng D (by omega) hD1.1
  obtain ⟨hix, hpw⟩ := id hI
  have hDP : D ≤ P - 1 := Nat.le_of_dvd (by omega) (Nat.dvd_of_mod_eq_zero hdv)
  refine lv_iload_n (pc := 0) hx hb dX0_rows_0 rfl (lv_at hl 1 rfl) ?_
  refine zv_if_lt (pc := 1) (tgt := 10) hx hb (by omega) dX0_rows_1 (by decide) (fun h1 => ?_) (fun h1 => ?_)
  · skip
    refine tq_ldc2 (pc := 10) (k := (-3)) hx hb hown (hts (.constantLong RX0 108 (-3)) (by decide +kernel)) dX0_rows_10 ?_
    exact hret _ _ _ _ _ (rc, lc) (by unfold rwS; rw [if_neg (by omega)]) hP hD hS dX0_rows_13
  · skip
    refine lv_iload_n (pc := 4) hx hb dX0_rows_4 rfl (lv_at hl 1 rfl) ?_
    refine nv_bipush (pc := 5) (k := 6) hx hb dX0_rows_5 rfl (by decide) ?_
    refine zv_2 (pc := 7) (a := ((6 : Nat) : Int)) (b := k9) ((nI_zI _)) (rfl) ?_
    refine zv_icmp_le (pc := 7) (tgt := 14) hx hb (by omega) (by omega) dX0_rows_7 (by decide) (fun h7 => ?_) (fun h7 => ?_)
    · skip
      refine lv_aload_n (pc := 14) hx hb dX0_rows_14 rfl (lv_at hl 0 rfl) ?_
      refine va_get (pc := 15) (D := dd) (ci := 0) (v := .ref (ad 7)) (C := RX0) (T := TX0) (N := 12) hx hb hts hin hown hK hP 0 rfl rfl 6 (by decide) (hts (.fieldLink RX0 31 "TurningSums" "rowsOfClass" "[J") (by decide +kernel)) (fun _ h9 => h9) rfl dX0_rows_15 ?_
      refine lv_lconst (pc := 18) (v := zL 0) hx hb dX0_rows_18 (by decide) ?_
      refine CTv_Sp (pc := 19) am_no_ok (As := [.ref (ad 7), .long (zL 0)]) (rest := []) ⟨hx, hb, hml, hown, hts⟩ (c_J7_fill_d0a16 l dd (by decide)) (va_cwS 2 hts gX0_rows_J7_fill_d0a16 rfl rfl rfl (by decide +kernel) ⟨Nat.le_of_ble_eq_true rfl, Nat.le_of_ble_eq_true rfl⟩) hK hP hD hS hA trivial [7] [0, 1, 2, 3, 4, 5, 6, 8, 9, 10, 11, 12, 13, 14] rfl rfl rfl rfl (by decide) rfl hl.1 rfl (Nat.le_of_ble_eq_true rfl) ⟨Nat.zero_le _, Nat.zero_le _⟩ dX0_rows_19 (fun u H locs hw hP hD hS => ?_)
      try dsimp only at hw
      subst hw
      have hP : va_P dd vwCl (wC ad cI cL cQ (ix) (pw) (sg) (tm) (hd) (wk) ((fun k => if k < 12 then zL 0 else (rc) k)) (lc) (P) ((rootN P)) (D) ((phN D))) H := hP.sub [0, 1, 2, 3, 4, 5, 6, 14, 7, 8, 9, 10, 11, 12, 13] rfl
      have hD : va_D A (wC ad cI cL cQ (ix) (pw) (sg) (tm) (hd) (wk) ((fun k => if k < 12 then zL 0 else (rc) k)) (lc) (P) ((rootN P)) (D) ((phN D))) := hD.sub [0, 1, 2, 3, 4, 5, 6, 14, 7, 8, 9, 10, 11, 12, 13] (by decide) rfl
      refine lv_lconst (pc := 22) (v := zL 1) hx hb dX0_rows_22 (by decide) ?_
      refine lv_lstore_n (pc := 23) (lv' := [(2, .long (zL 1)), (0, .ref (ad 0)), (1, .int (zI (k9)))]) hx hb dX0_rows_23 rfl hl (by decide) rfl (fun ls hl => ?_)
      refine nv_iconst (pc := 24) (k := 1) hx hb dX0_rows_24 rfl ?_
      refine lv_istore (pc := 25) (lv' := [(4, .int (nI (1))), (2, .long (zL 1)), (0, .ref (ad 0)), (1, .int (zI (k9)))]) hx hb dX0_rows_25 hl (by decide) rfl (fun ls hl => ?_)
      have L27 : ∀ (n9_27 : Nat), ∀ (n9 : Nat) (tz : Int64) (rcv : Nat → Int64) (lcv0 : Nat → Int64), 7 - n9 < n9_27 → ((n9 : Int) ≤ k9) → (tz = wyS P D n9 0) → (∀ q, q < D → rcv q = wyS P D n9 (rootN P ^ q % P)) → ∀ (H : Heap) (locs : List Loc) (ls : Array Slot), va_P dd vwCl (wC ad cI cL cQ (ix) (pw) (sg) (tm) (hd) (wk) (rcv) (lcv0) (P) ((rootN P)) (D) ((phN D))) H → va_D A (wC ad cI cL cQ (ix) (pw) (sg) (tm) (hd) (wk) (rcv) (lcv0) (P) ((rootN P)) (D) ((phN D))) → va_S A s.heap H locs → lv_has ls 6 [(0, .ref (ad 0)), (1, .int (zI (k9))), (2, .long (tz)), (4, .int (nI ((n9 + 1))))] → W p l e ({ frames := 2, cells := 0, slots := 0, locals := 60 } : Room) s m args below meth c H locs 0 0 Q (F0 m 27 ls []) := by
        intro n9_27
        induction n9_27 with
        | zero => intro n9 tz rcv lcv0 hm; exact absurd hm (Nat.not_lt_zero _)
        | succ n9_27 ih_27 =>
          intro n9 tz rcv lcv0 hm_27 hn9 htz hrc H locs ls hP hD hS hl
          refine lv_iload (pc := 27) hx hb dX0_rows_27 (lv_at hl 3 rfl) ?_
          refine lv_iload_n (pc := 29) hx hb dX0_rows_29 rfl (lv_at hl 1 rfl) ?_
          refine zv_2 (pc := 30) (a := k9) (b := (((n9 + 1) : Nat) : Int)) (rfl) ((nI_zI _)) ?_
          refine zv_icmp_gt (pc := 30) (tgt := 100) hx hb (by omega) (by omega) dX0_rows_30 (by decide) (fun h30 => ?_) (fun h30 => ?_)
          · skip
            refine lv_lload_n (pc := 100) hx hb dX0_rows_100 rfl (lv_at hl 2 rfl) ?_
            exact hret _ _ _ _ _ (rcv, lcv0) (by unfold rwS; rw [if_pos (by omega), htz, show n9 = k9.toNat by omega]) hP hD hS dX0_rows_101
          · skip
            refine nv_iconst (pc := 33) (k := 0) hx hb dX0_rows_33 rfl ?_
            refine lv_istore (pc := 34) (lv' := [(5, .int (nI (0))), (0, .ref (ad 0)), (1, .int (zI (k9))), (2, .long (tz)), (4, .int (nI ((n9 + 1))))]) hx hb dX0_rows_34 hl (by decide) rfl (fun ls hl => ?_)
            have L36 : ∀ (n9_36 : Nat), ∀ (c9 : Nat) (lcv : Nat → Int64), 13 - c9 < n9_36 → (c9 ≤ D) → (∀ q, q < c9 → lcv q = wyS P D (n9 + 1) (rootN P ^ q % P)) → ∀ (H : Heap) (locs : List Loc) (ls : Array Slot), va_P dd vwCl (wC ad cI cL cQ (ix) (pw) (sg) (tm) (hd) (wk) (rcv) (lcv) (P) ((rootN P)) (D) ((phN D))) H → va_D A (wC ad cI cL cQ (ix) (pw) (sg) (tm) (hd) (wk) (rcv) (lcv) (P) ((rootN P)) (D) ((phN D))) → va_S A s.heap H locs → lv_has ls 6 [(0, .ref (ad 0)), (1, .int (zI (k9))), (2, .long (tz)), (4, .int (nI ((n9 + 1)))), (5, .int (nI (c9)))] → W p l e ({ frames := 2, cells := 0, slots := 0, locals := 60 } : Room) s m args below meth c H locs 0 0 Q (F0 m 36 ls []) := by
              intro n9_36
              induction n9_36 with
              | zero => intro c9 lcv hm; exact absurd hm (Nat.not_lt_zero _)
              | succ n9_36 ih_36 =>
                intro c9 lcv hm_36 hc9 hlc H locs ls hP hD hS hl
                refine lv_iload (pc := 36) hx hb dX0_rows_36 (lv_at hl 4 rfl) ?_
                refine lv_aload_n (pc := 38) hx hb dX0_rows_38 rfl (lv_at hl 0 rfl) ?_
                refine va_get (pc := 39) (D := dd) (ci := 0) (v := .int (nI (D))) (C := RX0) (T := TX0) (N := 12) hx hb hts hin hown hK hP 0 rfl rfl 10 (by decide) (hts (.fieldLink RX0 74 "TurningSums" "d" "I") (by decide +kernel)) (fun _ h9 => h9) rfl dX0_rows_39 ?_
                refine nv_icmp_ge (pc := 42) (tgt := 70) hx hb (a := c9) (b := D) (by omega) (by omega) dX0_rows_42 (by decide) (fun h42 => ?_) (fun h42 => ?_)
                · skip
                  refine lv_aload_n (pc := 70) hx hb dX0_rows_70 rfl (lv_at hl 0 rfl) ?_
                  refine lv_lload_n (pc := 71) hx hb dX0_rows_71 rfl (lv_at hl 2 rfl) ?_
                  refine nv_iconst (pc := 72) (k := 0) hx hb dX0_rows_72 rfl ?_
                  refine CTl_Vw (pc := 73) (rX_ok tR) (As := [.long (tz), .int (nI (0))]) (rest := []) ⟨hx, hb, hml, hown, hts⟩ (c_X0_lengthened l dd hP1 hD1 hdv hI (by omega) htz hrc) (cwV 2 hts gX0_rows_X0_lengthened rfl rfl rfl (by decide +kernel) ⟨Nat.le_of_ble_eq_true rfl, Nat.le_of_ble_eq_true rfl⟩) hK hP hD hS hA hX hK 0 0 rfl rfl rfl rfl hl.1 rfl (Nat.le_of_ble_eq_true rfl) ⟨Nat.zero_le _, Nat.zero_le _⟩ dX0_rows_73 (fun r u H locs hw hP hD hS => ?_)
                  try dsimp only at hw
                  subst hw
                  refine lv_lstore_n (pc := 76) (lv' := [(2, .long ((wyS P D (n9 + 1) (0)))), (0, .ref (ad 0)), (1, .int (zI (k9))), (4, .int (nI ((n9 + 1)))), (5, .int (nI (c9)))]) hx hb dX0_rows_76 rfl hl (by decide) rfl (fun ls hl => ?_)
                  refine lv_aload_n (pc := 77) hx hb dX0_rows_77 rfl (lv_at hl 1 rfl) ?_
                  refine va_get (pc := 78) (D := dd) (ci := 0) (v := .ref (ad 8)) (C := RX0) (T := TX0) (N := 12) hx hb hts hin hown hK hP 0 rfl rfl 7 (by decide) (hts (.fieldLink RX0 34 "TurningSums" "longerOfClass" "[J") (by decide +kernel)) (fun _ h9 => h9) rfl dX0_rows_78 ?_
                  refine nv_iconst (pc := 81) (k := 0) hx hb dX0_rows_81 rfl ?_
                  refine lv_aload_n (pc := 82) hx hb dX0_rows_82 rfl (lv_at hl 1 rfl) ?_
                  refine va_get (pc := 83) (D := dd) (ci := 0) (v := .ref (ad 7)) (C := RX0) (T := TX0) (N := 12) hx hb hts hin hown hK hP 0 rfl rfl 6 (by decide) (hts (.fieldLink RX0 31 "TurningSums" "rowsOfClass" "[J") (by decide +kernel)) (fun _ h9 => h9) rfl dX0_rows_83 ?_
                  refine nv_iconst (pc := 86) (k := 0) hx hb dX0_rows_86 rfl ?_
                  refine lv_aload_n (pc := 87) hx hb dX0_rows_87 rfl (lv_at hl 1 rfl) ?_
                  refine va_get (pc := 88) (D := dd) (ci := 0) (v := .int (nI (D))) (C := RX0) (T := TX0) (N := 12) hx hb hts hin hown hK hP 0 rfl rfl 10 (by decide) (hts (.fieldLink RX0 74 "TurningSums" "d" "I") (by decide +kernel)) (fun _ h9 => h9) rfl dX0_rows_88 ?_
                  have ecp : va_cpy (lcv) (rcv) (nI 0).toNatClampNeg (nI 0).toNatClampNeg (nI (D)).toNatClampNeg = va_cpy (lcv) (rcv) 0 0 (D) := by rw [nI_clamp (by omega), nI_clamp (by omega)]
                  refine va_copyl (pc := 91) hx hb (hml.trans hl.1.symm) hown (hts (.methodLink RX0 114 arraycopyName) (by decide +kernel)) (hts (.native arraycopyName) (by decide +kernel)) (hts (.static arraycopyName) (by decide +kernel)) (hts (.initialized "java/lang/System") (by decide +kernel)) hK hP hD hS 8 7 1 1 rfl rfl rfl rfl rfl (nI_pos (by omega)) (nI_pos (by omega)) (nI_pos (by omega)) (by rw [nI_clamp (by omega), nI_clamp (by omega)]; omega) (by rw [nI_clamp (by omega), nI_clamp (by omega)]; omega) (fun i hi => rfl) (Nat.le_of_ble_eq_true rfl) (by decide +kernel) dX0_rows_91 (fun H locs hP hD hS => ?_)
                  rw [ecp] at hP hD
                  have hP : va_P dd vwCl (wC ad cI cL cQ (ix) (pw) (sg) (tm) (hd) (wk) ((va_cpy (lcv) (rcv) 0 0 (D))) (lcv) (P) ((rootN P)) (D) ((phN D))) H := hP
                  have hD : va_D A (wC ad cI cL cQ (ix) (pw) (sg) (tm) (hd) (wk) ((va_cpy (lcv) (rcv) 0 0 (D))) (lcv) (P) ((rootN P)) (D) ((phN D))) := hD
                  refine lv_iinc (pc := 94) (v := nI (((n9 + 1) + 1))) (lv' := [(4, .int (nI (((n9 + 1) + 1)))), (2, .long ((wyS P D (n9 + 1) (0)))), (0, .ref (ad 0)), (1, .int (zI (k9))), (5, .int (nI (c9)))]) hx hb dX0_rows_94 hl (k := 3) rfl (nI_inc _) (by decide) rfl (fun ls hl => ?_)
                  refine lv_goto (pc := 97) (tgt := 27) hx hb dX0_rows_97 (by decide) ?_
                  exact ih_27 (n9 + 1) ((wyS P D (n9 + 1) (0))) ((va_cpy (lcv) (rcv) 0 0 (D))) (lcv) (by omega) (by omega) (rfl) (fun q z => by rw [cpy_0 z]; exact hlc q (by omega)) _ _ _ hP hD hS (lv_sub hl [2, 3, 1, 0] rfl)
                · skip
                  refine lv_aload_n (pc := 45) hx hb dX0_rows_45 rfl (lv_at hl 0 rfl) ?_
                  refine va_get (pc := 46) (D := dd) (ci := 0) (v := .ref (ad 8)) (C := RX0) (T := TX0) (N := 12) hx hb hts hin hown hK hP 0 rfl rfl 7 (by decide) (hts (.fieldLink RX0 34 "TurningSums" "longerOfClass" "[J") (by decide +kernel)) (fun _ h9 => h9) rfl dX0_rows_46 ?_
                  refine lv_iload (pc := 49) hx hb dX0_rows_49 (lv_at hl 4 rfl) ?_
                  refine lv_aload_n (pc := 51) hx hb dX0_rows_51 rfl (lv_at hl 0 rfl) ?_
                  refine lv_lload_n (pc := 52) hx hb dX0_rows_52 rfl (lv_at hl 2 rfl) ?_
                  refine lv_aload_n (pc := 53) hx hb dX0_rows_53 rfl (lv_at hl 0 rfl) ?_
                  refine va_get (pc := 54) (D := dd) (ci := 0) (v := .ref (ad 2)) (C := RX0) (T := TX0) (N := 12) hx hb hts hin hown hK hP 0 rfl rfl 1 (by decide) (hts (.fieldLink RX0 13 "TurningSums" "powerOf" "[I") (by decide +kernel)) (fun _ h9 => h9) rfl dX0_rows_54 ?_
                  refine lv_iload (pc := 57) hx hb dX0_rows_57 (lv_at hl 4 rfl) ?_
                  refine nv_iald (pc := 59) hx hb hK hP 2 0 rfl rfl (i := c9) (by omega) (by decide) (v := nI ((rootN P ^ (c9) % P))) (hpw _ (by omega)) dX0_rows_59 ?_
                  refine CTl_Vw (pc := 60) (rX_ok tR) (As := [.long (tz), .int (nI ((rootN P ^ (c9) % P)))]) (rest := [.int (nI (c9)), .ref (ad 8)]) ⟨hx, hb, hml, hown, hts⟩ (c_X0_lengthened l dd hP1 hD1 hdv hI (Nat.mod_lt _ (by omega)) htz hrc) (cwV 2 hts gX0_rows_X0_lengthened rfl rfl rfl (by decide +kernel) ⟨Nat.le_of_ble_eq_true rfl, Nat.le_of_ble_eq_true rfl⟩) hK hP hD hS hA hX hK 0 0 rfl rfl rfl rfl hl.1 rfl (Nat.le_of_ble_eq_true rfl) ⟨Nat.zero_le _, Nat.zero_le _⟩ dX0_rows_60 (fun r u H locs hw hP hD hS => ?_)
                  try dsimp only at hw
                  subst hw
                  refine nv_last (pc := 63) hx hb hK hP hD hS 8 1 rfl rfl (by omega) (by decide) (ws' := (wC ad cI cL cQ (ix) (pw) (sg) (tm) (hd) (wk) (rcv) ((vp_updL (lcv) (c9) ((wyS P D (n9 + 1) ((rootN P ^ (c9) % P)))))) (P) ((rootN P)) (D) ((phN D)))) rfl dX0_rows_63 (fun H locs hP hD hS => ?_)
                  refine lv_iinc (pc := 64) (v := nI ((c9 + 1))) (lv' := [(5, .int (nI ((c9 + 1)))), (0, .ref (ad 0)), (1, .int (zI (k9))), (2, .long (tz)), (4, .int (nI ((n9 + 1))))]) hx hb dX0_rows_64 hl (k := 4) rfl (nI_inc _) (by decide) rfl (fun ls hl => ?_)
                  refine lv_goto (pc := 67) (tgt := 36) hx hb dX0_rows_67 (by decide) ?_
                  exact ih_36 ((c9 + 1)) ((vp_updL (lcv) (c9) ((wyS P D (n9 + 1) ((rootN P ^ (c9) % P)))))) (by omega) (by omega) (ad_m (v := fun q => wyS P D (n9 + 1) (rootN P ^ q % P)) rfl hlc) _ _ _ hP hD hS (lv_sub hl [1, 2, 3, 4, 0] rfl)
            exact L36 _ (0) (lcv0) (Nat.lt_succ_self _) (by omega) (fun q z => by omega) _ _ _ hP hD hS (lv_sub hl [1, 2, 3, 4, 0] rfl)
      exact L27 _ (0) (zL 1) ((fun k => if k < 12 then zL 0 else (rc) k)) (lc) (Nat.lt_succ_self _) (by omega) (rfl) (fun q z => by show (if q < 12 then zL 0 else rc q) = if rootN P ^ q % P = 0 then zL 1 else zL 0; rw [if_pos (by omega), if_neg (by have := pw_pos hP1 (show q ≤ P - 1 by omega); omega)]) _ _ _ hP hD hS (lv_sub hl [2, 3, 1, 0] rfl)
    · skip
      refine tq_ldc2 (pc := 10) (k := (-3)) hx hb hown (hts (.constantLong RX0 108 (-3)) (by decide +kernel)) dX0_rows_10 ?_
      exact hret _ _ _ _ _ (rc, lc) (by unfold rwS; rw [if_neg (by omega)]) hP hD hS dX0_rows_13
set_option maxHeartbeats 4000000 in
set_option maxRecDepth 100000 in
theorem c_X1_power (l : Launch) (dd : va_G) {ad : Nat → Nat} {cI cL cQ : ClassId}  {P : Nat} {D : Nat} {ix : Nat → Int32} {ho : Nat → Int64} {re : Nat → Int32} {wk : Nat → Int64} {tu : Nat → Int64} {wa : Nat → Int64} {nx : Nat → Int64} {x : Nat} (hP1 : okP P) (hD1 : 1 ≤ D ∧ D ≤ 12) (hxP : x < P) : CTi l yX1_power wsX1_power ({ frames := 0, cells := 0, slots := 0, locals := 0 } : Room) dd (tysA cI cL cQ) (am_no) [.ref (ad 0), .int (nI (x))] (wM ad cI cL (P) ((rootN P)) (D) ((phN D)) (ix) (ho) (re) (wk) (tu) (wa) (nx)) (fun (r : Int32) (u : Unit) => r = nI (x ^ D % P)) (fun (_ : Unit) => (wM ad cI cL (P) ((rootN P)) (D) ((phN D)) (ix) (ho) (re) (wk) (tu) (wa) (nx))) := by
  refine CTi_of (cc := cX1_power) (maxL := 4) (by decide +kernel) rfl (Nat.le_of_ble_eq_true rfl) ?_
  intro p e s m args below meth c A Q ls H locs hx hb hts hown hml hP hK hD hS hA hX hl hret
  have hin : ∀ w ∈ wsX10, w ∈ wsX1_power := by decide +kernel
  have hl : lv_has ls 4 [(0, .ref (ad 0)), (1, .int (nI (x)))] := hl
  obtain ⟨o1, o2, o3, o4, o5, o6⟩ := id hP1
  have hph := ph_rng D (by omega) hD1.1
  refine nv_iconst (pc := 0) (k := 1) hx hb dX1_power_0 rfl ?_
  refine lv_istore_n (pc := 1) (lv' := [(2, .int (nI (1))), (0, .ref (ad 0)), (1, .int (nI (x)))]) hx hb dX1_power_1 rfl hl (by decide) rfl (fun ls hl => ?_)
  refine nv_iconst (pc := 2) (k := 0) hx hb dX1_power_2 rfl ?_
  refine lv_istore_n (pc := 3) (lv' := [(3, .int (nI (0))), (2, .int (nI (1))), (0, .ref (ad 0)), (1, .int (nI (x)))]) hx hb dX1_power_3 rfl hl (by decide) rfl (fun ls hl => ?_)
  have hl : lv_has ls 4 [(3, .int (nI (0))), (2, .int (nI ((x ^ 0 % P)))), (0, .ref (ad 0)), (1, .int (nI (x)))] := by
    have e9 : nI (1) = nI ((x ^ 0 % P)) := by rw [Nat.pow_zero, Nat.mod_eq_of_lt (by omega)]
    rw [← e9]
    exact hl
  have L4 : ∀ (n9_4 : Nat), ∀ (k : Nat), D + 1 - k < n9_4 → (k ≤ D) → ∀ (H : Heap) (locs : List Loc) (ls : Array Slot), va_P dd vwCl (wM ad cI cL (P) ((rootN P)) (D) ((phN D)) (ix) (ho) (re) (wk) (tu) (wa) (nx)) H → va_D A (wM ad cI cL (P) ((rootN P)) (D) ((phN D)) (ix) (ho) (re) (wk) (tu) (wa) (nx)) → va_S A s.heap H locs → lv_has ls 4 [(0, .ref (ad 0)), (1, .int (nI (x))), (2, .int (nI ((x ^ k % P)))), (3, .int (nI (k)))] → W p l e ({ frames := 0, cells := 0, slots := 0, locals := 0 } : Room) s m args below meth c H locs 0 0 Q (F0 m 4 ls []) := by
    intro n9_4
    induction n9_4 with
    | zero => intro k hm; exact absurd hm (Nat.not_lt_zero _)
    | succ n9_4 ih_4 =>
      intro k hm_4 hk H locs ls hP hD hS hl
      have hm := Nat.mod_lt (x ^ k) (show 0 < P by omega)
      refine lv_iload_n (pc := 4) hx hb dX1_power_4 rfl (lv_at hl 3 rfl) ?_
      refine lv_aload_n (pc := 5) hx hb dX1_power_5 rfl (lv_at hl 0 rfl) ?_
      refine va_get (pc := 6) (D := dd) (ci := 1) (v := .int (nI (D))) (C := RX1) (T := TX1) (N := 11) hx hb hts hin hown hK hP 0 rfl rfl 2 (by decide) (hts (.fieldLink RX1 52 "TurningSumsModel" "d" "I") (by decide +kernel)) (fun _ h9 => h9) rfl dX1_power_6 ?_
      refine nv_icmp_ge (pc := 9) (tgt := 27) hx hb (a := k) (b := D) (by omega) (by omega) dX1_power_9 (by decide) (fun h9 => ?_) (fun h9 => ?_)
      · skip
        refine lv_iload_n (pc := 27) hx hb dX1_power_27 rfl (lv_at hl 2 rfl) ?_
        exact hret _ _ _ _ _ (()) (by rw [show k = D by omega]) hP hD hS dX1_power_28
      · skip
        refine lv_iload_n (pc := 12) hx hb dX1_power_12 rfl (lv_at hl 2 rfl) ?_
        refine lv_iload_n (pc := 13) hx hb dX1_power_13 rfl (lv_at hl 1 rfl) ?_
        refine nv_imul (pc := 14) hx hb dX1_power_14 ?_
        refine lv_aload_n (pc := 15) hx hb dX1_power_15 rfl (lv_at hl 0 rfl) ?_
        refine va_get (pc := 16) (D := dd) (ci := 1) (v := .int (nI (P))) (C := RX1) (T := TX1) (N := 11) hx hb hts hin hown hK hP 0 rfl rfl 0 (by decide) (hts (.fieldLink RX1 42 "TurningSumsModel" "p" "I") (by decide +kernel)) (fun _ h9 => h9) rfl dX1_power_16 ?_
        refine nv_irem (pc := 19) hx hb (mul_b o2 hm hxP) (by omega) (by omega) dX1_power_19 ?_
        refine tq_i (y := nI ((x ^ (k + 1) % P))) (by rw [pw_step]) ?_
        refine lv_istore_n (pc := 20) (lv' := [(2, .int (nI ((x ^ (k + 1) % P)))), (0, .ref (ad 0)), (1, .int (nI (x))), (3, .int (nI (k)))]) hx hb dX1_power_20 rfl hl (by decide) rfl (fun ls hl => ?_)
        refine lv_iinc (pc := 21) (v := nI ((k + 1))) (lv' := [(3, .int (nI ((k + 1)))), (2, .int (nI ((x ^ (k + 1) % P)))), (0, .ref (ad 0)), (1, .int (nI (x)))]) hx hb dX1_power_21 hl (k := 3) rfl (nI_inc _) (by decide) rfl (fun ls hl => ?_)
        refine lv_goto (pc := 24) (tgt := 4) hx hb dX1_power_24 (by decide) ?_
        exact ih_4 ((k + 1)) (by omega) (by omega) _ _ _ hP hD hS (lv_sub hl [2, 3, 1, 0] rfl)
  exact L4 _ (0) (Nat.lt_succ_self _) (by omega) _ _ _ hP hD hS (lv_sub hl [2, 3, 1, 0] rfl)
set_option maxHeartbeats 4000000 in
set_option maxRecDepth 100000 in
theorem c_X1_solutions (l : Launch) (dd : va_G) {ad : Nat → Nat} {cI cL cQ : ClassId}  {P : Nat} {D : Nat} {ix : Nat → Int32} {ho : Nat → Int64} {re : Nat → Int32} {wk : Nat → Int64} {tu : Nat → Int64} {wa : Nat → Int64} {nx : Nat → Int64} {a : Int} {b : Int} {c9 : Int} (har : -2147483648 ≤ a ∧ a < 2147483648) (hbr : -2147483648 ≤ b ∧ b < 2147483648) (hcr : -2147483648 ≤ c9 ∧ c9 < 2147483648) (hP1 : okP P) (hD1 : 1 ≤ D ∧ D ≤ 12) : CTi l yX1_solutions wsX1_solutions ({ frames := 1, cells := 0, slots := 0, locals := 23 } : Room) dd (tysA cI cL cQ) (am_no) [.ref (ad 0), .int (zI (a)), .int (zI (b)), .int (zI (c9))] (wM ad cI cL (P) ((rootN P)) (D) ((phN D)) (ix) (ho) (re) (wk) (tu) (wa) (nx)) (fun (r : Int32) (u : Unit) => r = zI (eqS P D a b c9 P)) (fun (_ : Unit) => (wM ad cI cL (P) ((rootN P)) (D) ((phN D)) (ix) (ho) (re) (wk) (tu) (wa) (nx))) := by
  refine CTi_of (cc := cX1_solutions) (maxL := 8) (by decide +kernel) rfl (Nat.le_of_ble_eq_true rfl) ?_
  intro p e s m args below meth c A Q ls H locs hx hb hts hown hml hP hK hD hS hA hX hl hret
  have hin : ∀ w ∈ wsX10, w ∈ wsX1_solutions := by decide +kernel
  have hl : lv_has ls 8 [(0, .ref (ad 0)), (1, .int (zI (a))), (2, .int (zI (b))), (3, .int (zI (c9)))] := hl
  obtain ⟨o1, o2, o3, o4, o5, o6⟩ := id hP1
  have hph := ph_rng D (by omega) hD1.1
  have hf1 := fmN_lt a (show 0 < P by omega)
  have hf2 := fmN_lt b (show 0 < P by omega)
  have hf3 := fmN_lt c9 (show 0 < P by omega)
  refine nv_iconst (pc := 0) (k := 0) hx hb dX1_solutions_0 rfl ?_
  refine lv_istore (pc := 1) (lv' := [(4, .int (nI (0))), (0, .ref (ad 0)), (1, .int (zI (a))), (2, .int (zI (b))), (3, .int (zI (c9)))]) hx hb dX1_solutions_1 hl (by decide) rfl (fun ls hl => ?_)
  refine nv_iconst (pc := 3) (k := 0) hx hb dX1_solutions_3 rfl ?_
  refine lv_istore (pc := 4) (lv' := [(5, .int (nI (0))), (4, .int (nI (0))), (0, .ref (ad 0)), (1, .int (zI (a))), (2, .int (zI (b))), (3, .int (zI (c9)))]) hx hb dX1_solutions_4 hl (by decide) rfl (fun ls hl => ?_)
  have hl : lv_has ls 8 [(5, .int (nI (0))), (4, .int (zI (0))), (0, .ref (ad 0)), (1, .int (zI (a))), (2, .int (zI (b))), (3, .int (zI (c9)))] := by
    have e9 : nI (0) = zI (0) := rfl
    rw [← e9]
    exact hl
  have L6 : ∀ (n9_6 : Nat), ∀ (x : Nat) (n : Int), P + 1 - x < n9_6 → (x ≤ P) → (n = eqS P D a b c9 x) → ∀ (H : Heap) (locs : List Loc) (ls : Array Slot), va_P dd vwCl (wM ad cI cL (P) ((rootN P)) (D) ((phN D)) (ix) (ho) (re) (wk) (tu) (wa) (nx)) H → va_D A (wM ad cI cL (P) ((rootN P)) (D) ((phN D)) (ix) (ho) (re) (wk) (tu) (wa) (nx)) → va_S A s.heap H locs → lv_has ls 8 [(0, .ref (ad 0)), (1, .int (zI (a))), (2, .int (zI (b))), (3, .int (zI (c9))), (4, .int (zI (n))), (5, .int (nI (x)))] → W p l e ({ frames := 1, cells := 0, slots := 0, locals := 23 } : Room) s m args below meth c H locs 0 0 Q (F0 m 6 ls []) := by
    intro n9_6
    induction n9_6 with
    | zero => intro x n hm; exact absurd hm (Nat.not_lt_zero _)
    | succ n9_6 ih_6 =>
      intro x n hm_6 hx9 hn H locs ls hP hD hS hl
      refine lv_iload (pc := 6) hx hb dX1_solutions_6 (lv_at hl 5 rfl) ?_
      refine lv_aload_n (pc := 8) hx hb dX1_solutions_8 rfl (lv_at hl 0 rfl) ?_
      refine va_get (pc := 9) (D := dd) (ci := 1) (v := .int (nI (P))) (C := RX1) (T := TX1) (N := 11) hx hb hts hin hown hK hP 0 rfl rfl 0 (by decide) (hts (.fieldLink RX1 42 "TurningSumsModel" "p" "I") (by decide +kernel)) (fun _ h9 => h9) rfl dX1_solutions_9 ?_
      refine nv_icmp_ge (pc := 12) (tgt := 103) hx hb (a := x) (b := P) (by omega) (by omega) dX1_solutions_12 (by decide) (fun h12 => ?_) (fun h12 => ?_)
      · skip
        refine lv_iload (pc := 103) hx hb dX1_solutions_103 (lv_at hl 4 rfl) ?_
        exact hret _ _ _ _ _ (()) (by rw [hn, show x = P by omega]) hP hD hS dX1_solutions_105
      · skip
        refine nv_iconst (pc := 15) (k := 0) hx hb dX1_solutions_15 rfl ?_
        refine lv_istore (pc := 16) (lv' := [(6, .int (nI (0))), (0, .ref (ad 0)), (1, .int (zI (a))), (2, .int (zI (b))), (3, .int (zI (c9))), (4, .int (zI (n))), (5, .int (nI (x)))]) hx hb dX1_solutions_16 hl (by decide) rfl (fun ls hl => ?_)
        have L18 : ∀ (n9_18 : Nat), ∀ (y : Nat) (n2 : Int), P + 1 - y < n9_18 → (y ≤ P) → (n2 = eqS P D a b c9 x + eqR P D a b c9 x y) → ∀ (H : Heap) (locs : List Loc) (ls : Array Slot), va_P dd vwCl (wM ad cI cL (P) ((rootN P)) (D) ((phN D)) (ix) (ho) (re) (wk) (tu) (wa) (nx)) H → va_D A (wM ad cI cL (P) ((rootN P)) (D) ((phN D)) (ix) (ho) (re) (wk) (tu) (wa) (nx)) → va_S A s.heap H locs → lv_has ls 8 [(0, .ref (ad 0)), (1, .int (zI (a))), (2, .int (zI (b))), (3, .int (zI (c9))), (4, .int (zI (n2))), (5, .int (nI (x))), (6, .int (nI (y)))] → W p l e ({ frames := 1, cells := 0, slots := 0, locals := 23 } : Room) s m args below meth c H locs 0 0 Q (F0 m 18 ls []) := by
          intro n9_18
          induction n9_18 with
          | zero => intro y n2 hm; exact absurd hm (Nat.not_lt_zero _)
          | succ n9_18 ih_18 =>
            intro y n2 hm_18 hy9 hn2 H locs ls hP hD hS hl
            have hl1 := Nat.mod_lt (x ^ D) (show 0 < P by omega)
            have hl2 := Nat.mod_lt (y ^ D) (show 0 < P by omega)
            have hb1 := Nat.mul_le_mul (show fmN a P ≤ 199 by omega) (show x ^ D % P ≤ 199 by omega)
            have hb2 := Nat.mul_le_mul (show fmN b P ≤ 199 by omega) (show y ^ D % P ≤ 199 by omega)
            refine lv_iload (pc := 18) hx hb dX1_solutions_18 (lv_at hl 6 rfl) ?_
            refine lv_aload_n (pc := 20) hx hb dX1_solutions_20 rfl (lv_at hl 0 rfl) ?_
            refine va_get (pc := 21) (D := dd) (ci := 1) (v := .int (nI (P))) (C := RX1) (T := TX1) (N := 11) hx hb hts hin hown hK hP 0 rfl rfl 0 (by decide) (hts (.fieldLink RX1 42 "TurningSumsModel" "p" "I") (by decide +kernel)) (fun _ h9 => h9) rfl dX1_solutions_21 ?_
            refine nv_icmp_ge (pc := 24) (tgt := 97) hx hb (a := y) (b := P) (by omega) (by omega) dX1_solutions_24 (by decide) (fun h24 => ?_) (fun h24 => ?_)
            · skip
              refine lv_iinc (pc := 97) (v := nI ((x + 1))) (lv' := [(5, .int (nI ((x + 1)))), (0, .ref (ad 0)), (1, .int (zI (a))), (2, .int (zI (b))), (3, .int (zI (c9))), (4, .int (zI (n2))), (6, .int (nI (y)))]) hx hb dX1_solutions_97 hl (k := 5) rfl (nI_inc _) (by decide) rfl (fun ls hl => ?_)
              refine lv_goto (pc := 100) (tgt := 6) hx hb dX1_solutions_100 (by decide) ?_
              exact ih_6 ((x + 1)) (n2) (by omega) (by omega) (by rw [hn2, show y = P by omega]; rfl) _ _ _ hP hD hS (lv_sub hl [1, 2, 3, 4, 5, 0] rfl)
            · skip
              refine lv_iload_n (pc := 27) hx hb dX1_solutions_27 rfl (lv_at hl 1 rfl) ?_
              refine lv_i2l (pc := 28) (v := zL (a)) hx hb dX1_solutions_28 (zL_zI (by omega) (by omega)) ?_
              refine lv_aload_n (pc := 29) hx hb dX1_solutions_29 rfl (lv_at hl 0 rfl) ?_
              refine va_get (pc := 30) (D := dd) (ci := 1) (v := .int (nI (P))) (C := RX1) (T := TX1) (N := 11) hx hb hts hin hown hK hP 0 rfl rfl 0 (by decide) (hts (.fieldLink RX1 42 "TurningSumsModel" "p" "I") (by decide +kernel)) (fun _ h9 => h9) rfl dX1_solutions_30 ?_
              refine CTi_S0 (pc := 33) am_no_ok (As := [.long (zL (a)), .int (nI (P))]) (rest := []) ⟨hx, hb, hml, hown, hts⟩ (c_X1_rem l dd (by omega) (by omega) (by omega)) (va_cwS 2 hts gX1_solutions_X1_rem rfl rfl rfl (by decide +kernel) ⟨Nat.le_of_ble_eq_true rfl, Nat.le_of_ble_eq_true rfl⟩) hK hP hD hS hA hX rfl hl.1 rfl (Nat.le_of_ble_eq_true rfl) ⟨Nat.zero_le _, Nat.zero_le _⟩ dX1_solutions_33 (fun r u H locs hw hP hD hS => ?_)
              try dsimp only at hw
              subst hw
              refine lv_aload_n (pc := 36) hx hb dX1_solutions_36 rfl (lv_at hl 0 rfl) ?_
              refine lv_iload (pc := 37) hx hb dX1_solutions_37 (lv_at hl 5 rfl) ?_
              refine CTi_Vw (pc := 39) am_no_ok (As := [.int (nI (x))]) (rest := [.int (nI ((fmN ((a)) (P))))]) ⟨hx, hb, hml, hown, hts⟩ (c_X1_power l dd hP1 hD1 (by omega)) (cwV 1 hts gX1_solutions_X1_power rfl rfl rfl (by decide +kernel) ⟨Nat.le_of_ble_eq_true rfl, Nat.le_of_ble_eq_true rfl⟩) hK hP hD hS hA hX hK 0 1 rfl rfl rfl rfl hl.1 rfl (Nat.le_of_ble_eq_true rfl) ⟨Nat.zero_le _, Nat.zero_le _⟩ dX1_solutions_39 (fun r u H locs hw hP hD hS => ?_)
              try dsimp only at hw
              subst hw
              refine nv_imul (pc := 42) hx hb dX1_solutions_42 ?_
              refine lv_iload_n (pc := 43) hx hb dX1_solutions_43 rfl (lv_at hl 2 rfl) ?_
              refine lv_i2l (pc := 44) (v := zL (b)) hx hb dX1_solutions_44 (zL_zI (by omega) (by omega)) ?_
              refine lv_aload_n (pc := 45) hx hb dX1_solutions_45 rfl (lv_at hl 0 rfl) ?_
              refine va_get (pc := 46) (D := dd) (ci := 1) (v := .int (nI (P))) (C := RX1) (T := TX1) (N := 11) hx hb hts hin hown hK hP 0 rfl rfl 0 (by decide) (hts (.fieldLink RX1 42 "TurningSumsModel" "p" "I") (by decide +kernel)) (fun _ h9 => h9) rfl dX1_solutions_46 ?_
              refine CTi_S0 (pc := 49) am_no_ok (As := [.long (zL (b)), .int (nI (P))]) (rest := [.int (nI (((fmN ((a)) (P)) * ((x) ^ D % P))))]) ⟨hx, hb, hml, hown, hts⟩ (c_X1_rem l dd (by omega) (by omega) (by omega)) (va_cwS 2 hts gX1_solutions_X1_rem rfl rfl rfl (by decide +kernel) ⟨Nat.le_of_ble_eq_true rfl, Nat.le_of_ble_eq_true rfl⟩) hK hP hD hS hA hX rfl hl.1 rfl (Nat.le_of_ble_eq_true rfl) ⟨Nat.zero_le _, Nat.zero_le _⟩ dX1_solutions_49 (fun r u H locs hw hP hD hS => ?_)
              try dsimp only at hw
              subst hw
              refine lv_aload_n (pc := 52) hx hb dX1_solutions_52 rfl (lv_at hl 0 rfl) ?_
              refine lv_iload (pc := 53) hx hb dX1_solutions_53 (lv_at hl 6 rfl) ?_
              refine CTi_Vw (pc := 55) am_no_ok (As := [.int (nI (y))]) (rest := [.int (nI ((fmN ((b)) (P)))), .int (nI (((fmN ((a)) (P)) * ((x) ^ D % P))))]) ⟨hx, hb, hml, hown, hts⟩ (c_X1_power l dd hP1 hD1 (by omega)) (cwV 1 hts gX1_solutions_X1_power rfl rfl rfl (by decide +kernel) ⟨Nat.le_of_ble_eq_true rfl, Nat.le_of_ble_eq_true rfl⟩) hK hP hD hS hA hX hK 0 1 rfl rfl rfl rfl hl.1 rfl (Nat.le_of_ble_eq_true rfl) ⟨Nat.zero_le _, Nat.zero_le _⟩ dX1_solutions_55 (fun r u H locs hw hP hD hS => ?_)
              try dsimp only at hw
              subst hw
              refine nv_imul (pc := 58) hx hb dX1_solutions_58 ?_
              refine nv_iadd (pc := 59) hx hb dX1_solutions_59 ?_
              refine lv_istore (pc := 60) (lv' := [(7, .int (nI ((((fmN ((a)) (P)) * ((x) ^ D % P)) + ((fmN ((b)) (P)) * ((y) ^ D % P)))))), (0, .ref (ad 0)), (1, .int (zI (a))), (2, .int (zI (b))), (3, .int (zI (c9))), (4, .int (zI (n2))), (5, .int (nI (x))), (6, .int (nI (y)))]) hx hb dX1_solutions_60 hl (by decide) rfl (fun ls hl => ?_)
              refine lv_iload (pc := 62) hx hb dX1_solutions_62 (lv_at hl 5 rfl) ?_
              refine lv_iload (pc := 64) hx hb dX1_solutions_64 (lv_at hl 0 rfl) ?_
              refine lv_aload_n (pc := 66) hx hb dX1_solutions_66 rfl (lv_at hl 1 rfl) ?_
              refine va_get (pc := 67) (D := dd) (ci := 1) (v := .int (nI (P))) (C := RX1) (T := TX1) (N := 11) hx hb hts hin hown hK hP 0 rfl rfl 0 (by decide) (hts (.fieldLink RX1 42 "TurningSumsModel" "p" "I") (by decide +kernel)) (fun _ h9 => h9) rfl dX1_solutions_67 ?_
              refine nv_irem (pc := 70) hx hb (by omega) (by omega) (by omega) dX1_solutions_70 ?_
              refine lv_iload_n (pc := 71) hx hb dX1_solutions_71 rfl (lv_at hl 4 rfl) ?_
              refine lv_i2l (pc := 72) (v := zL (c9)) hx hb dX1_solutions_72 (zL_zI (by omega) (by omega)) ?_
              refine lv_aload_n (pc := 73) hx hb dX1_solutions_73 rfl (lv_at hl 1 rfl) ?_
              refine va_get (pc := 74) (D := dd) (ci := 1) (v := .int (nI (P))) (C := RX1) (T := TX1) (N := 11) hx hb hts hin hown hK hP 0 rfl rfl 0 (by decide) (hts (.fieldLink RX1 42 "TurningSumsModel" "p" "I") (by decide +kernel)) (fun _ h9 => h9) rfl dX1_solutions_74 ?_
              refine CTi_S0 (pc := 77) am_no_ok (As := [.long (zL (c9)), .int (nI (P))]) (rest := [.int (nI (((((fmN ((a)) (P)) * ((x) ^ D % P)) + ((fmN ((b)) (P)) * ((y) ^ D % P))) % P))), .int (zI (n2))]) ⟨hx, hb, hml, hown, hts⟩ (c_X1_rem l dd (by omega) (by omega) (by omega)) (va_cwS 2 hts gX1_solutions_X1_rem rfl rfl rfl (by decide +kernel) ⟨Nat.le_of_ble_eq_true rfl, Nat.le_of_ble_eq_true rfl⟩) hK hP hD hS hA hX rfl hl.1 rfl (Nat.le_of_ble_eq_true rfl) ⟨Nat.zero_le _, Nat.zero_le _⟩ dX1_solutions_77 (fun r u H locs hw hP hD hS => ?_)
              try dsimp only at hw
              subst hw
              refine nv_icmp_ne (pc := 80) (tgt := 87) hx hb (a := ((((fmN ((a)) (P)) * ((x) ^ D % P)) + ((fmN ((b)) (P)) * ((y) ^ D % P))) % P)) (b := (fmN ((c9)) (P))) (Nat.lt_trans (Nat.mod_lt _ (by omega)) (by omega)) (by omega) dX1_solutions_80 (by decide) (fun h80 => ?_) (fun h80 => ?_)
              · skip
                refine nv_iconst (pc := 87) (k := 0) hx hb dX1_solutions_87 rfl ?_
                refine zv_2 (pc := 88) (a := ((0 : Nat) : Int)) (b := n2) ((nI_zI _)) (rfl) ?_
                refine zv_iadd (pc := 88) hx hb dX1_solutions_88 ?_
                refine lv_istore (pc := 89) (lv' := [(4, .int (zI ((n2 + ((0 : Nat) : Int))))), (7, .int (nI ((((fmN ((a)) (P)) * ((x) ^ D % P)) + ((fmN ((b)) (P)) * ((y) ^ D % P)))))), (0, .ref (ad 0)), (1, .int (zI (a))), (2, .int (zI (b))), (3, .int (zI (c9))), (5, .int (nI (x))), (6, .int (nI (y)))]) hx hb dX1_solutions_89 hl (by decide) rfl (fun ls hl => ?_)
                refine lv_iinc (pc := 91) (v := nI ((y + 1))) (lv' := [(6, .int (nI ((y + 1)))), (4, .int (zI ((n2 + ((0 : Nat) : Int))))), (7, .int (nI ((((fmN ((a)) (P)) * ((x) ^ D % P)) + ((fmN ((b)) (P)) * ((y) ^ D % P)))))), (0, .ref (ad 0)), (1, .int (zI (a))), (2, .int (zI (b))), (3, .int (zI (c9))), (5, .int (nI (x)))]) hx hb dX1_solutions_91 hl (k := 7) rfl (nI_inc _) (by decide) rfl (fun ls hl => ?_)
                refine lv_goto (pc := 94) (tgt := 18) hx hb dX1_solutions_94 (by decide) ?_
                exact ih_18 ((y + 1)) ((n2 + ((0 : Nat) : Int))) (by omega) (by omega) (by have e := eqF_0 (x := x) (y := y) h80; show _ = eqS P D a b c9 x + (eqR P D a b c9 x y + eqF P D a b c9 x y); rw [e]; omega) _ _ _ hP hD hS (lv_sub hl [3, 4, 5, 6, 1, 7, 0] rfl)
              · skip
                refine nv_iconst (pc := 83) (k := 1) hx hb dX1_solutions_83 rfl ?_
                refine lv_goto (pc := 84) (tgt := 88) hx hb dX1_solutions_84 (by decide) ?_
                refine zv_2 (pc := 88) (a := ((1 : Nat) : Int)) (b := n2) ((nI_zI _)) (rfl) ?_
                refine zv_iadd (pc := 88) hx hb dX1_solutions_88 ?_
                refine lv_istore (pc := 89) (lv' := [(4, .int (zI ((n2 + ((1 : Nat) : Int))))), (7, .int (nI ((((fmN ((a)) (P)) * ((x) ^ D % P)) + ((fmN ((b)) (P)) * ((y) ^ D % P)))))), (0, .ref (ad 0)), (1, .int (zI (a))), (2, .int (zI (b))), (3, .int (zI (c9))), (5, .int (nI (x))), (6, .int (nI (y)))]) hx hb dX1_solutions_89 hl (by decide) rfl (fun ls hl => ?_)
                refine lv_iinc (pc := 91) (v := nI ((y + 1))) (lv' := [(6, .int (nI ((y + 1)))), (4, .int (zI ((n2 + ((1 : Nat) : Int))))), (7, .int (nI ((((fmN ((a)) (P)) * ((x) ^ D % P)) + ((fmN ((b)) (P)) * ((y) ^ D % P)))))), (0, .ref (ad 0)), (1, .int (zI (a))), (2, .int (zI (b))), (3, .int (zI (c9))), (5, .int (nI (x)))]) hx hb dX1_solutions_91 hl (k := 7) rfl (nI_inc _) (by decide) rfl (fun ls hl => ?_)
                refine lv_goto (pc := 94) (tgt := 18) hx hb dX1_solutions_94 (by decide) ?_
                exact ih_18 ((y + 1)) ((n2 + ((1 : Nat) : Int))) (by omega) (by omega) (by have e := eqF_1 (x := x) (y := y) h80; show _ = eqS P D a b c9 x + (eqR P D a b c9 x y + eqF P D a b c9 x y); rw [e]; omega) _ _ _ hP hD hS (lv_sub hl [3, 4, 5, 6, 1, 7, 0] rfl)
        exact L18 _ (0) (n) (Nat.lt_succ_self _) (by omega) (by rw [hn]; exact (Int.add_zero _).symm) _ _ _ hP hD hS (lv_sub hl [1, 2, 3, 4, 5, 6, 0] rfl)
  exact L6 _ (0) (0) (Nat.lt_succ_self _) (by omega) (rfl) _ _ _ hP hD hS (lv_sub hl [2, 3, 4, 5, 1, 0] rfl)
set_option maxHeartbeats 4000000 in
set_option maxRecDepth 100000 in
theorem c_X1_signOf (l : Launch) (dd : va_G) {ad : Nat → Nat} {cI cL cQ : ClassId}  {P : Nat} {D : Nat} {ix : Nat → Int32} {ho : Nat → Int64} {re : Nat → Int32} {wk : Nat → Int64} {tu : Nat → Int64} {wa : Nat → Int64} {nx : Nat → Int64} {b : Int} {ee : Int} {x : Nat} (hP1 : okP P) (hD1 : 1 ≤ D ∧ D ≤ 12) (hix : ∀ y, 1 ≤ y → y < P → ix y = nI (ixN P y)) (hxP : x < P) : CTi l yX1_signOf wsX1_signOf ({ frames := 1, cells := 0, slots := 0, locals := 21 } : Room) dd (tysA cI cL cQ) (am_no) [.ref (ad 0), .int (zI (b)), .int (zI (ee)), .int (nI (x))] (wM ad cI cL (P) ((rootN P)) (D) ((phN D)) (ix) (ho) (re) (wk) (tu) (wa) (nx)) (fun (r : Int32) (u : Unit) => r = zI (sgS P D b ee x)) (fun (_ : Unit) => (wM ad cI cL (P) ((rootN P)) (D) ((phN D)) (ix) (ho) (re) (wk) (tu) (wa) (nx))) := by
  refine CTi_of (cc := cX1_signOf) (maxL := 4) (by decide +kernel) rfl (Nat.le_of_ble_eq_true rfl) ?_
  intro p e s m args below meth c A Q ls H locs hx hb hts hown hml hP hK hD hS hA hX hl hret
  have hin : ∀ w ∈ wsX10, w ∈ wsX1_signOf := by decide +kernel
  have hl : lv_has ls 4 [(0, .ref (ad 0)), (1, .int (zI (b))), (2, .int (zI (ee))), (3, .int (nI (x)))] := hl
  obtain ⟨o1, o2, o3, o4, o5, o6⟩ := id hP1
  have hph := ph_rng D (by omega) hD1.1
  refine lv_iload_n (pc := 0) hx hb dX1_signOf_0 rfl (lv_at hl 3 rfl) ?_
  refine nv_if_ne (pc := 1) (tgt := 8) hx hb (a := x) (by omega) dX1_signOf_1 (by decide) (fun h1 => ?_) (fun h1 => ?_)
  · skip
    refine lv_iload_n (pc := 8) hx hb dX1_signOf_8 rfl (lv_at hl 1 rfl) ?_
    refine lv_aload_n (pc := 9) hx hb dX1_signOf_9 rfl (lv_at hl 0 rfl) ?_
    refine lv_iload_n (pc := 10) hx hb dX1_signOf_10 rfl (lv_at hl 3 rfl) ?_
    refine CTi_Vw (pc := 11) am_no_ok (As := [.int (nI (x))]) (rest := [.int (zI (b))]) ⟨hx, hb, hml, hown, hts⟩ (c_X1_classOf l dd ⟨o1, o2, hD1.1, hD1.2, hix⟩ (by omega) (by omega)) (cwV 1 hts gX1_signOf_X1_classOf rfl rfl rfl (by decide +kernel) ⟨Nat.le_of_ble_eq_true rfl, Nat.le_of_ble_eq_true rfl⟩) hK hP hD hS hA hX hK 0 1 rfl rfl rfl rfl hl.1 rfl (Nat.le_of_ble_eq_true rfl) ⟨Nat.zero_le _, Nat.zero_le _⟩ dX1_signOf_11 (fun r u H locs hw hP hD hS => ?_)
    try dsimp only at hw
    subst hw
    refine lv_ishr (pc := 14) hx hb dX1_signOf_14 ?_
    refine nv_iconst (pc := 15) (k := 1) hx hb dX1_signOf_15 rfl ?_
    refine lv_iand (pc := 16) hx hb dX1_signOf_16 ?_
    refine nv_iconst (pc := 17) (k := 1) hx hb dX1_signOf_17 rfl ?_
    refine lv_icmp_ne (pc := 18) (tgt := 25) hx hb dX1_signOf_18 (by decide) (fun h18 => ?_) (fun h18 => ?_)
    · skip
      refine lv_iconst (pc := 25) (v := zI (-1)) hx hb dX1_signOf_25 rfl ?_
      exact hret _ _ _ _ _ (()) (by rw [sg_m (by omega) h18]) hP hD hS dX1_signOf_26
    · skip
      refine nv_iconst (pc := 21) (k := 1) hx hb dX1_signOf_21 rfl ?_
      refine lv_goto (pc := 22) (tgt := 26) hx hb dX1_signOf_22 (by decide) ?_
      exact hret _ _ _ _ _ (()) (by rw [sg_p (by omega) h18]; rfl) hP hD hS dX1_signOf_26
  · skip
    refine lv_iload_n (pc := 4) hx hb dX1_signOf_4 rfl (lv_at hl 2 rfl) ?_
    refine lv_goto (pc := 5) (tgt := 26) hx hb dX1_signOf_5 (by decide) ?_
    exact hret _ _ _ _ _ (()) (by rw [h1]; rfl) hP hD hS dX1_signOf_26
set_option maxHeartbeats 4000000 in
set_option maxRecDepth 100000 in
theorem c_X1_overOf (l : Launch) (dd : va_G) {ad : Nat → Nat} {cI cL cQ : ClassId}  {P : Nat} {D : Nat} {ix : Nat → Int32} {ho : Nat → Int64} {re : Nat → Int32} {wk : Nat → Int64} {tu : Nat → Int64} {wa : Nat → Int64} {nx : Nat → Int64} {b : Int} {ee : Int} {t : Nat} (hP1 : okP P) (hD1 : 1 ≤ D ∧ D ≤ 12) (hix : ∀ y, 1 ≤ y → y < P → ix y = nI (ixN P y)) (ht9 : t < P) : CTi l yX1_overOf wsX1_overOf ({ frames := 2, cells := 0, slots := 0, locals := 44 } : Room) dd (tysA cI cL cQ) (am_no) [.ref (ad 0), .int (zI (b)), .int (zI (ee)), .int (nI (t))] (wM ad cI cL (P) ((rootN P)) (D) ((phN D)) (ix) (ho) (re) (wk) (tu) (wa) (nx)) (fun (r : Int32) (u : Unit) => r = zI (ovS P D b ee t P)) (fun (_ : Unit) => (wM ad cI cL (P) ((rootN P)) (D) ((phN D)) (ix) (ho) (re) (wk) (tu) (wa) (nx))) := by
  refine CTi_of (cc := cX1_overOf) (maxL := 6) (by decide +kernel) rfl (Nat.le_of_ble_eq_true rfl) ?_
  intro p e s m args below meth c A Q ls H locs hx hb hts hown hml hP hK hD hS hA hX hl hret
  have hin : ∀ w ∈ wsX10, w ∈ wsX1_overOf := by decide +kernel
  have hl : lv_has ls 6 [(0, .ref (ad 0)), (1, .int (zI (b))), (2, .int (zI (ee))), (3, .int (nI (t)))] := hl
  obtain ⟨o1, o2, o3, o4, o5, o6⟩ := id hP1
  have hph := ph_rng D (by omega) hD1.1
  refine nv_iconst (pc := 0) (k := 0) hx hb dX1_overOf_0 rfl ?_
  refine lv_istore (pc := 1) (lv' := [(4, .int (nI (0))), (0, .ref (ad 0)), (1, .int (zI (b))), (2, .int (zI (ee))), (3, .int (nI (t)))]) hx hb dX1_overOf_1 hl (by decide) rfl (fun ls hl => ?_)
  refine nv_iconst (pc := 3) (k := 0) hx hb dX1_overOf_3 rfl ?_
  refine lv_istore (pc := 4) (lv' := [(5, .int (nI (0))), (4, .int (nI (0))), (0, .ref (ad 0)), (1, .int (zI (b))), (2, .int (zI (ee))), (3, .int (nI (t)))]) hx hb dX1_overOf_4 hl (by decide) rfl (fun ls hl => ?_)
  have hl : lv_has ls 6 [(5, .int (nI (0))), (4, .int (zI (0))), (0, .ref (ad 0)), (1, .int (zI (b))), (2, .int (zI (ee))), (3, .int (nI (t)))] := by
    have e9 : nI (0) = zI (0) := rfl
    rw [← e9]
    exact hl
  have L6 : ∀ (n9_6 : Nat), ∀ (x : Nat) (al : Int), P + 1 - x < n9_6 → (x ≤ P) → (al = ovS P D b ee t x) → ∀ (H : Heap) (locs : List Loc) (ls : Array Slot), va_P dd vwCl (wM ad cI cL (P) ((rootN P)) (D) ((phN D)) (ix) (ho) (re) (wk) (tu) (wa) (nx)) H → va_D A (wM ad cI cL (P) ((rootN P)) (D) ((phN D)) (ix) (ho) (re) (wk) (tu) (wa) (nx)) → va_S A s.heap H locs → lv_has ls 6 [(0, .ref (ad 0)), (1, .int (zI (b))), (2, .int (zI (ee))), (3, .int (nI (t))), (4, .int (zI (al))), (5, .int (nI (x)))] → W p l e ({ frames := 2, cells := 0, slots := 0, locals := 44 } : Room) s m args below meth c H locs 0 0 Q (F0 m 6 ls []) := by
    intro n9_6
    induction n9_6 with
    | zero => intro x al hm; exact absurd hm (Nat.not_lt_zero _)
    | succ n9_6 ih_6 =>
      intro x al hm_6 hx9 hal H locs ls hP hD hS hl
      have hm := Nat.mod_lt (x + t) (show 0 < P by omega)
      refine lv_iload (pc := 6) hx hb dX1_overOf_6 (lv_at hl 5 rfl) ?_
      refine lv_aload_n (pc := 8) hx hb dX1_overOf_8 rfl (lv_at hl 0 rfl) ?_
      refine va_get (pc := 9) (D := dd) (ci := 1) (v := .int (nI (P))) (C := RX1) (T := TX1) (N := 11) hx hb hts hin hown hK hP 0 rfl rfl 0 (by decide) (hts (.fieldLink RX1 42 "TurningSumsModel" "p" "I") (by decide +kernel)) (fun _ h9 => h9) rfl dX1_overOf_9 ?_
      refine nv_icmp_ge (pc := 12) (tgt := 50) hx hb (a := x) (b := P) (by omega) (by omega) dX1_overOf_12 (by decide) (fun h12 => ?_) (fun h12 => ?_)
      · skip
        refine lv_iload (pc := 50) hx hb dX1_overOf_50 (lv_at hl 4 rfl) ?_
        exact hret _ _ _ _ _ (()) (by rw [hal, show x = P by omega]) hP hD hS dX1_overOf_52
      · skip
        refine lv_iload (pc := 15) hx hb dX1_overOf_15 (lv_at hl 4 rfl) ?_
        refine lv_aload_n (pc := 17) hx hb dX1_overOf_17 rfl (lv_at hl 0 rfl) ?_
        refine lv_iload_n (pc := 18) hx hb dX1_overOf_18 rfl (lv_at hl 1 rfl) ?_
        refine lv_iload_n (pc := 19) hx hb dX1_overOf_19 rfl (lv_at hl 2 rfl) ?_
        refine lv_iload (pc := 20) hx hb dX1_overOf_20 (lv_at hl 5 rfl) ?_
        refine CTi_Vw (pc := 22) am_no_ok (As := [.int (zI (b)), .int (zI (ee)), .int (nI (x))]) (rest := [.int (zI (al))]) ⟨hx, hb, hml, hown, hts⟩ (c_X1_signOf l dd hP1 hD1 hix (by omega)) (cwV 3 hts gX1_overOf_X1_signOf rfl rfl rfl (by decide +kernel) ⟨Nat.le_of_ble_eq_true rfl, Nat.le_of_ble_eq_true rfl⟩) hK hP hD hS hA hX hK 0 1 rfl rfl rfl rfl hl.1 rfl (Nat.le_of_ble_eq_true rfl) ⟨Nat.zero_le _, Nat.zero_le _⟩ dX1_overOf_22 (fun r u H locs hw hP hD hS => ?_)
        try dsimp only at hw
        subst hw
        refine lv_aload_n (pc := 25) hx hb dX1_overOf_25 rfl (lv_at hl 0 rfl) ?_
        refine lv_iload_n (pc := 26) hx hb dX1_overOf_26 rfl (lv_at hl 1 rfl) ?_
        refine lv_iload_n (pc := 27) hx hb dX1_overOf_27 rfl (lv_at hl 2 rfl) ?_
        refine lv_iload (pc := 28) hx hb dX1_overOf_28 (lv_at hl 5 rfl) ?_
        refine lv_iload_n (pc := 30) hx hb dX1_overOf_30 rfl (lv_at hl 3 rfl) ?_
        refine nv_iadd (pc := 31) hx hb dX1_overOf_31 ?_
        refine lv_aload_n (pc := 32) hx hb dX1_overOf_32 rfl (lv_at hl 0 rfl) ?_
        refine va_get (pc := 33) (D := dd) (ci := 1) (v := .int (nI (P))) (C := RX1) (T := TX1) (N := 11) hx hb hts hin hown hK hP 0 rfl rfl 0 (by decide) (hts (.fieldLink RX1 42 "TurningSumsModel" "p" "I") (by decide +kernel)) (fun _ h9 => h9) rfl dX1_overOf_33 ?_
        refine nv_irem (pc := 36) hx hb (by omega) (by omega) (by omega) dX1_overOf_36 ?_
        refine CTi_Vw (pc := 37) am_no_ok (As := [.int (zI (b)), .int (zI (ee)), .int (nI (((x + t) % P)))]) (rest := [.int (zI ((sgS P D b ee (x)))), .int (zI (al))]) ⟨hx, hb, hml, hown, hts⟩ (c_X1_signOf l dd hP1 hD1 hix hm) (cwV 3 hts gX1_overOf_X1_signOf rfl rfl rfl (by decide +kernel) ⟨Nat.le_of_ble_eq_true rfl, Nat.le_of_ble_eq_true rfl⟩) hK hP hD hS hA hX hK 0 1 rfl rfl rfl rfl hl.1 rfl (Nat.le_of_ble_eq_true rfl) ⟨Nat.zero_le _, Nat.zero_le _⟩ dX1_overOf_37 (fun r u H locs hw hP hD hS => ?_)
        try dsimp only at hw
        subst hw
        refine zv_imul (pc := 40) hx hb dX1_overOf_40 ?_
        refine zv_iadd (pc := 41) hx hb dX1_overOf_41 ?_
        refine lv_istore (pc := 42) (lv' := [(4, .int (zI ((al + ((sgS P D b ee (x)) * (sgS P D b ee (((x + t) % P)))))))), (0, .ref (ad 0)), (1, .int (zI (b))), (2, .int (zI (ee))), (3, .int (nI (t))), (5, .int (nI (x)))]) hx hb dX1_overOf_42 hl (by decide) rfl (fun ls hl => ?_)
        refine lv_iinc (pc := 44) (v := nI ((x + 1))) (lv' := [(5, .int (nI ((x + 1)))), (4, .int (zI ((al + ((sgS P D b ee (x)) * (sgS P D b ee (((x + t) % P)))))))), (0, .ref (ad 0)), (1, .int (zI (b))), (2, .int (zI (ee))), (3, .int (nI (t)))]) hx hb dX1_overOf_44 hl (k := 5) rfl (nI_inc _) (by decide) rfl (fun ls hl => ?_)
        refine lv_goto (pc := 47) (tgt := 6) hx hb dX1_overOf_47 (by decide) ?_
        exact ih_6 ((x + 1)) ((al + ((sgS P D b ee (x)) * (sgS P D b ee (((x + t) % P)))))) (by omega) (by omega) (by rw [hal]; rfl) _ _ _ hP hD hS (lv_sub hl [2, 3, 4, 5, 1, 0] rfl)
  exact L6 _ (0) (0) (Nat.lt_succ_self _) (by omega) (rfl) _ _ _ hP hD hS (lv_sub hl [2, 3, 4, 5, 1, 0] rfl)
set_option maxHeartbeats 4000000 in
set_option maxRecDepth 100000 in
theorem c_X1_over (l : Launch) (dd : va_G) {ad : Nat → Nat} {cI cL cQ : ClassId}  {P : Nat} {D : Nat} {ix : Nat → Int32} {ho : Nat → Int64} {re : Nat → Int32} {wk : Nat → Int64} {tu : Nat → Int64} {wa : Nat → Int64} {nx : Nat → Int64} {b : Int} {ee : Int} {t : Int} (hbr : -2147483648 ≤ b ∧ b < 2147483648) (her : -2147483648 ≤ ee ∧ ee < 2147483648) (htr : -2147483648 ≤ t ∧ t < 2147483648) (hP1 : okP P) (hD1 : 1 ≤ D ∧ D ≤ 12) (hix : ∀ y, 1 ≤ y → y < P → ix y = nI (ixN P y)) : CTi l yX1_over wsX1_over ({ frames := 3, cells := 0, slots := 0, locals := 69 } : Room) dd (tysA cI cL cQ) (am_no) [.ref (ad 0), .int (zI (b)), .int (zI (ee)), .int (zI (t))] (wM ad cI cL (P) ((rootN P)) (D) ((phN D)) (ix) (ho) (re) (wk) (tu) (wa) (nx)) (fun (r : Int32) (u : Unit) => r = overS P D b ee t) (fun (_ : Unit) => (wM ad cI cL (P) ((rootN P)) (D) ((phN D)) (ix) (ho) (re) (wk) (tu) (wa) (nx))) := by
  refine CTi_of (cc := cX1_over) (maxL := 4) (by decide +kernel) rfl (Nat.le_of_ble_eq_true rfl) ?_
  intro p e s m args below meth c A Q ls H locs hx hb hts hown hml hP hK hD hS hA hX hl hret
  have hin : ∀ w ∈ wsX10, w ∈ wsX1_over := by decide +kernel
  have hl : lv_has ls 4 [(0, .ref (ad 0)), (1, .int (zI (b))), (2, .int (zI (ee))), (3, .int (zI (t)))] := hl
  obtain ⟨o1, o2, o3, o4, o5, o6⟩ := id hP1
  have hph := ph_rng D (by omega) hD1.1
  have hm := fmN_lt t (show 0 < P by omega)
  refine lv_aload_n (pc := 0) hx hb dX1_over_0 rfl (lv_at hl 0 rfl) ?_
  refine lv_iload_n (pc := 1) hx hb dX1_over_1 rfl (lv_at hl 1 rfl) ?_
  refine CTi_Vw (pc := 2) am_no_ok (As := [.int (zI (b))]) (rest := []) ⟨hx, hb, hml, hown, hts⟩ (c_X1_isSet l dd (by omega) (by omega) (by omega)) (cwV 1 hts gX1_over_X1_isSet rfl rfl rfl (by decide +kernel) ⟨Nat.le_of_ble_eq_true rfl, Nat.le_of_ble_eq_true rfl⟩) hK hP hD hS hA hX hK 0 1 rfl rfl rfl rfl hl.1 rfl (Nat.le_of_ble_eq_true rfl) ⟨Nat.zero_le _, Nat.zero_le _⟩ dX1_over_2 (fun r u H locs hw hP hD hS => ?_)
  try dsimp only at hw
  subst hw
  refine bv_if_ne (pc := 5) (tgt := 11) hx hb dX1_over_5 (by decide) (fun h5 => ?_) (fun h5 => ?_)
  · skip
    refine lv_iload_n (pc := 11) hx hb dX1_over_11 rfl (lv_at hl 2 rfl) ?_
    refine CTi_S0 (pc := 12) am_no_ok (As := [.int (zI (ee))]) (rest := []) ⟨hx, hb, hml, hown, hts⟩ (c_X1_isSign l dd (by omega)) (va_cwS 1 hts gX1_over_X1_isSign rfl rfl rfl (by decide +kernel) ⟨Nat.le_of_ble_eq_true rfl, Nat.le_of_ble_eq_true rfl⟩) hK hP hD hS hA hX rfl hl.1 rfl (Nat.le_of_ble_eq_true rfl) ⟨Nat.zero_le _, Nat.zero_le _⟩ dX1_over_12 (fun r u H locs hw hP hD hS => ?_)
    try dsimp only at hw
    subst hw
    refine bv_if_eq (pc := 15) (tgt := 36) hx hb dX1_over_15 (by decide) (fun h15 => ?_) (fun h15 => ?_)
    · skip
      refine tq_ldc (pc := 36) (k := (-2147483648)) hx hb hown (hts (.constant RX1 106 (-2147483648)) (by decide +kernel)) dX1_over_36 ?_
      exact hret _ _ _ _ _ (()) (by unfold overS; rw [if_pos h5, if_neg h15]) hP hD hS dX1_over_38
    · skip
      refine lv_aload_n (pc := 18) hx hb dX1_over_18 rfl (lv_at hl 0 rfl) ?_
      refine lv_iload_n (pc := 19) hx hb dX1_over_19 rfl (lv_at hl 1 rfl) ?_
      refine lv_iload_n (pc := 20) hx hb dX1_over_20 rfl (lv_at hl 2 rfl) ?_
      refine lv_iload_n (pc := 21) hx hb dX1_over_21 rfl (lv_at hl 3 rfl) ?_
      refine lv_i2l (pc := 22) (v := zL (t)) hx hb dX1_over_22 (zL_zI (by omega) (by omega)) ?_
      refine lv_aload_n (pc := 23) hx hb dX1_over_23 rfl (lv_at hl 0 rfl) ?_
      refine va_get (pc := 24) (D := dd) (ci := 1) (v := .int (nI (P))) (C := RX1) (T := TX1) (N := 11) hx hb hts hin hown hK hP 0 rfl rfl 0 (by decide) (hts (.fieldLink RX1 42 "TurningSumsModel" "p" "I") (by decide +kernel)) (fun _ h9 => h9) rfl dX1_over_24 ?_
      refine CTi_S0 (pc := 27) am_no_ok (As := [.long (zL (t)), .int (nI (P))]) (rest := [.int (zI (ee)), .int (zI (b)), .ref (ad 0)]) ⟨hx, hb, hml, hown, hts⟩ (c_X1_rem l dd (by omega) (by omega) (by omega)) (va_cwS 2 hts gX1_over_X1_rem rfl rfl rfl (by decide +kernel) ⟨Nat.le_of_ble_eq_true rfl, Nat.le_of_ble_eq_true rfl⟩) hK hP hD hS hA hX rfl hl.1 rfl (Nat.le_of_ble_eq_true rfl) ⟨Nat.zero_le _, Nat.zero_le _⟩ dX1_over_27 (fun r u H locs hw hP hD hS => ?_)
      try dsimp only at hw
      subst hw
      refine CTi_Vw (pc := 30) am_no_ok (As := [.int (zI (b)), .int (zI (ee)), .int (nI ((fmN ((t)) (P))))]) (rest := []) ⟨hx, hb, hml, hown, hts⟩ (c_X1_overOf l dd hP1 hD1 hix (by omega)) (cwV 3 hts gX1_over_X1_overOf rfl rfl rfl (by decide +kernel) ⟨Nat.le_of_ble_eq_true rfl, Nat.le_of_ble_eq_true rfl⟩) hK hP hD hS hA hX hK 0 1 rfl rfl rfl rfl hl.1 rfl (Nat.le_of_ble_eq_true rfl) ⟨Nat.zero_le _, Nat.zero_le _⟩ dX1_over_30 (fun r u H locs hw hP hD hS => ?_)
      try dsimp only at hw
      subst hw
      refine lv_goto (pc := 33) (tgt := 38) hx hb dX1_over_33 (by decide) ?_
      exact hret _ _ _ _ _ (()) (by unfold overS; rw [if_pos h5, if_pos h15]) hP hD hS dX1_over_38
  · skip
    refine tq_ldc (pc := 8) (k := (-2147483648)) hx hb hown (hts (.constant RX1 106 (-2147483648)) (by decide +kernel)) dX1_over_8 ?_
    exact hret _ _ _ _ _ (()) (by unfold overS; rw [if_neg h5]) hP hD hS dX1_over_10
set_option maxHeartbeats 4000000 in
set_option maxRecDepth 100000 in
theorem c_X1_peak (l : Launch) (dd : va_G) {ad : Nat → Nat} {cI cL cQ : ClassId}  {P : Nat} {D : Nat} {ix : Nat → Int32} {ho : Nat → Int64} {re : Nat → Int32} {wk : Nat → Int64} {tu : Nat → Int64} {wa : Nat → Int64} {nx : Nat → Int64} {b : Int} {ee : Int} (hbr : -2147483648 ≤ b ∧ b < 2147483648) (her : -2147483648 ≤ ee ∧ ee < 2147483648) (hP1 : okP P) (hD1 : 1 ≤ D ∧ D ≤ 12) (hix : ∀ y, 1 ≤ y → y < P → ix y = nI (ixN P y)) : CTi l yX1_peak wsX1_peak ({ frames := 3, cells := 0, slots := 0, locals := 69 } : Room) dd (tysA cI cL cQ) (am_no) [.ref (ad 0), .int (zI (b)), .int (zI (ee))] (wM ad cI cL (P) ((rootN P)) (D) ((phN D)) (ix) (ho) (re) (wk) (tu) (wa) (nx)) (fun (r : Int32) (u : Unit) => r = peakS P D b ee) (fun (_ : Unit) => (wM ad cI cL (P) ((rootN P)) (D) ((phN D)) (ix) (ho) (re) (wk) (tu) (wa) (nx))) := by
  refine CTi_of (cc := cX1_peak) (maxL := 6) (by decide +kernel) rfl (Nat.le_of_ble_eq_true rfl) ?_
  intro p e s m args below meth c A Q ls H locs hx hb hts hown hml hP hK hD hS hA hX hl hret
  have hin : ∀ w ∈ wsX10, w ∈ wsX1_peak := by decide +kernel
  have hl : lv_has ls 6 [(0, .ref (ad 0)), (1, .int (zI (b))), (2, .int (zI (ee)))] := hl
  obtain ⟨o1, o2, o3, o4, o5, o6⟩ := id hP1
  have hph := ph_rng D (by omega) hD1.1
  refine lv_aload_n (pc := 0) hx hb dX1_peak_0 rfl (lv_at hl 0 rfl) ?_
  refine lv_iload_n (pc := 1) hx hb dX1_peak_1 rfl (lv_at hl 1 rfl) ?_
  refine CTi_Vw (pc := 2) am_no_ok (As := [.int (zI (b))]) (rest := []) ⟨hx, hb, hml, hown, hts⟩ (c_X1_isSet l dd (by omega) (by omega) (by omega)) (cwV 1 hts gX1_peak_X1_isSet rfl rfl rfl (by decide +kernel) ⟨Nat.le_of_ble_eq_true rfl, Nat.le_of_ble_eq_true rfl⟩) hK hP hD hS hA hX hK 0 1 rfl rfl rfl rfl hl.1 rfl (Nat.le_of_ble_eq_true rfl) ⟨Nat.zero_le _, Nat.zero_le _⟩ dX1_peak_2 (fun r u H locs hw hP hD hS => ?_)
  try dsimp only at hw
  subst hw
  refine bv_if_ne (pc := 5) (tgt := 11) hx hb dX1_peak_5 (by decide) (fun h5 => ?_) (fun h5 => ?_)
  · skip
    refine lv_iload_n (pc := 11) hx hb dX1_peak_11 rfl (lv_at hl 2 rfl) ?_
    refine CTi_S0 (pc := 12) am_no_ok (As := [.int (zI (ee))]) (rest := []) ⟨hx, hb, hml, hown, hts⟩ (c_X1_isSign l dd (by omega)) (va_cwS 1 hts gX1_peak_X1_isSign rfl rfl rfl (by decide +kernel) ⟨Nat.le_of_ble_eq_true rfl, Nat.le_of_ble_eq_true rfl⟩) hK hP hD hS hA hX rfl hl.1 rfl (Nat.le_of_ble_eq_true rfl) ⟨Nat.zero_le _, Nat.zero_le _⟩ dX1_peak_12 (fun r u H locs hw hP hD hS => ?_)
    try dsimp only at hw
    subst hw
    refine bv_if_ne (pc := 15) (tgt := 21) hx hb dX1_peak_15 (by decide) (fun h15 => ?_) (fun h15 => ?_)
    · skip
      refine nv_iconst (pc := 21) (k := 0) hx hb dX1_peak_21 rfl ?_
      refine lv_istore_n (pc := 22) (lv' := [(3, .int (nI (0))), (0, .ref (ad 0)), (1, .int (zI (b))), (2, .int (zI (ee)))]) hx hb dX1_peak_22 rfl hl (by decide) rfl (fun ls hl => ?_)
      refine nv_iconst (pc := 23) (k := 1) hx hb dX1_peak_23 rfl ?_
      refine lv_istore (pc := 24) (lv' := [(4, .int (nI (1))), (3, .int (nI (0))), (0, .ref (ad 0)), (1, .int (zI (b))), (2, .int (zI (ee)))]) hx hb dX1_peak_24 hl (by decide) rfl (fun ls hl => ?_)
      have hl : lv_has ls 6 [(4, .int (nI (1))), (3, .int (zI (0))), (0, .ref (ad 0)), (1, .int (zI (b))), (2, .int (zI (ee)))] := by
        have e9 : nI (0) = zI (0) := rfl
        rw [← e9]
        exact hl
      have L26 : ∀ (n9_26 : Nat), ∀ (t : Nat) (mo : Int), P + 1 - t < n9_26 → (1 ≤ t ∧ t ≤ P) → (mo = pkS P D b ee t) → ∀ (H : Heap) (locs : List Loc) (ls : Array Slot), va_P dd vwCl (wM ad cI cL (P) ((rootN P)) (D) ((phN D)) (ix) (ho) (re) (wk) (tu) (wa) (nx)) H → va_D A (wM ad cI cL (P) ((rootN P)) (D) ((phN D)) (ix) (ho) (re) (wk) (tu) (wa) (nx)) → va_S A s.heap H locs → lv_has ls 6 [(0, .ref (ad 0)), (1, .int (zI (b))), (2, .int (zI (ee))), (3, .int (zI (mo))), (4, .int (nI (t)))] → W p l e ({ frames := 3, cells := 0, slots := 0, locals := 69 } : Room) s m args below meth c H locs 0 0 Q (F0 m 26 ls []) := by
        intro n9_26
        induction n9_26 with
        | zero => intro t mo hm; exact absurd hm (Nat.not_lt_zero _)
        | succ n9_26 ih_26 =>
          intro t mo hm_26 ht9 hmo H locs ls hP hD hS hl
          have hg9 := pkS_rng (P := P) (D := D) (b := b) h15 t
          have ha9 := ab_rng (P := P) (D := D) (b := b) (t := t) h15
          have hv9 := ov_rng (P := P) (D := D) (b := b) (t := t) (n := P) h15
          refine lv_iload (pc := 26) hx hb dX1_peak_26 (lv_at hl 4 rfl) ?_
          refine lv_aload_n (pc := 28) hx hb dX1_peak_28 rfl (lv_at hl 0 rfl) ?_
          refine va_get (pc := 29) (D := dd) (ci := 1) (v := .int (nI (P))) (C := RX1) (T := TX1) (N := 11) hx hb hts hin hown hK hP 0 rfl rfl 0 (by decide) (hts (.fieldLink RX1 42 "TurningSumsModel" "p" "I") (by decide +kernel)) (fun _ h9 => h9) rfl dX1_peak_29 ?_
          refine nv_icmp_ge (pc := 32) (tgt := 79) hx hb (a := t) (b := P) (by omega) (by omega) dX1_peak_32 (by decide) (fun h32 => ?_) (fun h32 => ?_)
          · skip
            refine lv_iload_n (pc := 79) hx hb dX1_peak_79 rfl (lv_at hl 3 rfl) ?_
            exact hret _ _ _ _ _ (()) (by unfold peakS; rw [if_pos h5, if_pos h15, hmo, show t = P by omega]) hP hD hS dX1_peak_80
          · skip
            refine lv_aload_n (pc := 35) hx hb dX1_peak_35 rfl (lv_at hl 0 rfl) ?_
            refine lv_iload_n (pc := 36) hx hb dX1_peak_36 rfl (lv_at hl 1 rfl) ?_
            refine lv_iload_n (pc := 37) hx hb dX1_peak_37 rfl (lv_at hl 2 rfl) ?_
            refine lv_iload (pc := 38) hx hb dX1_peak_38 (lv_at hl 4 rfl) ?_
            refine CTi_Vw (pc := 40) am_no_ok (As := [.int (zI (b)), .int (zI (ee)), .int (nI (t))]) (rest := []) ⟨hx, hb, hml, hown, hts⟩ (c_X1_overOf l dd hP1 hD1 hix (by omega)) (cwV 3 hts gX1_peak_X1_overOf rfl rfl rfl (by decide +kernel) ⟨Nat.le_of_ble_eq_true rfl, Nat.le_of_ble_eq_true rfl⟩) hK hP hD hS hA hX hK 0 1 rfl rfl rfl rfl hl.1 rfl (Nat.le_of_ble_eq_true rfl) ⟨Nat.zero_le _, Nat.zero_le _⟩ dX1_peak_40 (fun r u H locs hw hP hD hS => ?_)
            try dsimp only at hw
            subst hw
            refine lv_istore (pc := 43) (lv' := [(5, .int (zI ((ovS P D b ee (t) P)))), (0, .ref (ad 0)), (1, .int (zI (b))), (2, .int (zI (ee))), (3, .int (zI (mo))), (4, .int (nI (t)))]) hx hb dX1_peak_43 hl (by decide) rfl (fun ls hl => ?_)
            refine lv_iload (pc := 45) hx hb dX1_peak_45 (lv_at hl 0 rfl) ?_
            refine zv_if_ge (pc := 47) (tgt := 56) hx hb (by omega) dX1_peak_47 (by decide) (fun h47 => ?_) (fun h47 => ?_)
            · skip
              refine lv_iload (pc := 56) hx hb dX1_peak_56 (lv_at hl 0 rfl) ?_
              refine tq_i (y := zI ((abI (ovS P D b ee t P)))) (by unfold abI; first | rw [if_neg (by omega)] | rw [if_pos (by omega)]) ?_
              refine lv_istore (pc := 58) (lv' := [(5, .int (zI ((abI (ovS P D b ee t P))))), (0, .ref (ad 0)), (1, .int (zI (b))), (2, .int (zI (ee))), (3, .int (zI (mo))), (4, .int (nI (t)))]) hx hb dX1_peak_58 hl (by decide) rfl (fun ls hl => ?_)
              refine lv_iload (pc := 60) hx hb dX1_peak_60 (lv_at hl 0 rfl) ?_
              refine lv_iload_n (pc := 62) hx hb dX1_peak_62 rfl (lv_at hl 4 rfl) ?_
              refine zv_icmp_le (pc := 63) (tgt := 71) hx hb (by omega) (by omega) dX1_peak_63 (by decide) (fun h63 => ?_) (fun h63 => ?_)
              · skip
                refine lv_iload_n (pc := 71) hx hb dX1_peak_71 rfl (lv_at hl 4 rfl) ?_
                refine lv_istore_n (pc := 72) (lv' := [(3, .int (zI (mo))), (5, .int (zI ((abI (ovS P D b ee t P))))), (0, .ref (ad 0)), (1, .int (zI (b))), (2, .int (zI (ee))), (4, .int (nI (t)))]) hx hb dX1_peak_72 rfl hl (by decide) rfl (fun ls hl => ?_)
                refine lv_iinc (pc := 73) (v := nI ((t + 1))) (lv' := [(4, .int (nI ((t + 1)))), (3, .int (zI (mo))), (5, .int (zI ((abI (ovS P D b ee t P))))), (0, .ref (ad 0)), (1, .int (zI (b))), (2, .int (zI (ee)))]) hx hb dX1_peak_73 hl (k := 5) rfl (nI_inc _) (by decide) rfl (fun ls hl => ?_)
                refine lv_goto (pc := 76) (tgt := 26) hx hb dX1_peak_76 (by decide) ?_
                exact ih_26 ((t + 1)) (mo) (by omega) (by omega) (by rw [pkS_0 ht9.1 (by omega)]; exact hmo) _ _ _ hP hD hS (lv_sub hl [3, 4, 5, 1, 0] rfl)
              · skip
                refine lv_iload (pc := 66) hx hb dX1_peak_66 (lv_at hl 0 rfl) ?_
                refine lv_goto (pc := 68) (tgt := 72) hx hb dX1_peak_68 (by decide) ?_
                refine lv_istore_n (pc := 72) (lv' := [(3, .int (zI ((abI (ovS P D b ee t P))))), (5, .int (zI ((abI (ovS P D b ee t P))))), (0, .ref (ad 0)), (1, .int (zI (b))), (2, .int (zI (ee))), (4, .int (nI (t)))]) hx hb dX1_peak_72 rfl hl (by decide) rfl (fun ls hl => ?_)
                refine lv_iinc (pc := 73) (v := nI ((t + 1))) (lv' := [(4, .int (nI ((t + 1)))), (3, .int (zI ((abI (ovS P D b ee t P))))), (5, .int (zI ((abI (ovS P D b ee t P))))), (0, .ref (ad 0)), (1, .int (zI (b))), (2, .int (zI (ee)))]) hx hb dX1_peak_73 hl (k := 5) rfl (nI_inc _) (by decide) rfl (fun ls hl => ?_)
                refine lv_goto (pc := 76) (tgt := 26) hx hb dX1_peak_76 (by decide) ?_
                exact ih_26 ((t + 1)) ((abI (ovS P D b ee t P))) (by omega) (by omega) (by rw [pkS_1 ht9.1 (by omega)]) _ _ _ hP hD hS (lv_sub hl [3, 4, 5, 1, 0] rfl)
            · skip
              refine lv_iload (pc := 50) hx hb dX1_peak_50 (lv_at hl 0 rfl) ?_
              refine zv_ineg (pc := 52) hx hb dX1_peak_52 ?_
              refine lv_goto (pc := 53) (tgt := 58) hx hb dX1_peak_53 (by decide) ?_
              refine tq_i (y := zI ((abI (ovS P D b ee t P)))) (by unfold abI; first | rw [if_neg (by omega)] | rw [if_pos (by omega)]) ?_
              refine lv_istore (pc := 58) (lv' := [(5, .int (zI ((abI (ovS P D b ee t P))))), (0, .ref (ad 0)), (1, .int (zI (b))), (2, .int (zI (ee))), (3, .int (zI (mo))), (4, .int (nI (t)))]) hx hb dX1_peak_58 hl (by decide) rfl (fun ls hl => ?_)
              refine lv_iload (pc := 60) hx hb dX1_peak_60 (lv_at hl 0 rfl) ?_
              refine lv_iload_n (pc := 62) hx hb dX1_peak_62 rfl (lv_at hl 4 rfl) ?_
              refine zv_icmp_le (pc := 63) (tgt := 71) hx hb (by omega) (by omega) dX1_peak_63 (by decide) (fun h63 => ?_) (fun h63 => ?_)
              · skip
                refine lv_iload_n (pc := 71) hx hb dX1_peak_71 rfl (lv_at hl 4 rfl) ?_
                refine lv_istore_n (pc := 72) (lv' := [(3, .int (zI (mo))), (5, .int (zI ((abI (ovS P D b ee t P))))), (0, .ref (ad 0)), (1, .int (zI (b))), (2, .int (zI (ee))), (4, .int (nI (t)))]) hx hb dX1_peak_72 rfl hl (by decide) rfl (fun ls hl => ?_)
                refine lv_iinc (pc := 73) (v := nI ((t + 1))) (lv' := [(4, .int (nI ((t + 1)))), (3, .int (zI (mo))), (5, .int (zI ((abI (ovS P D b ee t P))))), (0, .ref (ad 0)), (1, .int (zI (b))), (2, .int (zI (ee)))]) hx hb dX1_peak_73 hl (k := 5) rfl (nI_inc _) (by decide) rfl (fun ls hl => ?_)
                refine lv_goto (pc := 76) (tgt := 26) hx hb dX1_peak_76 (by decide) ?_
                exact ih_26 ((t + 1)) (mo) (by omega) (by omega) (by rw [pkS_0 ht9.1 (by omega)]; exact hmo) _ _ _ hP hD hS (lv_sub hl [3, 4, 5, 1, 0] rfl)
              · skip
                refine lv_iload (pc := 66) hx hb dX1_peak_66 (lv_at hl 0 rfl) ?_
                refine lv_goto (pc := 68) (tgt := 72) hx hb dX1_peak_68 (by decide) ?_
                refine lv_istore_n (pc := 72) (lv' := [(3, .int (zI ((abI (ovS P D b ee t P))))), (5, .int (zI ((abI (ovS P D b ee t P))))), (0, .ref (ad 0)), (1, .int (zI (b))), (2, .int (zI (ee))), (4, .int (nI (t)))]) hx hb dX1_peak_72 rfl hl (by decide) rfl (fun ls hl => ?_)
                refine lv_iinc (pc := 73) (v := nI ((t + 1))) (lv' := [(4, .int (nI ((t + 1)))), (3, .int (zI ((abI (ovS P D b ee t P))))), (5, .int (zI ((abI (ovS P D b ee t P))))), (0, .ref (ad 0)), (1, .int (zI (b))), (2, .int (zI (ee)))]) hx hb dX1_peak_73 hl (k := 5) rfl (nI_inc _) (by decide) rfl (fun ls hl => ?_)
                refine lv_goto (pc := 76) (tgt := 26) hx hb dX1_peak_76 (by decide) ?_
                exact ih_26 ((t + 1)) ((abI (ovS P D b ee t P))) (by omega) (by omega) (by rw [pkS_1 ht9.1 (by omega)]) _ _ _ hP hD hS (lv_sub hl [3, 4, 5, 1, 0] rfl)
      exact L26 _ (1) (0) (Nat.lt_succ_self _) (by omega) (rfl) _ _ _ hP hD hS (lv_sub hl [2, 3, 4, 1, 0] rfl)
    · skip
      refine lv_bipush (pc := 18) (v := zI (-3)) hx hb dX1_peak_18 (by decide) ?_
      exact hret _ _ _ _ _ (()) (by unfold peakS; rw [if_pos h5, if_neg h15]) hP hD hS dX1_peak_20
  · skip
    refine lv_bipush (pc := 8) (v := zI (-2)) hx hb dX1_peak_8 (by decide) ?_
    exact hret _ _ _ _ _ (()) (by unfold peakS; rw [if_neg h5]) hP hD hS dX1_peak_10
set_option maxHeartbeats 4000000 in
set_option maxRecDepth 100000 in
theorem c_X1_even (l : Launch) (dd : va_G) {ad : Nat → Nat} {cI cL cQ : ClassId}  {P : Nat} {D : Nat} {ix : Nat → Int32} {ho : Nat → Int64} {re : Nat → Int32} {wk : Nat → Int64} {tu : Nat → Int64} {wa : Nat → Int64} {nx : Nat → Int64} {b : Int} (hbr : -2147483648 ≤ b ∧ b < 2147483648) (hP1 : okP P) (hD1 : 1 ≤ D ∧ D ≤ 12) (hix : ∀ y, 1 ≤ y → y < P → ix y = nI (ixN P y)) : CTi l yX1_even wsX1_even ({ frames := 2, cells := 0, slots := 0, locals := 46 } : Room) dd (tysA cI cL cQ) (am_no) [.ref (ad 0), .int (zI (b))] (wM ad cI cL (P) ((rootN P)) (D) ((phN D)) (ix) (ho) (re) (wk) (tu) (wa) (nx)) (fun (r : Int32) (u : Unit) => (¬ (0 ≤ b ∧ b < ((2 ^ D : Nat) : Int)) ∧ r = zI (-2)) ∨ ((0 ≤ b ∧ b < ((2 ^ D : Nat) : Int)) ∧ evA P D b ∧ r = zI (dfS P D b 1 P)) ∨ ((0 ≤ b ∧ b < ((2 ^ D : Nat) : Int)) ∧ ¬ evA P D b ∧ r = zI (-1))) (fun (_ : Unit) => (wM ad cI cL (P) ((rootN P)) (D) ((phN D)) (ix) (ho) (re) (wk) (tu) (wa) (nx))) := by
  refine CTi_of (cc := cX1_even) (maxL := 7) (by decide +kernel) rfl (Nat.le_of_ble_eq_true rfl) ?_
  intro p e s m args below meth c A Q ls H locs hx hb hts hown hml hP hK hD hS hA hX hl hret
  have hin : ∀ w ∈ wsX10, w ∈ wsX1_even := by decide +kernel
  have hl : lv_has ls 7 [(0, .ref (ad 0)), (1, .int (zI (b)))] := hl
  obtain ⟨o1, o2, o3, o4, o5, o6⟩ := id hP1
  have hph := ph_rng D (by omega) hD1.1
  refine lv_aload_n (pc := 0) hx hb dX1_even_0 rfl (lv_at hl 0 rfl) ?_
  refine lv_iload_n (pc := 1) hx hb dX1_even_1 rfl (lv_at hl 1 rfl) ?_
  refine CTi_Vw (pc := 2) am_no_ok (As := [.int (zI (b))]) (rest := []) ⟨hx, hb, hml, hown, hts⟩ (c_X1_isSet l dd (by omega) (by omega) (by omega)) (cwV 1 hts gX1_even_X1_isSet rfl rfl rfl (by decide +kernel) ⟨Nat.le_of_ble_eq_true rfl, Nat.le_of_ble_eq_true rfl⟩) hK hP hD hS hA hX hK 0 1 rfl rfl rfl rfl hl.1 rfl (Nat.le_of_ble_eq_true rfl) ⟨Nat.zero_le _, Nat.zero_le _⟩ dX1_even_2 (fun r u H locs hw hP hD hS => ?_)
  try dsimp only at hw
  subst hw
  refine bv_if_ne (pc := 5) (tgt := 11) hx hb dX1_even_5 (by decide) (fun h5 => ?_) (fun h5 => ?_)
  · skip
    refine lv_iconst (pc := 11) (v := zI (-1)) hx hb dX1_even_11 rfl ?_
    refine lv_istore_n (pc := 12) (lv' := [(2, .int (zI ((-1)))), (0, .ref (ad 0)), (1, .int (zI (b)))]) hx hb dX1_even_12 rfl hl (by decide) rfl (fun ls hl => ?_)
    refine nv_iconst (pc := 13) (k := 1) hx hb dX1_even_13 rfl ?_
    refine lv_istore_n (pc := 14) (lv' := [(3, .int (nI (1))), (2, .int (zI ((-1)))), (0, .ref (ad 0)), (1, .int (zI (b)))]) hx hb dX1_even_14 rfl hl (by decide) rfl (fun ls hl => ?_)
    have L15 : ∀ (n9_15 : Nat), ∀ (t : Nat) (of9 : Int), P + 1 - t < n9_15 → (1 ≤ t ∧ t ≤ P) → ((t = 1 ∧ of9 = -1) ∨ (1 < t ∧ of9 = dfS P D b 1 P ∧ ∀ q, 1 ≤ q → q < t → dfS P D b q P = dfS P D b 1 P)) → ∀ (H : Heap) (locs : List Loc) (ls : Array Slot), va_P dd vwCl (wM ad cI cL (P) ((rootN P)) (D) ((phN D)) (ix) (ho) (re) (wk) (tu) (wa) (nx)) H → va_D A (wM ad cI cL (P) ((rootN P)) (D) ((phN D)) (ix) (ho) (re) (wk) (tu) (wa) (nx)) → va_S A s.heap H locs → lv_has ls 7 [(0, .ref (ad 0)), (1, .int (zI (b))), (2, .int (zI (of9))), (3, .int (nI (t)))] → W p l e ({ frames := 2, cells := 0, slots := 0, locals := 46 } : Room) s m args below meth c H locs 0 0 Q (F0 m 15 ls []) := by
      intro n9_15
      induction n9_15 with
      | zero => intro t of9 hm; exact absurd hm (Nat.not_lt_zero _)
      | succ n9_15 ih_15 =>
        intro t of9 hm_15 ht9 hof H locs ls hP hD hS hl
        refine lv_iload_n (pc := 15) hx hb dX1_even_15 rfl (lv_at hl 3 rfl) ?_
        refine lv_aload_n (pc := 16) hx hb dX1_even_16 rfl (lv_at hl 0 rfl) ?_
        refine va_get (pc := 17) (D := dd) (ci := 1) (v := .int (nI (P))) (C := RX1) (T := TX1) (N := 11) hx hb hts hin hown hK hP 0 rfl rfl 0 (by decide) (hts (.fieldLink RX1 42 "TurningSumsModel" "p" "I") (by decide +kernel)) (fun _ h9 => h9) rfl dX1_even_17 ?_
        refine nv_icmp_ge (pc := 20) (tgt := 120) hx hb (a := t) (b := P) (by omega) (by omega) dX1_even_20 (by decide) (fun h20 => ?_) (fun h20 => ?_)
        · skip
          refine lv_iload_n (pc := 120) hx hb dX1_even_120 rfl (lv_at hl 2 rfl) ?_
          exact hret _ _ _ _ _ (()) (by rcases hof with z | z; omega; exact Or.inr (Or.inl ⟨h5, fun q w1 w2 => z.2.2 q w1 (by omega), by rw [z.2.1]⟩)) hP hD hS dX1_even_121
        · skip
          refine nv_iconst (pc := 23) (k := 0) hx hb dX1_even_23 rfl ?_
          refine lv_istore (pc := 24) (lv' := [(4, .int (nI (0))), (0, .ref (ad 0)), (1, .int (zI (b))), (2, .int (zI (of9))), (3, .int (nI (t)))]) hx hb dX1_even_24 hl (by decide) rfl (fun ls hl => ?_)
          refine nv_iconst (pc := 26) (k := 1) hx hb dX1_even_26 rfl ?_
          refine lv_istore (pc := 27) (lv' := [(5, .int (nI (1))), (4, .int (nI (0))), (0, .ref (ad 0)), (1, .int (zI (b))), (2, .int (zI (of9))), (3, .int (nI (t)))]) hx hb dX1_even_27 hl (by decide) rfl (fun ls hl => ?_)
          have hl : lv_has ls 7 [(5, .int (nI (1))), (4, .int (zI (0))), (0, .ref (ad 0)), (1, .int (zI (b))), (2, .int (zI (of9))), (3, .int (nI (t)))] := by
            have e9 : nI (0) = zI (0) := rfl
            rw [← e9]
            exact hl
          have L29 : ∀ (n9_29 : Nat), ∀ (x : Nat) (n2 : Int), P + 1 - x < n9_29 → (1 ≤ x ∧ x ≤ P) → (n2 = dfS P D b t x) → ∀ (H : Heap) (locs : List Loc) (ls : Array Slot), va_P dd vwCl (wM ad cI cL (P) ((rootN P)) (D) ((phN D)) (ix) (ho) (re) (wk) (tu) (wa) (nx)) H → va_D A (wM ad cI cL (P) ((rootN P)) (D) ((phN D)) (ix) (ho) (re) (wk) (tu) (wa) (nx)) → va_S A s.heap H locs → lv_has ls 7 [(0, .ref (ad 0)), (1, .int (zI (b))), (2, .int (zI (of9))), (3, .int (nI (t))), (4, .int (zI (n2))), (5, .int (nI (x)))] → W p l e ({ frames := 2, cells := 0, slots := 0, locals := 46 } : Room) s m args below meth c H locs 0 0 Q (F0 m 29 ls []) := by
            intro n9_29
            induction n9_29 with
            | zero => intro x n2 hm; exact absurd hm (Nat.not_lt_zero _)
            | succ n9_29 ih_29 =>
              intro x n2 hm_29 hx9 hn2 H locs ls hP hD hS hl
              have hm := Nat.mod_lt (x + t) (show 0 < P by omega)
              have hr9 := df_rng (P := P) (D := D) (b := b) (t := t) x
              refine lv_iload (pc := 29) hx hb dX1_even_29 (lv_at hl 5 rfl) ?_
              refine lv_aload_n (pc := 31) hx hb dX1_even_31 rfl (lv_at hl 0 rfl) ?_
              refine va_get (pc := 32) (D := dd) (ci := 1) (v := .int (nI (P))) (C := RX1) (T := TX1) (N := 11) hx hb hts hin hown hK hP 0 rfl rfl 0 (by decide) (hts (.fieldLink RX1 42 "TurningSumsModel" "p" "I") (by decide +kernel)) (fun _ h9 => h9) rfl dX1_even_32 ?_
              refine nv_icmp_ge (pc := 35) (tgt := 98) hx hb (a := x) (b := P) (by omega) (by omega) dX1_even_35 (by decide) (fun h35 => ?_) (fun h35 => ?_)
              · skip
                have hr8 := df_rng (P := P) (D := D) (b := b) (t := 1) P
                have ho8 : -1 ≤ of9 ∧ of9 ≤ 199 := (by omega)
                refine lv_iload_n (pc := 98) hx hb dX1_even_98 rfl (lv_at hl 3 rfl) ?_
                refine nv_iconst (pc := 99) (k := 1) hx hb dX1_even_99 rfl ?_
                refine nv_icmp_le (pc := 100) (tgt := 111) hx hb (a := t) (b := 1) (by omega) (by omega) dX1_even_100 (by decide) (fun h100 => ?_) (fun h100 => ?_)
                · skip
                  refine lv_iload (pc := 111) hx hb dX1_even_111 (lv_at hl 4 rfl) ?_
                  refine lv_istore_n (pc := 113) (lv' := [(2, .int (zI (n2))), (0, .ref (ad 0)), (1, .int (zI (b))), (3, .int (nI (t))), (4, .int (zI (n2))), (5, .int (nI (x)))]) hx hb dX1_even_113 rfl hl (by decide) rfl (fun ls hl => ?_)
                  refine lv_iinc (pc := 114) (v := nI ((t + 1))) (lv' := [(3, .int (nI ((t + 1)))), (2, .int (zI (n2))), (0, .ref (ad 0)), (1, .int (zI (b))), (4, .int (zI (n2))), (5, .int (nI (x)))]) hx hb dX1_even_114 hl (k := 3) rfl (nI_inc _) (by decide) rfl (fun ls hl => ?_)
                  refine lv_goto (pc := 117) (tgt := 15) hx hb dX1_even_117 (by decide) ?_
                  exact ih_15 ((t + 1)) (n2) (by omega) (by omega) (Or.inr ⟨by omega, by rw [hn2, show x = P by omega, show t = 1 by omega], fun q z w => by rw [show q = 1 by omega]⟩) _ _ _ hP hD hS (lv_sub hl [2, 3, 1, 0] rfl)
                · skip
                  refine lv_iload (pc := 103) hx hb dX1_even_103 (lv_at hl 4 rfl) ?_
                  refine lv_iload_n (pc := 105) hx hb dX1_even_105 rfl (lv_at hl 2 rfl) ?_
                  refine zv_icmp_eq (pc := 106) (tgt := 111) hx hb (by omega) (by omega) dX1_even_106 (by decide) (fun h106 => ?_) (fun h106 => ?_)
                  · skip
                    refine lv_iload (pc := 111) hx hb dX1_even_111 (lv_at hl 4 rfl) ?_
                    refine lv_istore_n (pc := 113) (lv' := [(2, .int (zI (n2))), (0, .ref (ad 0)), (1, .int (zI (b))), (3, .int (nI (t))), (4, .int (zI (n2))), (5, .int (nI (x)))]) hx hb dX1_even_113 rfl hl (by decide) rfl (fun ls hl => ?_)
                    refine lv_iinc (pc := 114) (v := nI ((t + 1))) (lv' := [(3, .int (nI ((t + 1)))), (2, .int (zI (n2))), (0, .ref (ad 0)), (1, .int (zI (b))), (4, .int (zI (n2))), (5, .int (nI (x)))]) hx hb dX1_even_114 hl (k := 3) rfl (nI_inc _) (by decide) rfl (fun ls hl => ?_)
                    refine lv_goto (pc := 117) (tgt := 15) hx hb dX1_even_117 (by decide) ?_
                    exact ih_15 ((t + 1)) (n2) (by omega) (by omega) (by rcases hof with z | z; omega; exact Or.inr ⟨by omega, by omega, fun q w1 w2 => (Nat.lt_or_ge q t).elim (fun w => z.2.2 q w1 w) (fun w => by have e : q = t := (by omega); have e2 : x = P := (by omega); subst e; rw [e2] at hn2; omega)⟩) _ _ _ hP hD hS (lv_sub hl [2, 3, 1, 0] rfl)
                  · skip
                    refine lv_iconst (pc := 109) (v := zI (-1)) hx hb dX1_even_109 rfl ?_
                    exact hret _ _ _ _ _ (()) (Or.inr (Or.inr ⟨h5, fun w => by have w2 := w t ht9.1 (by omega); have e2 : x = P := (by omega); rw [e2] at hn2; omega, rfl⟩)) hP hD hS dX1_even_110
              · skip
                refine lv_iload (pc := 38) hx hb dX1_even_38 (lv_at hl 5 rfl) ?_
                refine lv_iload_n (pc := 40) hx hb dX1_even_40 rfl (lv_at hl 3 rfl) ?_
                refine nv_iadd (pc := 41) hx hb dX1_even_41 ?_
                refine lv_aload_n (pc := 42) hx hb dX1_even_42 rfl (lv_at hl 0 rfl) ?_
                refine va_get (pc := 43) (D := dd) (ci := 1) (v := .int (nI (P))) (C := RX1) (T := TX1) (N := 11) hx hb hts hin hown hK hP 0 rfl rfl 0 (by decide) (hts (.fieldLink RX1 42 "TurningSumsModel" "p" "I") (by decide +kernel)) (fun _ h9 => h9) rfl dX1_even_43 ?_
                refine nv_irem (pc := 46) hx hb (by omega) (by omega) (by omega) dX1_even_46 ?_
                refine lv_istore (pc := 47) (lv' := [(6, .int (nI (((x + t) % P)))), (0, .ref (ad 0)), (1, .int (zI (b))), (2, .int (zI (of9))), (3, .int (nI (t))), (4, .int (zI (n2))), (5, .int (nI (x)))]) hx hb dX1_even_47 hl (by decide) rfl (fun ls hl => ?_)
                refine lv_iload (pc := 49) hx hb dX1_even_49 (lv_at hl 5 rfl) ?_
                refine lv_iload (pc := 51) hx hb dX1_even_51 (lv_at hl 0 rfl) ?_
                refine nv_if_eq (pc := 53) (tgt := 88) hx hb (a := ((x + t) % P)) (Nat.lt_trans (Nat.mod_lt _ (by omega)) (by omega)) dX1_even_53 (by decide) (fun h53 => ?_) (fun h53 => ?_)
                · skip
                  refine nv_iconst (pc := 88) (k := 0) hx hb dX1_even_88 rfl ?_
                  refine zv_2 (pc := 89) (a := ((0 : Nat) : Int)) (b := n2) ((nI_zI _)) (rfl) ?_
                  refine zv_iadd (pc := 89) hx hb dX1_even_89 ?_
                  refine lv_istore (pc := 90) (lv' := [(4, .int (zI ((n2 + ((0 : Nat) : Int))))), (6, .int (nI (((x + t) % P)))), (0, .ref (ad 0)), (1, .int (zI (b))), (2, .int (zI (of9))), (3, .int (nI (t))), (5, .int (nI (x)))]) hx hb dX1_even_90 hl (by decide) rfl (fun ls hl => ?_)
                  refine lv_iinc (pc := 92) (v := nI ((x + 1))) (lv' := [(5, .int (nI ((x + 1)))), (4, .int (zI ((n2 + ((0 : Nat) : Int))))), (6, .int (nI (((x + t) % P)))), (0, .ref (ad 0)), (1, .int (zI (b))), (2, .int (zI (of9))), (3, .int (nI (t)))]) hx hb dX1_even_92 hl (k := 6) rfl (nI_inc _) (by decide) rfl (fun ls hl => ?_)
                  refine lv_goto (pc := 95) (tgt := 29) hx hb dX1_even_95 (by decide) ?_
                  exact ih_29 ((x + 1)) ((n2 + ((0 : Nat) : Int))) (by omega) (by omega) (by rw [hn2]; show _ = dfS P D b t x + dfF P D b t x; rw [df_0 (fun w => (sg_1.mp w.2).1 h53)]; rfl) _ _ _ hP hD hS (lv_sub hl [3, 4, 5, 6, 1, 0] rfl)
                · skip
                  refine lv_iload_n (pc := 56) hx hb dX1_even_56 rfl (lv_at hl 2 rfl) ?_
                  refine lv_aload_n (pc := 57) hx hb dX1_even_57 rfl (lv_at hl 1 rfl) ?_
                  refine lv_iload (pc := 58) hx hb dX1_even_58 (lv_at hl 6 rfl) ?_
                  refine CTi_Vw (pc := 60) am_no_ok (As := [.int (nI (x))]) (rest := [.int (zI (b)), .int (zI (n2))]) ⟨hx, hb, hml, hown, hts⟩ (c_X1_classOf l dd ⟨o1, o2, hD1.1, hD1.2, hix⟩ (by omega) (by omega)) (cwV 1 hts gX1_even_X1_classOf rfl rfl rfl (by decide +kernel) ⟨Nat.le_of_ble_eq_true rfl, Nat.le_of_ble_eq_true rfl⟩) hK hP hD hS hA hX hK 0 1 rfl rfl rfl rfl hl.1 rfl (Nat.le_of_ble_eq_true rfl) ⟨Nat.zero_le _, Nat.zero_le _⟩ dX1_even_60 (fun r u H locs hw hP hD hS => ?_)
                  try dsimp only at hw
                  subst hw
                  refine lv_ishr (pc := 63) hx hb dX1_even_63 ?_
                  refine nv_iconst (pc := 64) (k := 1) hx hb dX1_even_64 rfl ?_
                  refine lv_iand (pc := 65) hx hb dX1_even_65 ?_
                  refine nv_iconst (pc := 66) (k := 1) hx hb dX1_even_66 rfl ?_
                  refine lv_icmp_ne (pc := 67) (tgt := 88) hx hb dX1_even_67 (by decide) (fun h67 => ?_) (fun h67 => ?_)
                  · skip
                    refine nv_iconst (pc := 88) (k := 0) hx hb dX1_even_88 rfl ?_
                    refine zv_2 (pc := 89) (a := ((0 : Nat) : Int)) (b := n2) ((nI_zI _)) (rfl) ?_
                    refine zv_iadd (pc := 89) hx hb dX1_even_89 ?_
                    refine lv_istore (pc := 90) (lv' := [(4, .int (zI ((n2 + ((0 : Nat) : Int))))), (6, .int (nI (((x + t) % P)))), (0, .ref (ad 0)), (1, .int (zI (b))), (2, .int (zI (of9))), (3, .int (nI (t))), (5, .int (nI (x)))]) hx hb dX1_even_90 hl (by decide) rfl (fun ls hl => ?_)
                    refine lv_iinc (pc := 92) (v := nI ((x + 1))) (lv' := [(5, .int (nI ((x + 1)))), (4, .int (zI ((n2 + ((0 : Nat) : Int))))), (6, .int (nI (((x + t) % P)))), (0, .ref (ad 0)), (1, .int (zI (b))), (2, .int (zI (of9))), (3, .int (nI (t)))]) hx hb dX1_even_92 hl (k := 6) rfl (nI_inc _) (by decide) rfl (fun ls hl => ?_)
                    refine lv_goto (pc := 95) (tgt := 29) hx hb dX1_even_95 (by decide) ?_
                    exact ih_29 ((x + 1)) ((n2 + ((0 : Nat) : Int))) (by omega) (by omega) (by rw [hn2]; show _ = dfS P D b t x + dfF P D b t x; rw [df_0 (fun w => by have := sg_m (D := D) (b := b) (e := -1) hx9.1 h67; omega)]; rfl) _ _ _ hP hD hS (lv_sub hl [3, 4, 5, 6, 1, 0] rfl)
                  · skip
                    refine lv_iload_n (pc := 70) hx hb dX1_even_70 rfl (lv_at hl 2 rfl) ?_
                    refine lv_aload_n (pc := 71) hx hb dX1_even_71 rfl (lv_at hl 1 rfl) ?_
                    refine lv_iload (pc := 72) hx hb dX1_even_72 (lv_at hl 0 rfl) ?_
                    refine CTi_Vw (pc := 74) am_no_ok (As := [.int (nI (((x + t) % P)))]) (rest := [.int (zI (b)), .int (zI (n2))]) ⟨hx, hb, hml, hown, hts⟩ (c_X1_classOf l dd ⟨o1, o2, hD1.1, hD1.2, hix⟩ (by omega) (by omega)) (cwV 1 hts gX1_even_X1_classOf rfl rfl rfl (by decide +kernel) ⟨Nat.le_of_ble_eq_true rfl, Nat.le_of_ble_eq_true rfl⟩) hK hP hD hS hA hX hK 0 1 rfl rfl rfl rfl hl.1 rfl (Nat.le_of_ble_eq_true rfl) ⟨Nat.zero_le _, Nat.zero_le _⟩ dX1_even_74 (fun r u H locs hw hP hD hS => ?_)
                    try dsimp only at hw
                    subst hw
                    refine lv_ishr (pc := 77) hx hb dX1_even_77 ?_
                    refine nv_iconst (pc := 78) (k := 1) hx hb dX1_even_78 rfl ?_
                    refine lv_iand (pc := 79) hx hb dX1_even_79 ?_
                    refine nv_iconst (pc := 80) (k := 1) hx hb dX1_even_80 rfl ?_
                    refine lv_icmp_ne (pc := 81) (tgt := 88) hx hb dX1_even_81 (by decide) (fun h81 => ?_) (fun h81 => ?_)
                    · skip
                      refine nv_iconst (pc := 88) (k := 0) hx hb dX1_even_88 rfl ?_
                      refine zv_2 (pc := 89) (a := ((0 : Nat) : Int)) (b := n2) ((nI_zI _)) (rfl) ?_
                      refine zv_iadd (pc := 89) hx hb dX1_even_89 ?_
                      refine lv_istore (pc := 90) (lv' := [(4, .int (zI ((n2 + ((0 : Nat) : Int))))), (6, .int (nI (((x + t) % P)))), (0, .ref (ad 0)), (1, .int (zI (b))), (2, .int (zI (of9))), (3, .int (nI (t))), (5, .int (nI (x)))]) hx hb dX1_even_90 hl (by decide) rfl (fun ls hl => ?_)
                      refine lv_iinc (pc := 92) (v := nI ((x + 1))) (lv' := [(5, .int (nI ((x + 1)))), (4, .int (zI ((n2 + ((0 : Nat) : Int))))), (6, .int (nI (((x + t) % P)))), (0, .ref (ad 0)), (1, .int (zI (b))), (2, .int (zI (of9))), (3, .int (nI (t)))]) hx hb dX1_even_92 hl (k := 6) rfl (nI_inc _) (by decide) rfl (fun ls hl => ?_)
                      refine lv_goto (pc := 95) (tgt := 29) hx hb dX1_even_95 (by decide) ?_
                      exact ih_29 ((x + 1)) ((n2 + ((0 : Nat) : Int))) (by omega) (by omega) (by rw [hn2]; show _ = dfS P D b t x + dfF P D b t x; rw [df_0 (fun w => by have := sg_m (D := D) (b := b) (e := -1) (show 1 ≤ (x + t) % P by omega) h81; omega)]; rfl) _ _ _ hP hD hS (lv_sub hl [3, 4, 5, 6, 1, 0] rfl)
                    · skip
                      refine nv_iconst (pc := 84) (k := 1) hx hb dX1_even_84 rfl ?_
                      refine lv_goto (pc := 85) (tgt := 89) hx hb dX1_even_85 (by decide) ?_
                      refine zv_2 (pc := 89) (a := ((1 : Nat) : Int)) (b := n2) ((nI_zI _)) (rfl) ?_
                      refine zv_iadd (pc := 89) hx hb dX1_even_89 ?_
                      refine lv_istore (pc := 90) (lv' := [(4, .int (zI ((n2 + ((1 : Nat) : Int))))), (6, .int (nI (((x + t) % P)))), (0, .ref (ad 0)), (1, .int (zI (b))), (2, .int (zI (of9))), (3, .int (nI (t))), (5, .int (nI (x)))]) hx hb dX1_even_90 hl (by decide) rfl (fun ls hl => ?_)
                      refine lv_iinc (pc := 92) (v := nI ((x + 1))) (lv' := [(5, .int (nI ((x + 1)))), (4, .int (zI ((n2 + ((1 : Nat) : Int))))), (6, .int (nI (((x + t) % P)))), (0, .ref (ad 0)), (1, .int (zI (b))), (2, .int (zI (of9))), (3, .int (nI (t)))]) hx hb dX1_even_92 hl (k := 6) rfl (nI_inc _) (by decide) rfl (fun ls hl => ?_)
                      refine lv_goto (pc := 95) (tgt := 29) hx hb dX1_even_95 (by decide) ?_
                      exact ih_29 ((x + 1)) ((n2 + ((1 : Nat) : Int))) (by omega) (by omega) (by rw [hn2]; show _ = dfS P D b t x + dfF P D b t x; rw [df_1 (sg_p hx9.1 h67) (sg_p (show 1 ≤ (x + t) % P by omega) h81)]; rfl) _ _ _ hP hD hS (lv_sub hl [3, 4, 5, 6, 1, 0] rfl)
          exact L29 _ (1) (0) (Nat.lt_succ_self _) (by omega) (by show 0 = 0 + dfF P D b t 0; unfold dfF; rw [if_neg (fun w => w.1 rfl)]; rfl) _ _ _ hP hD hS (lv_sub hl [2, 3, 4, 5, 1, 0] rfl)
    exact L15 _ (1) ((-1)) (Nat.lt_succ_self _) (by omega) (Or.inl ⟨rfl, rfl⟩) _ _ _ hP hD hS (lv_sub hl [2, 3, 1, 0] rfl)
  · skip
    refine lv_bipush (pc := 8) (v := zI (-2)) hx hb dX1_even_8 (by decide) ?_
    exact hret _ _ _ _ _ (()) (Or.inl ⟨h5, rfl⟩) hP hD hS dX1_even_10
set_option maxHeartbeats 4000000 in
set_option maxRecDepth 100000 in
theorem c_X1_classes (l : Launch) (dd : va_G) {ad : Nat → Nat} {cI cL cQ : ClassId}  {P : Nat} {D : Nat} {ix : Nat → Int32} {ho : Nat → Int64} {re : Nat → Int32} {wk : Nat → Int64} {tu : Nat → Int64} {wa : Nat → Int64} {nx : Nat → Int64} {way : Int} (hwr : -2147483648 ≤ way ∧ way < 2147483648) (hP1 : okP P) (hD1 : 1 ≤ D ∧ D ≤ 12) (hix : ∀ y, 1 ≤ y → y < P → ix y = nI (ixN P y)) : CTi l yX1_classes wsX1_classes ({ frames := 1, cells := 0, slots := 0, locals := 25 } : Room) dd (tysA cI cL cQ) (am_no) [.ref (ad 0), .int (zI (way))] (wM ad cI cL (P) ((rootN P)) (D) ((phN D)) (ix) (ho) (re) (wk) (tu) (wa) (nx)) (fun (r : Int32) (u : Unit) => r = clS P way) (fun (_ : Unit) => (wM ad cI cL (P) ((rootN P)) (D) ((phN D)) (ix) (ho) (re) (wk) (tu) (wa) (nx))) := by
  refine CTi_of (cc := cX1_classes) (maxL := 7) (by decide +kernel) rfl (Nat.le_of_ble_eq_true rfl) ?_
  intro p e s m args below meth c A Q ls H locs hx hb hts hown hml hP hK hD hS hA hX hl hret
  have hin : ∀ w ∈ wsX10, w ∈ wsX1_classes := by decide +kernel
  have hl : lv_has ls 7 [(0, .ref (ad 0)), (1, .int (zI (way)))] := hl
  obtain ⟨o1, o2, o3, o4, o5, o6⟩ := id hP1
  have hph := ph_rng D (by omega) hD1.1
  refine lv_iload_n (pc := 0) hx hb dX1_classes_0 rfl (lv_at hl 1 rfl) ?_
  refine lv_i2l (pc := 1) (v := zL (way)) hx hb dX1_classes_1 (zL_zI (by omega) (by omega)) ?_
  refine lv_lconst (pc := 2) (v := zL 0) hx hb dX1_classes_2 (by decide) ?_
  refine lv_lconst (pc := 3) (v := zL 1) hx hb dX1_classes_3 (by decide) ?_
  refine CTi_S0 (pc := 4) am_no_ok (As := [.long (zL (way)), .long (zL 0), .long (zL 1)]) (rest := []) ⟨hx, hb, hml, hown, hts⟩ (c_X1_in l dd ) (va_cwS 3 hts gX1_classes_X1_in rfl rfl rfl (by decide +kernel) ⟨Nat.le_of_ble_eq_true rfl, Nat.le_of_ble_eq_true rfl⟩) hK hP hD hS hA hX rfl hl.1 rfl (Nat.le_of_ble_eq_true rfl) ⟨Nat.zero_le _, Nat.zero_le _⟩ dX1_classes_4 (fun r u H locs hw hP hD hS => ?_)
  try dsimp only at hw
  subst hw
  refine bv_if_ne (pc := 7) (tgt := 13) hx hb dX1_classes_7 (by decide) (fun h7 => ?_) (fun h7 => ?_)
  · skip
    rw [zL_le (by omega) (by omega), zL_le (by omega) (by omega)] at h7
    refine lv_aload_n (pc := 13) hx hb dX1_classes_13 rfl (lv_at hl 0 rfl) ?_
    refine va_get (pc := 14) (D := dd) (ci := 1) (v := .int (nI (P))) (C := RX1) (T := TX1) (N := 11) hx hb hts hin hown hK hP 0 rfl rfl 0 (by decide) (hts (.fieldLink RX1 42 "TurningSumsModel" "p" "I") (by decide +kernel)) (fun _ h9 => h9) rfl dX1_classes_14 ?_
    refine nv_iconst (pc := 17) (k := 4) hx hb dX1_classes_17 rfl ?_
    refine nv_irem (pc := 18) hx hb (by omega) (by omega) (by omega) dX1_classes_18 ?_
    refine nv_iconst (pc := 19) (k := 3) hx hb dX1_classes_19 rfl ?_
    refine nv_icmp_ne (pc := 20) (tgt := 31) hx hb (a := (P % 4)) (b := 3) (Nat.lt_trans (Nat.mod_lt _ (by omega)) (by omega)) (by omega) dX1_classes_20 (by decide) (fun h20 => ?_) (fun h20 => ?_)
    · skip
      refine lv_bipush (pc := 31) (v := zI (-4)) hx hb dX1_classes_31 (by decide) ?_
      exact hret _ _ _ _ _ (()) (by unfold clS; rw [if_pos (by omega), if_neg (by omega)]) hP hD hS dX1_classes_33
    · skip
      refine lv_aload_n (pc := 23) hx hb dX1_classes_23 rfl (lv_at hl 0 rfl) ?_
      refine va_get (pc := 24) (D := dd) (ci := 1) (v := .int (nI (P))) (C := RX1) (T := TX1) (N := 11) hx hb hts hin hown hK hP 0 rfl rfl 0 (by decide) (hts (.fieldLink RX1 42 "TurningSumsModel" "p" "I") (by decide +kernel)) (fun _ h9 => h9) rfl dX1_classes_24 ?_
      refine nv_iconst (pc := 27) (k := 3) hx hb dX1_classes_27 rfl ?_
      refine nv_icmp_ne (pc := 28) (tgt := 34) hx hb (a := P) (b := 3) (by omega) (by omega) dX1_classes_28 (by decide) (fun h28 => ?_) (fun h28 => ?_)
      · skip
        refine nv_iconst (pc := 34) (k := 0) hx hb dX1_classes_34 rfl ?_
        refine lv_istore_n (pc := 35) (lv' := [(2, .int (nI (0))), (0, .ref (ad 0)), (1, .int (zI (way)))]) hx hb dX1_classes_35 rfl hl (by decide) rfl (fun ls hl => ?_)
        refine lv_iload_n (pc := 36) hx hb dX1_classes_36 rfl (lv_at hl 2 rfl) ?_
        refine zv_if_ne (pc := 37) (tgt := 84) hx hb (by omega) dX1_classes_37 (by decide) (fun h37 => ?_) (fun h37 => ?_)
        · skip
          refine nv_iconst (pc := 84) (k := 1) hx hb dX1_classes_84 rfl ?_
          refine lv_istore_n (pc := 85) (lv' := [(3, .int (nI (1))), (2, .int (nI (0))), (0, .ref (ad 0)), (1, .int (zI (way)))]) hx hb dX1_classes_85 rfl hl (by decide) rfl (fun ls hl => ?_)
          have hl : lv_has ls 7 [(3, .int (nI (1))), (2, .int (zI (0))), (0, .ref (ad 0)), (1, .int (zI (way)))] := by
            have e9 : nI (0) = zI (0) := rfl
            rw [← e9]
            exact hl
          have L86 : ∀ (n9_86 : Nat), ∀ (u9 : Nat) (n : Int), P + 1 - u9 < n9_86 → (1 ≤ u9 ∧ u9 ≤ P) → (n = frT P u9) → ∀ (H : Heap) (locs : List Loc) (ls : Array Slot), va_P dd vwCl (wM ad cI cL (P) ((rootN P)) (D) ((phN D)) (ix) (ho) (re) (wk) (tu) (wa) (nx)) H → va_D A (wM ad cI cL (P) ((rootN P)) (D) ((phN D)) (ix) (ho) (re) (wk) (tu) (wa) (nx)) → va_S A s.heap H locs → lv_has ls 7 [(0, .ref (ad 0)), (1, .int (zI (way))), (2, .int (zI (n))), (3, .int (nI (u9)))] → W p l e ({ frames := 1, cells := 0, slots := 0, locals := 25 } : Room) s m args below meth c H locs 0 0 Q (F0 m 86 ls []) := by
            intro n9_86
            induction n9_86 with
            | zero => intro u9 n hm; exact absurd hm (Nat.not_lt_zero _)
            | succ n9_86 ih_86 =>
              intro u9 n hm_86 hu9 hn H locs ls hP hD hS hl
              refine lv_iload_n (pc := 86) hx hb dX1_classes_86 rfl (lv_at hl 3 rfl) ?_
              refine lv_aload_n (pc := 87) hx hb dX1_classes_87 rfl (lv_at hl 0 rfl) ?_
              refine va_get (pc := 88) (D := dd) (ci := 1) (v := .int (nI (P))) (C := RX1) (T := TX1) (N := 11) hx hb hts hin hown hK hP 0 rfl rfl 0 (by decide) (hts (.fieldLink RX1 42 "TurningSumsModel" "p" "I") (by decide +kernel)) (fun _ h9 => h9) rfl dX1_classes_88 ?_
              refine nv_icmp_ge (pc := 91) (tgt := 195) hx hb (a := u9) (b := P) (by omega) (by omega) dX1_classes_91 (by decide) (fun h91 => ?_) (fun h91 => ?_)
              · skip
                refine lv_iload_n (pc := 195) hx hb dX1_classes_195 rfl (lv_at hl 2 rfl) ?_
                exact hret _ _ _ _ _ (()) (by unfold clS; rw [if_pos (by omega), if_pos (by omega), if_neg (by omega), hn, show u9 = P by omega]) hP hD hS dX1_classes_196
              · skip
                refine lv_iload_n (pc := 94) hx hb dX1_classes_94 rfl (lv_at hl 3 rfl) ?_
                refine zv_1 (pc := 95) (a := ((u9 : Nat) : Int)) ((nI_zI _)) ?_
                refine zv_ineg (pc := 95) hx hb dX1_classes_95 ?_
                refine lv_istore (pc := 96) (lv' := [(4, .int (zI ((-((u9 : Nat) : Int))))), (0, .ref (ad 0)), (1, .int (zI (way))), (2, .int (zI (n))), (3, .int (nI (u9)))]) hx hb dX1_classes_96 hl (by decide) rfl (fun ls hl => ?_)
                have hl : lv_has ls 7 [(4, .int (zI ((((0 : Nat) : Int) - (u9 : Int))))), (0, .ref (ad 0)), (1, .int (zI (way))), (2, .int (zI (n))), (3, .int (nI (u9)))] := by
                  have e9 : zI ((-((u9 : Nat) : Int))) = zI ((((0 : Nat) : Int) - (u9 : Int))) := by congr 1; omega
                  rw [← e9]
                  exact hl
                have L98 : ∀ (n9_98 : Nat), ∀ (k : Nat) (n2 : Int), 2 * u9 + 2 - k < n9_98 → (k ≤ 2 * u9 + 1) → (n2 = frT P u9 + frR P u9 k) → ∀ (H : Heap) (locs : List Loc) (ls : Array Slot), va_P dd vwCl (wM ad cI cL (P) ((rootN P)) (D) ((phN D)) (ix) (ho) (re) (wk) (tu) (wa) (nx)) H → va_D A (wM ad cI cL (P) ((rootN P)) (D) ((phN D)) (ix) (ho) (re) (wk) (tu) (wa) (nx)) → va_S A s.heap H locs → lv_has ls 7 [(0, .ref (ad 0)), (1, .int (zI (way))), (2, .int (zI (n2))), (3, .int (nI (u9))), (4, .int (zI (((k : Int) - (u9 : Int)))))] → W p l e ({ frames := 1, cells := 0, slots := 0, locals := 25 } : Room) s m args below meth c H locs 0 0 Q (F0 m 98 ls []) := by
                  intro n9_98
                  induction n9_98 with
                  | zero => intro k n2 hm; exact absurd hm (Nat.not_lt_zero _)
                  | succ n9_98 ih_98 =>
                    intro k n2 hm_98 hk hf2 H locs ls hP hD hS hl
                    refine lv_iload (pc := 98) hx hb dX1_classes_98 (lv_at hl 4 rfl) ?_
                    refine lv_iload_n (pc := 100) hx hb dX1_classes_100 rfl (lv_at hl 3 rfl) ?_
                    refine zv_2 (pc := 101) (a := ((u9 : Nat) : Int)) (b := ((k : Int) - (u9 : Int))) ((nI_zI _)) (rfl) ?_
                    refine zv_icmp_gt (pc := 101) (tgt := 189) hx hb (by omega) (by omega) dX1_classes_101 (by decide) (fun h101 => ?_) (fun h101 => ?_)
                    · skip
                      refine lv_iinc (pc := 189) (v := nI ((u9 + 1))) (lv' := [(3, .int (nI ((u9 + 1)))), (0, .ref (ad 0)), (1, .int (zI (way))), (2, .int (zI (n2))), (4, .int (zI (((k : Int) - (u9 : Int)))))]) hx hb dX1_classes_189 hl (k := 3) rfl (nI_inc _) (by decide) rfl (fun ls hl => ?_)
                      refine lv_goto (pc := 192) (tgt := 86) hx hb dX1_classes_192 (by decide) ?_
                      exact ih_86 ((u9 + 1)) (n2) (by omega) (by omega) (by rw [hf2, show k = 2 * u9 + 1 by omega]; show _ = frT P u9 + (if 1 ≤ u9 then frR P u9 (2 * u9 + 1) else 0); rw [if_pos hu9.1]) _ _ _ hP hD hS (lv_sub hl [1, 2, 3, 0] rfl)
                    · skip
                      have hsq := sq_le (v := (k : Int) - (u9 : Int)) (u := u9) (by omega) (by omega)
                      have huu := Nat.mul_le_mul (show u9 ≤ 199 by omega) (show u9 ≤ 199 by omega)
                      have hsc := sq_cast (P := P) (v := (k : Int) - (u9 : Int))
                      have hnc : ((u9 * u9 : Nat) : Int) = (u9 : Int) * (u9 : Int) := Int.natCast_mul _ _
                      have hdl := Nat.div_le_self (sqN P ((k : Int) - (u9 : Int))) (4 * u9)
                      have hml := Nat.mod_lt (sqN P ((k : Int) - (u9 : Int))) (show 0 < 4 * u9 by omega)
                      have hdm := Nat.div_add_mod (sqN P ((k : Int) - (u9 : Int))) (4 * u9)
                      refine lv_iload (pc := 104) hx hb dX1_classes_104 (lv_at hl 4 rfl) ?_
                      refine lv_iload (pc := 106) hx hb dX1_classes_106 (lv_at hl 4 rfl) ?_
                      refine zv_imul (pc := 108) hx hb dX1_classes_108 ?_
                      refine lv_aload_n (pc := 109) hx hb dX1_classes_109 rfl (lv_at hl 0 rfl) ?_
                      refine va_get (pc := 110) (D := dd) (ci := 1) (v := .int (nI (P))) (C := RX1) (T := TX1) (N := 11) hx hb hts hin hown hK hP 0 rfl rfl 0 (by decide) (hts (.fieldLink RX1 42 "TurningSumsModel" "p" "I") (by decide +kernel)) (fun _ h9 => h9) rfl dX1_classes_110 ?_
                      refine zv_2 (pc := 113) (a := ((P : Nat) : Int)) (b := (((k : Int) - (u9 : Int)) * ((k : Int) - (u9 : Int)))) ((nI_zI _)) (rfl) ?_
                      refine zv_iadd (pc := 113) hx hb dX1_classes_113 ?_
                      refine tq_i (y := nI ((sqN P ((k : Int) - (u9 : Int))))) (by rw [nI_zI, sq_cast]) ?_
                      refine nv_iconst (pc := 114) (k := 4) hx hb dX1_classes_114 rfl ?_
                      refine lv_iload_n (pc := 115) hx hb dX1_classes_115 rfl (lv_at hl 3 rfl) ?_
                      refine nv_imul (pc := 116) hx hb dX1_classes_116 ?_
                      refine nv_idiv (pc := 117) hx hb (by omega) (by omega) (by omega) dX1_classes_117 ?_
                      refine lv_istore (pc := 118) (lv' := [(5, .int (nI (((sqN P ((k : Int) - (u9 : Int))) / (4 * u9))))), (0, .ref (ad 0)), (1, .int (zI (way))), (2, .int (zI (n2))), (3, .int (nI (u9))), (4, .int (zI (((k : Int) - (u9 : Int)))))]) hx hb dX1_classes_118 hl (by decide) rfl (fun ls hl => ?_)
                      refine nv_iconst (pc := 120) (k := 4) hx hb dX1_classes_120 rfl ?_
                      refine lv_iload_n (pc := 121) hx hb dX1_classes_121 rfl (lv_at hl 4 rfl) ?_
                      refine nv_imul (pc := 122) hx hb dX1_classes_122 ?_
                      refine lv_iload (pc := 123) hx hb dX1_classes_123 (lv_at hl 0 rfl) ?_
                      refine nv_imul (pc := 125) hx hb dX1_classes_125 ?_
                      refine lv_iload (pc := 126) hx hb dX1_classes_126 (lv_at hl 5 rfl) ?_
                      refine lv_iload (pc := 128) hx hb dX1_classes_128 (lv_at hl 5 rfl) ?_
                      refine zv_imul (pc := 130) hx hb dX1_classes_130 ?_
                      refine lv_aload_n (pc := 131) hx hb dX1_classes_131 rfl (lv_at hl 1 rfl) ?_
                      refine va_get (pc := 132) (D := dd) (ci := 1) (v := .int (nI (P))) (C := RX1) (T := TX1) (N := 11) hx hb hts hin hown hK hP 0 rfl rfl 0 (by decide) (hts (.fieldLink RX1 42 "TurningSumsModel" "p" "I") (by decide +kernel)) (fun _ h9 => h9) rfl dX1_classes_132 ?_
                      refine zv_2 (pc := 135) (a := ((P : Nat) : Int)) (b := (((k : Int) - (u9 : Int)) * ((k : Int) - (u9 : Int)))) ((nI_zI _)) (rfl) ?_
                      refine zv_iadd (pc := 135) hx hb dX1_classes_135 ?_
                      refine tq_i (y := nI ((sqN P ((k : Int) - (u9 : Int))))) (by rw [nI_zI, sq_cast]) ?_
                      refine nv_icmp_ne (pc := 136) (tgt := 149) hx hb (a := ((4 * u9) * ((sqN P ((k : Int) - (u9 : Int))) / (4 * u9)))) (b := (sqN P ((k : Int) - (u9 : Int)))) (by omega) (by omega) dX1_classes_136 (by decide) (fun h136 => ?_) (fun h136 => ?_)
                      · skip
                        refine nv_iconst (pc := 149) (k := 0) hx hb dX1_classes_149 rfl ?_
                        refine lv_istore (pc := 150) (lv' := [(6, .int (nI (0))), (5, .int (nI (((sqN P ((k : Int) - (u9 : Int))) / (4 * u9))))), (0, .ref (ad 0)), (1, .int (zI (way))), (2, .int (zI (n2))), (3, .int (nI (u9))), (4, .int (zI (((k : Int) - (u9 : Int)))))]) hx hb dX1_classes_150 hl (by decide) rfl (fun ls hl => ?_)
                        refine lv_iload_n (pc := 152) hx hb dX1_classes_152 rfl (lv_at hl 4 rfl) ?_
                        refine lv_iload (pc := 153) hx hb dX1_classes_153 (lv_at hl 0 rfl) ?_
                        refine nv_if_eq (pc := 155) (tgt := 180) hx hb (a := 0) (by omega) dX1_classes_155 (by decide) (fun h155 => ?_) (fun h155 => ?_)
                        · skip
                          refine nv_iconst (pc := 180) (k := 0) hx hb dX1_classes_180 rfl ?_
                          refine zv_2 (pc := 181) (a := ((0 : Nat) : Int)) (b := n2) ((nI_zI _)) (rfl) ?_
                          refine zv_iadd (pc := 181) hx hb dX1_classes_181 ?_
                          refine lv_istore_n (pc := 182) (lv' := [(2, .int (zI ((n2 + ((0 : Nat) : Int))))), (6, .int (nI (0))), (5, .int (nI (((sqN P ((k : Int) - (u9 : Int))) / (4 * u9))))), (0, .ref (ad 0)), (1, .int (zI (way))), (3, .int (nI (u9))), (4, .int (zI (((k : Int) - (u9 : Int)))))]) hx hb dX1_classes_182 rfl hl (by decide) rfl (fun ls hl => ?_)
                          refine lv_iinc (pc := 183) (v := zI ((((k : Int) - (u9 : Int)) + 1))) (lv' := [(4, .int (zI ((((k : Int) - (u9 : Int)) + 1)))), (2, .int (zI ((n2 + ((0 : Nat) : Int))))), (6, .int (nI (0))), (5, .int (nI (((sqN P ((k : Int) - (u9 : Int))) / (4 * u9))))), (0, .ref (ad 0)), (1, .int (zI (way))), (3, .int (nI (u9)))]) hx hb dX1_classes_183 hl (k := 6) rfl (zI_inc _) (by decide) rfl (fun ls hl => ?_)
                          refine lv_goto (pc := 186) (tgt := 98) hx hb dX1_classes_186 (by decide) ?_
                          have hl : lv_has ls 7 [(4, .int (zI ((((k + 1 : Nat) : Int) - (u9 : Int))))), (2, .int (zI ((n2 + ((0 : Nat) : Int))))), (6, .int (nI (0))), (5, .int (nI (((sqN P ((k : Int) - (u9 : Int))) / (4 * u9))))), (0, .ref (ad 0)), (1, .int (zI (way))), (3, .int (nI (u9)))] := by
                            have e9 : zI ((((k : Int) - (u9 : Int)) + 1)) = zI ((((k + 1 : Nat) : Int) - (u9 : Int))) := by congr 1; omega
                            rw [← e9]
                            exact hl
                          exact ih_98 (k + 1) ((n2 + ((0 : Nat) : Int))) (by omega) (by omega) (by first | (rw [fr_0 (by unfold frB; exact decide_eq_false (fun q8 => by omega))]; omega) | (rw [fr_1 (by unfold frB; exact decide_eq_true ⟨by omega, by omega, by omega⟩)]; omega)) _ _ _ hP hD hS (lv_sub hl [4, 5, 1, 6, 0] rfl)
                        · skip
                          refine lv_iload (pc := 158) hx hb dX1_classes_158 (lv_at hl 6 rfl) ?_
                          refine zv_if_ge (pc := 160) (tgt := 176) hx hb (by omega) dX1_classes_160 (by decide) (fun h160 => ?_) (fun h160 => ?_)
                          · skip
                            refine nv_iconst (pc := 176) (k := 1) hx hb dX1_classes_176 rfl ?_
                            refine lv_goto (pc := 177) (tgt := 181) hx hb dX1_classes_177 (by decide) ?_
                            refine zv_2 (pc := 181) (a := ((1 : Nat) : Int)) (b := n2) ((nI_zI _)) (rfl) ?_
                            refine zv_iadd (pc := 181) hx hb dX1_classes_181 ?_
                            refine lv_istore_n (pc := 182) (lv' := [(2, .int (zI ((n2 + ((1 : Nat) : Int))))), (6, .int (nI (0))), (5, .int (nI (((sqN P ((k : Int) - (u9 : Int))) / (4 * u9))))), (0, .ref (ad 0)), (1, .int (zI (way))), (3, .int (nI (u9))), (4, .int (zI (((k : Int) - (u9 : Int)))))]) hx hb dX1_classes_182 rfl hl (by decide) rfl (fun ls hl => ?_)
                            refine lv_iinc (pc := 183) (v := zI ((((k : Int) - (u9 : Int)) + 1))) (lv' := [(4, .int (zI ((((k : Int) - (u9 : Int)) + 1)))), (2, .int (zI ((n2 + ((1 : Nat) : Int))))), (6, .int (nI (0))), (5, .int (nI (((sqN P ((k : Int) - (u9 : Int))) / (4 * u9))))), (0, .ref (ad 0)), (1, .int (zI (way))), (3, .int (nI (u9)))]) hx hb dX1_classes_183 hl (k := 6) rfl (zI_inc _) (by decide) rfl (fun ls hl => ?_)
                            refine lv_goto (pc := 186) (tgt := 98) hx hb dX1_classes_186 (by decide) ?_
                            have hl : lv_has ls 7 [(4, .int (zI ((((k + 1 : Nat) : Int) - (u9 : Int))))), (2, .int (zI ((n2 + ((1 : Nat) : Int))))), (6, .int (nI (0))), (5, .int (nI (((sqN P ((k : Int) - (u9 : Int))) / (4 * u9))))), (0, .ref (ad 0)), (1, .int (zI (way))), (3, .int (nI (u9)))] := by
                              have e9 : zI ((((k : Int) - (u9 : Int)) + 1)) = zI ((((k + 1 : Nat) : Int) - (u9 : Int))) := by congr 1; omega
                              rw [← e9]
                              exact hl
                            exact ih_98 (k + 1) ((n2 + ((1 : Nat) : Int))) (by omega) (by omega) (by first | (rw [fr_0 (by unfold frB; exact decide_eq_false (fun q8 => by omega))]; omega) | (rw [fr_1 (by unfold frB; exact decide_eq_true ⟨by omega, by omega, by omega⟩)]; omega)) _ _ _ hP hD hS (lv_sub hl [4, 5, 1, 6, 0] rfl)
                          · skip
                            refine lv_iload (pc := 163) hx hb dX1_classes_163 (lv_at hl 6 rfl) ?_
                            refine zv_ineg (pc := 165) hx hb dX1_classes_165 ?_
                            refine lv_iload_n (pc := 166) hx hb dX1_classes_166 rfl (lv_at hl 5 rfl) ?_
                            refine zv_2 (pc := 167) (a := ((u9 : Nat) : Int)) (b := (-((k : Int) - (u9 : Int)))) ((nI_zI _)) (rfl) ?_
                            refine zv_icmp_eq (pc := 167) (tgt := 180) hx hb (by omega) (by omega) dX1_classes_167 (by decide) (fun h167 => ?_) (fun h167 => ?_)
                            · skip
                              refine nv_iconst (pc := 180) (k := 0) hx hb dX1_classes_180 rfl ?_
                              refine zv_2 (pc := 181) (a := ((0 : Nat) : Int)) (b := n2) ((nI_zI _)) (rfl) ?_
                              refine zv_iadd (pc := 181) hx hb dX1_classes_181 ?_
                              refine lv_istore_n (pc := 182) (lv' := [(2, .int (zI ((n2 + ((0 : Nat) : Int))))), (6, .int (nI (0))), (5, .int (nI (((sqN P ((k : Int) - (u9 : Int))) / (4 * u9))))), (0, .ref (ad 0)), (1, .int (zI (way))), (3, .int (nI (u9))), (4, .int (zI (((k : Int) - (u9 : Int)))))]) hx hb dX1_classes_182 rfl hl (by decide) rfl (fun ls hl => ?_)
                              refine lv_iinc (pc := 183) (v := zI ((((k : Int) - (u9 : Int)) + 1))) (lv' := [(4, .int (zI ((((k : Int) - (u9 : Int)) + 1)))), (2, .int (zI ((n2 + ((0 : Nat) : Int))))), (6, .int (nI (0))), (5, .int (nI (((sqN P ((k : Int) - (u9 : Int))) / (4 * u9))))), (0, .ref (ad 0)), (1, .int (zI (way))), (3, .int (nI (u9)))]) hx hb dX1_classes_183 hl (k := 6) rfl (zI_inc _) (by decide) rfl (fun ls hl => ?_)
                              refine lv_goto (pc := 186) (tgt := 98) hx hb dX1_classes_186 (by decide) ?_
                              have hl : lv_has ls 7 [(4, .int (zI ((((k + 1 : Nat) : Int) - (u9 : Int))))), (2, .int (zI ((n2 + ((0 : Nat) : Int))))), (6, .int (nI (0))), (5, .int (nI (((sqN P ((k : Int) - (u9 : Int))) / (4 * u9))))), (0, .ref (ad 0)), (1, .int (zI (way))), (3, .int (nI (u9)))] := by
                                have e9 : zI ((((k : Int) - (u9 : Int)) + 1)) = zI ((((k + 1 : Nat) : Int) - (u9 : Int))) := by congr 1; omega
                                rw [← e9]
                                exact hl
                              exact ih_98 (k + 1) ((n2 + ((0 : Nat) : Int))) (by omega) (by omega) (by first | (rw [fr_0 (by unfold frB; exact decide_eq_false (fun q8 => by omega))]; omega) | (rw [fr_1 (by unfold frB; exact decide_eq_true ⟨by omega, by omega, by omega⟩)]; omega)) _ _ _ hP hD hS (lv_sub hl [4, 5, 1, 6, 0] rfl)
                            · skip
                              refine lv_iload_n (pc := 170) hx hb dX1_classes_170 rfl (lv_at hl 5 rfl) ?_
                              refine lv_iload (pc := 171) hx hb dX1_classes_171 (lv_at hl 1 rfl) ?_
                              refine nv_icmp_eq (pc := 173) (tgt := 180) hx hb (a := u9) (b := ((sqN P ((k : Int) - (u9 : Int))) / (4 * u9))) (by omega) (by omega) dX1_classes_173 (by decide) (fun h173 => ?_) (fun h173 => ?_)
                              · skip
                                refine nv_iconst (pc := 180) (k := 0) hx hb dX1_classes_180 rfl ?_
                                refine zv_2 (pc := 181) (a := ((0 : Nat) : Int)) (b := n2) ((nI_zI _)) (rfl) ?_
                                refine zv_iadd (pc := 181) hx hb dX1_classes_181 ?_
                                refine lv_istore_n (pc := 182) (lv' := [(2, .int (zI ((n2 + ((0 : Nat) : Int))))), (6, .int (nI (0))), (5, .int (nI (((sqN P ((k : Int) - (u9 : Int))) / (4 * u9))))), (0, .ref (ad 0)), (1, .int (zI (way))), (3, .int (nI (u9))), (4, .int (zI (((k : Int) - (u9 : Int)))))]) hx hb dX1_classes_182 rfl hl (by decide) rfl (fun ls hl => ?_)
                                refine lv_iinc (pc := 183) (v := zI ((((k : Int) - (u9 : Int)) + 1))) (lv' := [(4, .int (zI ((((k : Int) - (u9 : Int)) + 1)))), (2, .int (zI ((n2 + ((0 : Nat) : Int))))), (6, .int (nI (0))), (5, .int (nI (((sqN P ((k : Int) - (u9 : Int))) / (4 * u9))))), (0, .ref (ad 0)), (1, .int (zI (way))), (3, .int (nI (u9)))]) hx hb dX1_classes_183 hl (k := 6) rfl (zI_inc _) (by decide) rfl (fun ls hl => ?_)
                                refine lv_goto (pc := 186) (tgt := 98) hx hb dX1_classes_186 (by decide) ?_
                                have hl : lv_has ls 7 [(4, .int (zI ((((k + 1 : Nat) : Int) - (u9 : Int))))), (2, .int (zI ((n2 + ((0 : Nat) : Int))))), (6, .int (nI (0))), (5, .int (nI (((sqN P ((k : Int) - (u9 : Int))) / (4 * u9))))), (0, .ref (ad 0)), (1, .int (zI (way))), (3, .int (nI (u9)))] := by
                                  have e9 : zI ((((k : Int) - (u9 : Int)) + 1)) = zI ((((k + 1 : Nat) : Int) - (u9 : Int))) := by congr 1; omega
                                  rw [← e9]
                                  exact hl
                                exact ih_98 (k + 1) ((n2 + ((0 : Nat) : Int))) (by omega) (by omega) (by first | (rw [fr_0 (by unfold frB; exact decide_eq_false (fun q8 => by omega))]; omega) | (rw [fr_1 (by unfold frB; exact decide_eq_true ⟨by omega, by omega, by omega⟩)]; omega)) _ _ _ hP hD hS (lv_sub hl [4, 5, 1, 6, 0] rfl)
                              · skip
                                refine nv_iconst (pc := 176) (k := 1) hx hb dX1_classes_176 rfl ?_
                                refine lv_goto (pc := 177) (tgt := 181) hx hb dX1_classes_177 (by decide) ?_
                                refine zv_2 (pc := 181) (a := ((1 : Nat) : Int)) (b := n2) ((nI_zI _)) (rfl) ?_
                                refine zv_iadd (pc := 181) hx hb dX1_classes_181 ?_
                                refine lv_istore_n (pc := 182) (lv' := [(2, .int (zI ((n2 + ((1 : Nat) : Int))))), (6, .int (nI (0))), (5, .int (nI (((sqN P ((k : Int) - (u9 : Int))) / (4 * u9))))), (0, .ref (ad 0)), (1, .int (zI (way))), (3, .int (nI (u9))), (4, .int (zI (((k : Int) - (u9 : Int)))))]) hx hb dX1_classes_182 rfl hl (by decide) rfl (fun ls hl => ?_)
                                refine lv_iinc (pc := 183) (v := zI ((((k : Int) - (u9 : Int)) + 1))) (lv' := [(4, .int (zI ((((k : Int) - (u9 : Int)) + 1)))), (2, .int (zI ((n2 + ((1 : Nat) : Int))))), (6, .int (nI (0))), (5, .int (nI (((sqN P ((k : Int) - (u9 : Int))) / (4 * u9))))), (0, .ref (ad 0)), (1, .int (zI (way))), (3, .int (nI (u9)))]) hx hb dX1_classes_183 hl (k := 6) rfl (zI_inc _) (by decide) rfl (fun ls hl => ?_)
                                refine lv_goto (pc := 186) (tgt := 98) hx hb dX1_classes_186 (by decide) ?_
                                have hl : lv_has ls 7 [(4, .int (zI ((((k + 1 : Nat) : Int) - (u9 : Int))))), (2, .int (zI ((n2 + ((1 : Nat) : Int))))), (6, .int (nI (0))), (5, .int (nI (((sqN P ((k : Int) - (u9 : Int))) / (4 * u9))))), (0, .ref (ad 0)), (1, .int (zI (way))), (3, .int (nI (u9)))] := by
                                  have e9 : zI ((((k : Int) - (u9 : Int)) + 1)) = zI ((((k + 1 : Nat) : Int) - (u9 : Int))) := by congr 1; omega
                                  rw [← e9]
                                  exact hl
                                exact ih_98 (k + 1) ((n2 + ((1 : Nat) : Int))) (by omega) (by omega) (by first | (rw [fr_0 (by unfold frB; exact decide_eq_false (fun q8 => by omega))]; omega) | (rw [fr_1 (by unfold frB; exact decide_eq_true ⟨by omega, by omega, by omega⟩)]; omega)) _ _ _ hP hD hS (lv_sub hl [4, 5, 1, 6, 0] rfl)
                      · skip
                        refine lv_iload_n (pc := 139) hx hb dX1_classes_139 rfl (lv_at hl 4 rfl) ?_
                        refine lv_iload (pc := 140) hx hb dX1_classes_140 (lv_at hl 0 rfl) ?_
                        refine nv_icmp_gt (pc := 142) (tgt := 149) hx hb (a := u9) (b := ((sqN P ((k : Int) - (u9 : Int))) / (4 * u9))) (by omega) (by omega) dX1_classes_142 (by decide) (fun h142 => ?_) (fun h142 => ?_)
                        · skip
                          refine nv_iconst (pc := 149) (k := 0) hx hb dX1_classes_149 rfl ?_
                          refine lv_istore (pc := 150) (lv' := [(6, .int (nI (0))), (5, .int (nI (((sqN P ((k : Int) - (u9 : Int))) / (4 * u9))))), (0, .ref (ad 0)), (1, .int (zI (way))), (2, .int (zI (n2))), (3, .int (nI (u9))), (4, .int (zI (((k : Int) - (u9 : Int)))))]) hx hb dX1_classes_150 hl (by decide) rfl (fun ls hl => ?_)
                          refine lv_iload_n (pc := 152) hx hb dX1_classes_152 rfl (lv_at hl 4 rfl) ?_
                          refine lv_iload (pc := 153) hx hb dX1_classes_153 (lv_at hl 0 rfl) ?_
                          refine nv_if_eq (pc := 155) (tgt := 180) hx hb (a := 0) (by omega) dX1_classes_155 (by decide) (fun h155 => ?_) (fun h155 => ?_)
                          · skip
                            refine nv_iconst (pc := 180) (k := 0) hx hb dX1_classes_180 rfl ?_
                            refine zv_2 (pc := 181) (a := ((0 : Nat) : Int)) (b := n2) ((nI_zI _)) (rfl) ?_
                            refine zv_iadd (pc := 181) hx hb dX1_classes_181 ?_
                            refine lv_istore_n (pc := 182) (lv' := [(2, .int (zI ((n2 + ((0 : Nat) : Int))))), (6, .int (nI (0))), (5, .int (nI (((sqN P ((k : Int) - (u9 : Int))) / (4 * u9))))), (0, .ref (ad 0)), (1, .int (zI (way))), (3, .int (nI (u9))), (4, .int (zI (((k : Int) - (u9 : Int)))))]) hx hb dX1_classes_182 rfl hl (by decide) rfl (fun ls hl => ?_)
                            refine lv_iinc (pc := 183) (v := zI ((((k : Int) - (u9 : Int)) + 1))) (lv' := [(4, .int (zI ((((k : Int) - (u9 : Int)) + 1)))), (2, .int (zI ((n2 + ((0 : Nat) : Int))))), (6, .int (nI (0))), (5, .int (nI (((sqN P ((k : Int) - (u9 : Int))) / (4 * u9))))), (0, .ref (ad 0)), (1, .int (zI (way))), (3, .int (nI (u9)))]) hx hb dX1_classes_183 hl (k := 6) rfl (zI_inc _) (by decide) rfl (fun ls hl => ?_)
                            refine lv_goto (pc := 186) (tgt := 98) hx hb dX1_classes_186 (by decide) ?_
                            have hl : lv_has ls 7 [(4, .int (zI ((((k + 1 : Nat) : Int) - (u9 : Int))))), (2, .int (zI ((n2 + ((0 : Nat) : Int))))), (6, .int (nI (0))), (5, .int (nI (((sqN P ((k : Int) - (u9 : Int))) / (4 * u9))))), (0, .ref (ad 0)), (1, .int (zI (way))), (3, .int (nI (u9)))] := by
                              have e9 : zI ((((k : Int) - (u9 : Int)) + 1)) = zI ((((k + 1 : Nat) : Int) - (u9 : Int))) := by congr 1; omega
                              rw [← e9]
                              exact hl
                            exact ih_98 (k + 1) ((n2 + ((0 : Nat) : Int))) (by omega) (by omega) (by first | (rw [fr_0 (by unfold frB; exact decide_eq_false (fun q8 => by omega))]; omega) | (rw [fr_1 (by unfold frB; exact decide_eq_true ⟨by omega, by omega, by omega⟩)]; omega)) _ _ _ hP hD hS (lv_sub hl [4, 5, 1, 6, 0] rfl)
                          · skip
                            refine lv_iload (pc := 158) hx hb dX1_classes_158 (lv_at hl 6 rfl) ?_
                            refine zv_if_ge (pc := 160) (tgt := 176) hx hb (by omega) dX1_classes_160 (by decide) (fun h160 => ?_) (fun h160 => ?_)
                            · skip
                              refine nv_iconst (pc := 176) (k := 1) hx hb dX1_classes_176 rfl ?_
                              refine lv_goto (pc := 177) (tgt := 181) hx hb dX1_classes_177 (by decide) ?_
                              refine zv_2 (pc := 181) (a := ((1 : Nat) : Int)) (b := n2) ((nI_zI _)) (rfl) ?_
                              refine zv_iadd (pc := 181) hx hb dX1_classes_181 ?_
                              refine lv_istore_n (pc := 182) (lv' := [(2, .int (zI ((n2 + ((1 : Nat) : Int))))), (6, .int (nI (0))), (5, .int (nI (((sqN P ((k : Int) - (u9 : Int))) / (4 * u9))))), (0, .ref (ad 0)), (1, .int (zI (way))), (3, .int (nI (u9))), (4, .int (zI (((k : Int) - (u9 : Int)))))]) hx hb dX1_classes_182 rfl hl (by decide) rfl (fun ls hl => ?_)
                              refine lv_iinc (pc := 183) (v := zI ((((k : Int) - (u9 : Int)) + 1))) (lv' := [(4, .int (zI ((((k : Int) - (u9 : Int)) + 1)))), (2, .int (zI ((n2 + ((1 : Nat) : Int))))), (6, .int (nI (0))), (5, .int (nI (((sqN P ((k : Int) - (u9 : Int))) / (4 * u9))))), (0, .ref (ad 0)), (1, .int (zI (way))), (3, .int (nI (u9)))]) hx hb dX1_classes_183 hl (k := 6) rfl (zI_inc _) (by decide) rfl (fun ls hl => ?_)
                              refine lv_goto (pc := 186) (tgt := 98) hx hb dX1_classes_186 (by decide) ?_
                              have hl : lv_has ls 7 [(4, .int (zI ((((k + 1 : Nat) : Int) - (u9 : Int))))), (2, .int (zI ((n2 + ((1 : Nat) : Int))))), (6, .int (nI (0))), (5, .int (nI (((sqN P ((k : Int) - (u9 : Int))) / (4 * u9))))), (0, .ref (ad 0)), (1, .int (zI (way))), (3, .int (nI (u9)))] := by
                                have e9 : zI ((((k : Int) - (u9 : Int)) + 1)) = zI ((((k + 1 : Nat) : Int) - (u9 : Int))) := by congr 1; omega
                                rw [← e9]
                                exact hl
                              exact ih_98 (k + 1) ((n2 + ((1 : Nat) : Int))) (by omega) (by omega) (by first | (rw [fr_0 (by unfold frB; exact decide_eq_false (fun q8 => by omega))]; omega) | (rw [fr_1 (by unfold frB; exact decide_eq_true ⟨by omega, by omega, by omega⟩)]; omega)) _ _ _ hP hD hS (lv_sub hl [4, 5, 1, 6, 0] rfl)
                            · skip
                              refine lv_iload (pc := 163) hx hb dX1_classes_163 (lv_at hl 6 rfl) ?_
                              refine zv_ineg (pc := 165) hx hb dX1_classes_165 ?_
                              refine lv_iload_n (pc := 166) hx hb dX1_classes_166 rfl (lv_at hl 5 rfl) ?_
                              refine zv_2 (pc := 167) (a := ((u9 : Nat) : Int)) (b := (-((k : Int) - (u9 : Int)))) ((nI_zI _)) (rfl) ?_
                              refine zv_icmp_eq (pc := 167) (tgt := 180) hx hb (by omega) (by omega) dX1_classes_167 (by decide) (fun h167 => ?_) (fun h167 => ?_)
                              · skip
                                refine nv_iconst (pc := 180) (k := 0) hx hb dX1_classes_180 rfl ?_
                                refine zv_2 (pc := 181) (a := ((0 : Nat) : Int)) (b := n2) ((nI_zI _)) (rfl) ?_
                                refine zv_iadd (pc := 181) hx hb dX1_classes_181 ?_
                                refine lv_istore_n (pc := 182) (lv' := [(2, .int (zI ((n2 + ((0 : Nat) : Int))))), (6, .int (nI (0))), (5, .int (nI (((sqN P ((k : Int) - (u9 : Int))) / (4 * u9))))), (0, .ref (ad 0)), (1, .int (zI (way))), (3, .int (nI (u9))), (4, .int (zI (((k : Int) - (u9 : Int)))))]) hx hb dX1_classes_182 rfl hl (by decide) rfl (fun ls hl => ?_)
                                refine lv_iinc (pc := 183) (v := zI ((((k : Int) - (u9 : Int)) + 1))) (lv' := [(4, .int (zI ((((k : Int) - (u9 : Int)) + 1)))), (2, .int (zI ((n2 + ((0 : Nat) : Int))))), (6, .int (nI (0))), (5, .int (nI (((sqN P ((k : Int) - (u9 : Int))) / (4 * u9))))), (0, .ref (ad 0)), (1, .int (zI (way))), (3, .int (nI (u9)))]) hx hb dX1_classes_183 hl (k := 6) rfl (zI_inc _) (by decide) rfl (fun ls hl => ?_)
                                refine lv_goto (pc := 186) (tgt := 98) hx hb dX1_classes_186 (by decide) ?_
                                have hl : lv_has ls 7 [(4, .int (zI ((((k + 1 : Nat) : Int) - (u9 : Int))))), (2, .int (zI ((n2 + ((0 : Nat) : Int))))), (6, .int (nI (0))), (5, .int (nI (((sqN P ((k : Int) - (u9 : Int))) / (4 * u9))))), (0, .ref (ad 0)), (1, .int (zI (way))), (3, .int (nI (u9)))] := by
                                  have e9 : zI ((((k : Int) - (u9 : Int)) + 1)) = zI ((((k + 1 : Nat) : Int) - (u9 : Int))) := by congr 1; omega
                                  rw [← e9]
                                  exact hl
                                exact ih_98 (k + 1) ((n2 + ((0 : Nat) : Int))) (by omega) (by omega) (by first | (rw [fr_0 (by unfold frB; exact decide_eq_false (fun q8 => by omega))]; omega) | (rw [fr_1 (by unfold frB; exact decide_eq_true ⟨by omega, by omega, by omega⟩)]; omega)) _ _ _ hP hD hS (lv_sub hl [4, 5, 1, 6, 0] rfl)
                              · skip
                                refine lv_iload_n (pc := 170) hx hb dX1_classes_170 rfl (lv_at hl 5 rfl) ?_
                                refine lv_iload (pc := 171) hx hb dX1_classes_171 (lv_at hl 1 rfl) ?_
                                refine nv_icmp_eq (pc := 173) (tgt := 180) hx hb (a := u9) (b := ((sqN P ((k : Int) - (u9 : Int))) / (4 * u9))) (by omega) (by omega) dX1_classes_173 (by decide) (fun h173 => ?_) (fun h173 => ?_)
                                · skip
                                  refine nv_iconst (pc := 180) (k := 0) hx hb dX1_classes_180 rfl ?_
                                  refine zv_2 (pc := 181) (a := ((0 : Nat) : Int)) (b := n2) ((nI_zI _)) (rfl) ?_
                                  refine zv_iadd (pc := 181) hx hb dX1_classes_181 ?_
                                  refine lv_istore_n (pc := 182) (lv' := [(2, .int (zI ((n2 + ((0 : Nat) : Int))))), (6, .int (nI (0))), (5, .int (nI (((sqN P ((k : Int) - (u9 : Int))) / (4 * u9))))), (0, .ref (ad 0)), (1, .int (zI (way))), (3, .int (nI (u9))), (4, .int (zI (((k : Int) - (u9 : Int)))))]) hx hb dX1_classes_182 rfl hl (by decide) rfl (fun ls hl => ?_)
                                  refine lv_iinc (pc := 183) (v := zI ((((k : Int) - (u9 : Int)) + 1))) (lv' := [(4, .int (zI ((((k : Int) - (u9 : Int)) + 1)))), (2, .int (zI ((n2 + ((0 : Nat) : Int))))), (6, .int (nI (0))), (5, .int (nI (((sqN P ((k : Int) - (u9 : Int))) / (4 * u9))))), (0, .ref (ad 0)), (1, .int (zI (way))), (3, .int (nI (u9)))]) hx hb dX1_classes_183 hl (k := 6) rfl (zI_inc _) (by decide) rfl (fun ls hl => ?_)
                                  refine lv_goto (pc := 186) (tgt := 98) hx hb dX1_classes_186 (by decide) ?_
                                  have hl : lv_has ls 7 [(4, .int (zI ((((k + 1 : Nat) : Int) - (u9 : Int))))), (2, .int (zI ((n2 + ((0 : Nat) : Int))))), (6, .int (nI (0))), (5, .int (nI (((sqN P ((k : Int) - (u9 : Int))) / (4 * u9))))), (0, .ref (ad 0)), (1, .int (zI (way))), (3, .int (nI (u9)))] := by
                                    have e9 : zI ((((k : Int) - (u9 : Int)) + 1)) = zI ((((k + 1 : Nat) : Int) - (u9 : Int))) := by congr 1; omega
                                    rw [← e9]
                                    exact hl
                                  exact ih_98 (k + 1) ((n2 + ((0 : Nat) : Int))) (by omega) (by omega) (by first | (rw [fr_0 (by unfold frB; exact decide_eq_false (fun q8 => by omega))]; omega) | (rw [fr_1 (by unfold frB; exact decide_eq_true ⟨by omega, by omega, by omega⟩)]; omega)) _ _ _ hP hD hS (lv_sub hl [4, 5, 1, 6, 0] rfl)
                                · skip
                                  refine nv_iconst (pc := 176) (k := 1) hx hb dX1_classes_176 rfl ?_
                                  refine lv_goto (pc := 177) (tgt := 181) hx hb dX1_classes_177 (by decide) ?_
                                  refine zv_2 (pc := 181) (a := ((1 : Nat) : Int)) (b := n2) ((nI_zI _)) (rfl) ?_
                                  refine zv_iadd (pc := 181) hx hb dX1_classes_181 ?_
                                  refine lv_istore_n (pc := 182) (lv' := [(2, .int (zI ((n2 + ((1 : Nat) : Int))))), (6, .int (nI (0))), (5, .int (nI (((sqN P ((k : Int) - (u9 : Int))) / (4 * u9))))), (0, .ref (ad 0)), (1, .int (zI (way))), (3, .int (nI (u9))), (4, .int (zI (((k : Int) - (u9 : Int)))))]) hx hb dX1_classes_182 rfl hl (by decide) rfl (fun ls hl => ?_)
                                  refine lv_iinc (pc := 183) (v := zI ((((k : Int) - (u9 : Int)) + 1))) (lv' := [(4, .int (zI ((((k : Int) - (u9 : Int)) + 1)))), (2, .int (zI ((n2 + ((1 : Nat) : Int))))), (6, .int (nI (0))), (5, .int (nI (((sqN P ((k : Int) - (u9 : Int))) / (4 * u9))))), (0, .ref (ad 0)), (1, .int (zI (way))), (3, .int (nI (u9)))]) hx hb dX1_classes_183 hl (k := 6) rfl (zI_inc _) (by decide) rfl (fun ls hl => ?_)
                                  refine lv_goto (pc := 186) (tgt := 98) hx hb dX1_classes_186 (by decide) ?_
                                  have hl : lv_has ls 7 [(4, .int (zI ((((k + 1 : Nat) : Int) - (u9 : Int))))), (2, .int (zI ((n2 + ((1 : Nat) : Int))))), (6, .int (nI (0))), (5, .int (nI (((sqN P ((k : Int) - (u9 : Int))) / (4 * u9))))), (0, .ref (ad 0)), (1, .int (zI (way))), (3, .int (nI (u9)))] := by
                                    have e9 : zI ((((k : Int) - (u9 : Int)) + 1)) = zI ((((k + 1 : Nat) : Int) - (u9 : Int))) := by congr 1; omega
                                    rw [← e9]
                                    exact hl
                                  exact ih_98 (k + 1) ((n2 + ((1 : Nat) : Int))) (by omega) (by omega) (by first | (rw [fr_0 (by unfold frB; exact decide_eq_false (fun q8 => by omega))]; omega) | (rw [fr_1 (by unfold frB; exact decide_eq_true ⟨by omega, by omega, by omega⟩)]; omega)) _ _ _ hP hD hS (lv_sub hl [4, 5, 1, 6, 0] rfl)
                        · skip
                          refine nv_iconst (pc := 145) (k := 1) hx hb dX1_classes_145 rfl ?_
                          refine lv_goto (pc := 146) (tgt := 150) hx hb dX1_classes_146 (by decide) ?_
                          refine lv_istore (pc := 150) (lv' := [(6, .int (nI (1))), (5, .int (nI (((sqN P ((k : Int) - (u9 : Int))) / (4 * u9))))), (0, .ref (ad 0)), (1, .int (zI (way))), (2, .int (zI (n2))), (3, .int (nI (u9))), (4, .int (zI (((k : Int) - (u9 : Int)))))]) hx hb dX1_classes_150 hl (by decide) rfl (fun ls hl => ?_)
                          refine lv_iload_n (pc := 152) hx hb dX1_classes_152 rfl (lv_at hl 4 rfl) ?_
                          refine lv_iload (pc := 153) hx hb dX1_classes_153 (lv_at hl 0 rfl) ?_
                          refine nv_if_eq (pc := 155) (tgt := 180) hx hb (a := 1) (by omega) dX1_classes_155 (by decide) (fun h155 => ?_) (fun h155 => ?_)
                          · skip
                            refine nv_iconst (pc := 180) (k := 0) hx hb dX1_classes_180 rfl ?_
                            refine zv_2 (pc := 181) (a := ((0 : Nat) : Int)) (b := n2) ((nI_zI _)) (rfl) ?_
                            refine zv_iadd (pc := 181) hx hb dX1_classes_181 ?_
                            refine lv_istore_n (pc := 182) (lv' := [(2, .int (zI ((n2 + ((0 : Nat) : Int))))), (6, .int (nI (1))), (5, .int (nI (((sqN P ((k : Int) - (u9 : Int))) / (4 * u9))))), (0, .ref (ad 0)), (1, .int (zI (way))), (3, .int (nI (u9))), (4, .int (zI (((k : Int) - (u9 : Int)))))]) hx hb dX1_classes_182 rfl hl (by decide) rfl (fun ls hl => ?_)
                            refine lv_iinc (pc := 183) (v := zI ((((k : Int) - (u9 : Int)) + 1))) (lv' := [(4, .int (zI ((((k : Int) - (u9 : Int)) + 1)))), (2, .int (zI ((n2 + ((0 : Nat) : Int))))), (6, .int (nI (1))), (5, .int (nI (((sqN P ((k : Int) - (u9 : Int))) / (4 * u9))))), (0, .ref (ad 0)), (1, .int (zI (way))), (3, .int (nI (u9)))]) hx hb dX1_classes_183 hl (k := 6) rfl (zI_inc _) (by decide) rfl (fun ls hl => ?_)
                            refine lv_goto (pc := 186) (tgt := 98) hx hb dX1_classes_186 (by decide) ?_
                            have hl : lv_has ls 7 [(4, .int (zI ((((k + 1 : Nat) : Int) - (u9 : Int))))), (2, .int (zI ((n2 + ((0 : Nat) : Int))))), (6, .int (nI (1))), (5, .int (nI (((sqN P ((k : Int) - (u9 : Int))) / (4 * u9))))), (0, .ref (ad 0)), (1, .int (zI (way))), (3, .int (nI (u9)))] := by
                              have e9 : zI ((((k : Int) - (u9 : Int)) + 1)) = zI ((((k + 1 : Nat) : Int) - (u9 : Int))) := by congr 1; omega
                              rw [← e9]
                              exact hl
                            exact ih_98 (k + 1) ((n2 + ((0 : Nat) : Int))) (by omega) (by omega) (by first | (rw [fr_0 (by unfold frB; exact decide_eq_false (fun q8 => by omega))]; omega) | (rw [fr_1 (by unfold frB; exact decide_eq_true ⟨by omega, by omega, by omega⟩)]; omega)) _ _ _ hP hD hS (lv_sub hl [4, 5, 1, 6, 0] rfl)
                          · skip
                            refine lv_iload (pc := 158) hx hb dX1_classes_158 (lv_at hl 6 rfl) ?_
                            refine zv_if_ge (pc := 160) (tgt := 176) hx hb (by omega) dX1_classes_160 (by decide) (fun h160 => ?_) (fun h160 => ?_)
                            · skip
                              refine nv_iconst (pc := 176) (k := 1) hx hb dX1_classes_176 rfl ?_
                              refine lv_goto (pc := 177) (tgt := 181) hx hb dX1_classes_177 (by decide) ?_
                              refine zv_2 (pc := 181) (a := ((1 : Nat) : Int)) (b := n2) ((nI_zI _)) (rfl) ?_
                              refine zv_iadd (pc := 181) hx hb dX1_classes_181 ?_
                              refine lv_istore_n (pc := 182) (lv' := [(2, .int (zI ((n2 + ((1 : Nat) : Int))))), (6, .int (nI (1))), (5, .int (nI (((sqN P ((k : Int) - (u9 : Int))) / (4 * u9))))), (0, .ref (ad 0)), (1, .int (zI (way))), (3, .int (nI (u9))), (4, .int (zI (((k : Int) - (u9 : Int)))))]) hx hb dX1_classes_182 rfl hl (by decide) rfl (fun ls hl => ?_)
                              refine lv_iinc (pc := 183) (v := zI ((((k : Int) - (u9 : Int)) + 1))) (lv' := [(4, .int (zI ((((k : Int) - (u9 : Int)) + 1)))), (2, .int (zI ((n2 + ((1 : Nat) : Int))))), (6, .int (nI (1))), (5, .int (nI (((sqN P ((k : Int) - (u9 : Int))) / (4 * u9))))), (0, .ref (ad 0)), (1, .int (zI (way))), (3, .int (nI (u9)))]) hx hb dX1_classes_183 hl (k := 6) rfl (zI_inc _) (by decide) rfl (fun ls hl => ?_)
                              refine lv_goto (pc := 186) (tgt := 98) hx hb dX1_classes_186 (by decide) ?_
                              have hl : lv_has ls 7 [(4, .int (zI ((((k + 1 : Nat) : Int) - (u9 : Int))))), (2, .int (zI ((n2 + ((1 : Nat) : Int))))), (6, .int (nI (1))), (5, .int (nI (((sqN P ((k : Int) - (u9 : Int))) / (4 * u9))))), (0, .ref (ad 0)), (1, .int (zI (way))), (3, .int (nI (u9)))] := by
                                have e9 : zI ((((k : Int) - (u9 : Int)) + 1)) = zI ((((k + 1 : Nat) : Int) - (u9 : Int))) := by congr 1; omega
                                rw [← e9]
                                exact hl
                              exact ih_98 (k + 1) ((n2 + ((1 : Nat) : Int))) (by omega) (by omega) (by first | (rw [fr_0 (by unfold frB; exact decide_eq_false (fun q8 => by omega))]; omega) | (rw [fr_1 (by unfold frB; exact decide_eq_true ⟨by omega, by omega, by omega⟩)]; omega)) _ _ _ hP hD hS (lv_sub hl [4, 5, 1, 6, 0] rfl)
                            · skip
                              refine lv_iload (pc := 163) hx hb dX1_classes_163 (lv_at hl 6 rfl) ?_
                              refine zv_ineg (pc := 165) hx hb dX1_classes_165 ?_
                              refine lv_iload_n (pc := 166) hx hb dX1_classes_166 rfl (lv_at hl 5 rfl) ?_
                              refine zv_2 (pc := 167) (a := ((u9 : Nat) : Int)) (b := (-((k : Int) - (u9 : Int)))) ((nI_zI _)) (rfl) ?_
                              refine zv_icmp_eq (pc := 167) (tgt := 180) hx hb (by omega) (by omega) dX1_classes_167 (by decide) (fun h167 => ?_) (fun h167 => ?_)
                              · skip
                                refine nv_iconst (pc := 180) (k := 0) hx hb dX1_classes_180 rfl ?_
                                refine zv_2 (pc := 181) (a := ((0 : Nat) : Int)) (b := n2) ((nI_zI _)) (rfl) ?_
                                refine zv_iadd (pc := 181) hx hb dX1_classes_181 ?_
                                refine lv_istore_n (pc := 182) (lv' := [(2, .int (zI ((n2 + ((0 : Nat) : Int))))), (6, .int (nI (1))), (5, .int (nI (((sqN P ((k : Int) - (u9 : Int))) / (4 * u9))))), (0, .ref (ad 0)), (1, .int (zI (way))), (3, .int (nI (u9))), (4, .int (zI (((k : Int) - (u9 : Int)))))]) hx hb dX1_classes_182 rfl hl (by decide) rfl (fun ls hl => ?_)
                                refine lv_iinc (pc := 183) (v := zI ((((k : Int) - (u9 : Int)) + 1))) (lv' := [(4, .int (zI ((((k : Int) - (u9 : Int)) + 1)))), (2, .int (zI ((n2 + ((0 : Nat) : Int))))), (6, .int (nI (1))), (5, .int (nI (((sqN P ((k : Int) - (u9 : Int))) / (4 * u9))))), (0, .ref (ad 0)), (1, .int (zI (way))), (3, .int (nI (u9)))]) hx hb dX1_classes_183 hl (k := 6) rfl (zI_inc _) (by decide) rfl (fun ls hl => ?_)
                                refine lv_goto (pc := 186) (tgt := 98) hx hb dX1_classes_186 (by decide) ?_
                                have hl : lv_has ls 7 [(4, .int (zI ((((k + 1 : Nat) : Int) - (u9 : Int))))), (2, .int (zI ((n2 + ((0 : Nat) : Int))))), (6, .int (nI (1))), (5, .int (nI (((sqN P ((k : Int) - (u9 : Int))) / (4 * u9))))), (0, .ref (ad 0)), (1, .int (zI (way))), (3, .int (nI (u9)))] := by
                                  have e9 : zI ((((k : Int) - (u9 : Int)) + 1)) = zI ((((k + 1 : Nat) : Int) - (u9 : Int))) := by congr 1; omega
                                  rw [← e9]
                                  exact hl
                                exact ih_98 (k + 1) ((n2 + ((0 : Nat) : Int))) (by omega) (by omega) (by first | (rw [fr_0 (by unfold frB; exact decide_eq_false (fun q8 => by omega))]; omega) | (rw [fr_1 (by unfold frB; exact decide_eq_true ⟨by omega, by omega, by omega⟩)]; omega)) _ _ _ hP hD hS (lv_sub hl [4, 5, 1, 6, 0] rfl)
                              · skip
                                refine lv_iload_n (pc := 170) hx hb dX1_classes_170 rfl (lv_at hl 5 rfl) ?_
                                refine lv_iload (pc := 171) hx hb dX1_classes_171 (lv_at hl 1 rfl) ?_
                                refine nv_icmp_eq (pc := 173) (tgt := 180) hx hb (a := u9) (b := ((sqN P ((k : Int) - (u9 : Int))) / (4 * u9))) (by omega) (by omega) dX1_classes_173 (by decide) (fun h173 => ?_) (fun h173 => ?_)
                                · skip
                                  refine nv_iconst (pc := 180) (k := 0) hx hb dX1_classes_180 rfl ?_
                                  refine zv_2 (pc := 181) (a := ((0 : Nat) : Int)) (b := n2) ((nI_zI _)) (rfl) ?_
                                  refine zv_iadd (pc := 181) hx hb dX1_classes_181 ?_
                                  refine lv_istore_n (pc := 182) (lv' := [(2, .int (zI ((n2 + ((0 : Nat) : Int))))), (6, .int (nI (1))), (5, .int (nI (((sqN P ((k : Int) - (u9 : Int))) / (4 * u9))))), (0, .ref (ad 0)), (1, .int (zI (way))), (3, .int (nI (u9))), (4, .int (zI (((k : Int) - (u9 : Int)))))]) hx hb dX1_classes_182 rfl hl (by decide) rfl (fun ls hl => ?_)
                                  refine lv_iinc (pc := 183) (v := zI ((((k : Int) - (u9 : Int)) + 1))) (lv' := [(4, .int (zI ((((k : Int) - (u9 : Int)) + 1)))), (2, .int (zI ((n2 + ((0 : Nat) : Int))))), (6, .int (nI (1))), (5, .int (nI (((sqN P ((k : Int) - (u9 : Int))) / (4 * u9))))), (0, .ref (ad 0)), (1, .int (zI (way))), (3, .int (nI (u9)))]) hx hb dX1_classes_183 hl (k := 6) rfl (zI_inc _) (by decide) rfl (fun ls hl => ?_)
                                  refine lv_goto (pc := 186) (tgt := 98) hx hb dX1_classes_186 (by decide) ?_
                                  have hl : lv_has ls 7 [(4, .int (zI ((((k + 1 : Nat) : Int) - (u9 : Int))))), (2, .int (zI ((n2 + ((0 : Nat) : Int))))), (6, .int (nI (1))), (5, .int (nI (((sqN P ((k : Int) - (u9 : Int))) / (4 * u9))))), (0, .ref (ad 0)), (1, .int (zI (way))), (3, .int (nI (u9)))] := by
                                    have e9 : zI ((((k : Int) - (u9 : Int)) + 1)) = zI ((((k + 1 : Nat) : Int) - (u9 : Int))) := by congr 1; omega
                                    rw [← e9]
                                    exact hl
                                  exact ih_98 (k + 1) ((n2 + ((0 : Nat) : Int))) (by omega) (by omega) (by first | (rw [fr_0 (by unfold frB; exact decide_eq_false (fun q8 => by omega))]; omega) | (rw [fr_1 (by unfold frB; exact decide_eq_true ⟨by omega, by omega, by omega⟩)]; omega)) _ _ _ hP hD hS (lv_sub hl [4, 5, 1, 6, 0] rfl)
                                · skip
                                  refine nv_iconst (pc := 176) (k := 1) hx hb dX1_classes_176 rfl ?_
                                  refine lv_goto (pc := 177) (tgt := 181) hx hb dX1_classes_177 (by decide) ?_
                                  refine zv_2 (pc := 181) (a := ((1 : Nat) : Int)) (b := n2) ((nI_zI _)) (rfl) ?_
                                  refine zv_iadd (pc := 181) hx hb dX1_classes_181 ?_
                                  refine lv_istore_n (pc := 182) (lv' := [(2, .int (zI ((n2 + ((1 : Nat) : Int))))), (6, .int (nI (1))), (5, .int (nI (((sqN P ((k : Int) - (u9 : Int))) / (4 * u9))))), (0, .ref (ad 0)), (1, .int (zI (way))), (3, .int (nI (u9))), (4, .int (zI (((k : Int) - (u9 : Int)))))]) hx hb dX1_classes_182 rfl hl (by decide) rfl (fun ls hl => ?_)
                                  refine lv_iinc (pc := 183) (v := zI ((((k : Int) - (u9 : Int)) + 1))) (lv' := [(4, .int (zI ((((k : Int) - (u9 : Int)) + 1)))), (2, .int (zI ((n2 + ((1 : Nat) : Int))))), (6, .int (nI (1))), (5, .int (nI (((sqN P ((k : Int) - (u9 : Int))) / (4 * u9))))), (0, .ref (ad 0)), (1, .int (zI (way))), (3, .int (nI (u9)))]) hx hb dX1_classes_183 hl (k := 6) rfl (zI_inc _) (by decide) rfl (fun ls hl => ?_)
                                  refine lv_goto (pc := 186) (tgt := 98) hx hb dX1_classes_186 (by decide) ?_
                                  have hl : lv_has ls 7 [(4, .int (zI ((((k + 1 : Nat) : Int) - (u9 : Int))))), (2, .int (zI ((n2 + ((1 : Nat) : Int))))), (6, .int (nI (1))), (5, .int (nI (((sqN P ((k : Int) - (u9 : Int))) / (4 * u9))))), (0, .ref (ad 0)), (1, .int (zI (way))), (3, .int (nI (u9)))] := by
                                    have e9 : zI ((((k : Int) - (u9 : Int)) + 1)) = zI ((((k + 1 : Nat) : Int) - (u9 : Int))) := by congr 1; omega
                                    rw [← e9]
                                    exact hl
                                  exact ih_98 (k + 1) ((n2 + ((1 : Nat) : Int))) (by omega) (by omega) (by first | (rw [fr_0 (by unfold frB; exact decide_eq_false (fun q8 => by omega))]; omega) | (rw [fr_1 (by unfold frB; exact decide_eq_true ⟨by omega, by omega, by omega⟩)]; omega)) _ _ _ hP hD hS (lv_sub hl [4, 5, 1, 6, 0] rfl)
                exact L98 _ (0) (n) (Nat.lt_succ_self _) (by omega) (by rw [hn]; exact (Int.add_zero _).symm) _ _ _ hP hD hS (lv_sub hl [1, 2, 3, 4, 0] rfl)
          exact L86 _ (1) (0) (Nat.lt_succ_self _) (by omega) (rfl) _ _ _ hP hD hS (lv_sub hl [2, 3, 1, 0] rfl)
        · skip
          refine nv_iconst (pc := 40) (k := 1) hx hb dX1_classes_40 rfl ?_
          refine lv_istore_n (pc := 41) (lv' := [(3, .int (nI (1))), (2, .int (nI (0))), (0, .ref (ad 0)), (1, .int (zI (way)))]) hx hb dX1_classes_41 rfl hl (by decide) rfl (fun ls hl => ?_)
          have hl : lv_has ls 7 [(3, .int (nI (1))), (2, .int (zI (0))), (0, .ref (ad 0)), (1, .int (zI (way)))] := by
            have e9 : nI (0) = zI (0) := rfl
            rw [← e9]
            exact hl
          have L42 : ∀ (n9_42 : Nat), ∀ (x : Nat) (n : Int), P + 1 - x < n9_42 → (1 ≤ x ∧ x ≤ P) → (n = siS (c0F P) x) → ∀ (H : Heap) (locs : List Loc) (ls : Array Slot), va_P dd vwCl (wM ad cI cL (P) ((rootN P)) (D) ((phN D)) (ix) (ho) (re) (wk) (tu) (wa) (nx)) H → va_D A (wM ad cI cL (P) ((rootN P)) (D) ((phN D)) (ix) (ho) (re) (wk) (tu) (wa) (nx)) → va_S A s.heap H locs → lv_has ls 7 [(0, .ref (ad 0)), (1, .int (zI (way))), (2, .int (zI (n))), (3, .int (nI (x)))] → W p l e ({ frames := 1, cells := 0, slots := 0, locals := 25 } : Room) s m args below meth c H locs 0 0 Q (F0 m 42 ls []) := by
            intro n9_42
            induction n9_42 with
            | zero => intro x n hm; exact absurd hm (Nat.not_lt_zero _)
            | succ n9_42 ih_42 =>
              intro x n hm_42 hx9 hn H locs ls hP hD hS hl
              have hlt := ixN_le P x
              refine lv_iload_n (pc := 42) hx hb dX1_classes_42 rfl (lv_at hl 3 rfl) ?_
              refine lv_aload_n (pc := 43) hx hb dX1_classes_43 rfl (lv_at hl 0 rfl) ?_
              refine va_get (pc := 44) (D := dd) (ci := 1) (v := .int (nI (P))) (C := RX1) (T := TX1) (N := 11) hx hb hts hin hown hK hP 0 rfl rfl 0 (by decide) (hts (.fieldLink RX1 42 "TurningSumsModel" "p" "I") (by decide +kernel)) (fun _ h9 => h9) rfl dX1_classes_44 ?_
              refine nv_icmp_ge (pc := 47) (tgt := 76) hx hb (a := x) (b := P) (by omega) (by omega) dX1_classes_47 (by decide) (fun h47 => ?_) (fun h47 => ?_)
              · skip
                have hc9 := c0_rng (P := P) (n := x) (by omega)
                have ex : x = P := (by omega)
                refine lv_iload_n (pc := 76) hx hb dX1_classes_76 rfl (lv_at hl 2 rfl) ?_
                refine zv_ineg (pc := 77) hx hb dX1_classes_77 ?_
                refine lv_aload_n (pc := 78) hx hb dX1_classes_78 rfl (lv_at hl 0 rfl) ?_
                refine va_get (pc := 79) (D := dd) (ci := 1) (v := .int (nI (P))) (C := RX1) (T := TX1) (N := 11) hx hb hts hin hown hK hP 0 rfl rfl 0 (by decide) (hts (.fieldLink RX1 42 "TurningSumsModel" "p" "I") (by decide +kernel)) (fun _ h9 => h9) rfl dX1_classes_79 ?_
                refine lv_idiv (pc := 82) hx hb dX1_classes_82 (nI_ne0 (by omega) (by omega)) ?_
                refine tq_i (y := zI ((n.tdiv (-(P : Int))))) (by rw [nI_zI, zI_div (by omega) (by omega) (by omega), Int.neg_tdiv, Int.tdiv_neg]) ?_
                exact hret _ _ _ _ _ (()) (by unfold clS; rw [if_pos (by omega), if_pos (by omega), if_pos (by omega), hn, ex]; rfl) hP hD hS dX1_classes_83
              · skip
                refine lv_iload_n (pc := 50) hx hb dX1_classes_50 rfl (lv_at hl 2 rfl) ?_
                refine lv_aload_n (pc := 51) hx hb dX1_classes_51 rfl (lv_at hl 0 rfl) ?_
                refine va_get (pc := 52) (D := dd) (ci := 1) (v := .ref (ad 1)) (C := RX1) (T := TX1) (N := 11) hx hb hts hin hown hK hP 0 rfl rfl 4 (by decide) (hts (.fieldLink RX1 7 "TurningSumsModel" "index" "[I") (by decide +kernel)) (fun _ h9 => h9) rfl dX1_classes_52 ?_
                refine lv_iload_n (pc := 55) hx hb dX1_classes_55 rfl (lv_at hl 3 rfl) ?_
                refine nv_iald (pc := 56) hx hb hK hP 1 0 rfl rfl (i := x) (by omega) (by decide) (v := nI ((ixN P (x)))) (hix _ (by omega) (by omega)) dX1_classes_56 ?_
                refine nv_iconst (pc := 57) (k := 2) hx hb dX1_classes_57 rfl ?_
                refine nv_irem (pc := 58) hx hb (by omega) (by omega) (by omega) dX1_classes_58 ?_
                refine nv_if_ne (pc := 59) (tgt := 66) hx hb (a := ((ixN P (x)) % 2)) (Nat.lt_trans (Nat.mod_lt _ (by omega)) (by omega)) dX1_classes_59 (by decide) (fun h59 => ?_) (fun h59 => ?_)
                · skip
                  refine lv_iload_n (pc := 66) hx hb dX1_classes_66 rfl (lv_at hl 3 rfl) ?_
                  refine zv_1 (pc := 67) (a := ((x : Nat) : Int)) ((nI_zI _)) ?_
                  refine zv_ineg (pc := 67) hx hb dX1_classes_67 ?_
                  refine zv_iadd (pc := 68) hx hb dX1_classes_68 ?_
                  refine lv_istore_n (pc := 69) (lv' := [(2, .int (zI ((n + (-((x : Nat) : Int)))))), (0, .ref (ad 0)), (1, .int (zI (way))), (3, .int (nI (x)))]) hx hb dX1_classes_69 rfl hl (by decide) rfl (fun ls hl => ?_)
                  refine lv_iinc (pc := 70) (v := nI ((x + 1))) (lv' := [(3, .int (nI ((x + 1)))), (2, .int (zI ((n + (-((x : Nat) : Int)))))), (0, .ref (ad 0)), (1, .int (zI (way)))]) hx hb dX1_classes_70 hl (k := 3) rfl (nI_inc _) (by decide) rfl (fun ls hl => ?_)
                  refine lv_goto (pc := 73) (tgt := 42) hx hb dX1_classes_73 (by decide) ?_
                  exact ih_42 ((x + 1)) ((n + (-((x : Nat) : Int)))) (by omega) (by omega) (by rw [hn, c0_0 hx9.1 h59]) _ _ _ hP hD hS (lv_sub hl [2, 3, 1, 0] rfl)
                · skip
                  refine lv_iload_n (pc := 62) hx hb dX1_classes_62 rfl (lv_at hl 3 rfl) ?_
                  refine lv_goto (pc := 63) (tgt := 68) hx hb dX1_classes_63 (by decide) ?_
                  refine zv_2 (pc := 68) (a := ((x : Nat) : Int)) (b := n) ((nI_zI _)) (rfl) ?_
                  refine zv_iadd (pc := 68) hx hb dX1_classes_68 ?_
                  refine lv_istore_n (pc := 69) (lv' := [(2, .int (zI ((n + ((x : Nat) : Int))))), (0, .ref (ad 0)), (1, .int (zI (way))), (3, .int (nI (x)))]) hx hb dX1_classes_69 rfl hl (by decide) rfl (fun ls hl => ?_)
                  refine lv_iinc (pc := 70) (v := nI ((x + 1))) (lv' := [(3, .int (nI ((x + 1)))), (2, .int (zI ((n + ((x : Nat) : Int))))), (0, .ref (ad 0)), (1, .int (zI (way)))]) hx hb dX1_classes_70 hl (k := 3) rfl (nI_inc _) (by decide) rfl (fun ls hl => ?_)
                  refine lv_goto (pc := 73) (tgt := 42) hx hb dX1_classes_73 (by decide) ?_
                  exact ih_42 ((x + 1)) ((n + ((x : Nat) : Int))) (by omega) (by omega) (by rw [hn, c0_1 hx9.1 h59]) _ _ _ hP hD hS (lv_sub hl [2, 3, 1, 0] rfl)
          exact L42 _ (1) (0) (Nat.lt_succ_self _) (by omega) (rfl) _ _ _ hP hD hS (lv_sub hl [2, 3, 1, 0] rfl)
      · skip
        refine lv_bipush (pc := 31) (v := zI (-4)) hx hb dX1_classes_31 (by decide) ?_
        exact hret _ _ _ _ _ (()) (by unfold clS; rw [if_pos (by omega), if_neg (by omega)]) hP hD hS dX1_classes_33
  · skip
    rw [zL_le (by omega) (by omega), zL_le (by omega) (by omega)] at h7
    refine lv_bipush (pc := 10) (v := zI (-3)) hx hb dX1_classes_10 (by decide) ?_
    exact hret _ _ _ _ _ (()) (by unfold clS; rw [if_neg (by omega)]) hP hD hS dX1_classes_12
set_option maxHeartbeats 4000000 in
set_option maxRecDepth 100000 in
theorem c_X1_rows (l : Launch) (dd : va_G) {ad : Nat → Nat} {cI cL cQ : ClassId}  {P : Nat} {D : Nat} {ix : Nat → Int32} {ho : Nat → Int64} {re : Nat → Int32} {wk : Nat → Int64} {tu : Nat → Int64} {wa : Nat → Int64} {nx : Nat → Int64} {k9 : Int} (hkr : -2147483648 ≤ k9 ∧ k9 < 2147483648) (hP1 : okP P) (hD1 : 1 ≤ D ∧ D ≤ 12) (hix : ∀ y, 1 ≤ y → y < P → ix y = nI (ixN P y)) : CTl l yX1_rows wsX1_rows ({ frames := 1, cells := 0, slots := 0, locals := 25 } : Room) dd (tysA cI cL cQ) (am_no) [.ref (ad 0), .int (zI (k9))] (wM ad cI cL (P) ((rootN P)) (D) ((phN D)) (ix) (ho) (re) (wk) (tu) (wa) (nx)) (fun (r : Int64) (u : (Nat → Int64) × (Nat → Int64)) => r = rwS P D k9) (fun (u : (Nat → Int64) × (Nat → Int64)) => (wM ad cI cL (P) ((rootN P)) (D) ((phN D)) (ix) (ho) (re) (wk) (tu) (u.1) (u.2))) := by
  refine CTl_of (cc := cX1_rows) (maxL := 7) (by decide +kernel) rfl (Nat.le_of_ble_eq_true rfl) ?_
  intro p e s m args below meth c A Q ls H locs hx hb hts hown hml hP hK hD hS hA hX hl hret
  have hin : ∀ w ∈ wsX10, w ∈ wsX1_rows := by decide +kernel
  have hl : lv_has ls 7 [(0, .ref (ad 0)), (1, .int (zI (k9)))] := hl
  obtain ⟨o1, o2, o3, o4, o5, o6⟩ := id hP1
  have hph := ph_rng D (by omega) hD1.1
  refine lv_iload_n (pc := 0) hx hb dX1_rows_0 rfl (lv_at hl 1 rfl) ?_
  refine lv_i2l (pc := 1) (v := zL (k9)) hx hb dX1_rows_1 (zL_zI (by omega) (by omega)) ?_
  refine lv_lconst (pc := 2) (v := zL 0) hx hb dX1_rows_2 (by decide) ?_
  refine tq_ldc2 (pc := 3) (k := (6)) hx hb hown (hts (.constantLong RX1 112 (6)) (by decide +kernel)) dX1_rows_3 ?_
  refine CTi_S0 (pc := 6) am_no_ok (As := [.long (zL (k9)), .long (zL 0), .long (zL (6))]) (rest := []) ⟨hx, hb, hml, hown, hts⟩ (c_X1_in l dd ) (va_cwS 3 hts gX1_rows_X1_in rfl rfl rfl (by decide +kernel) ⟨Nat.le_of_ble_eq_true rfl, Nat.le_of_ble_eq_true rfl⟩) hK hP hD hS hA hX rfl hl.1 rfl (Nat.le_of_ble_eq_true rfl) ⟨Nat.zero_le _, Nat.zero_le _⟩ dX1_rows_6 (fun r u H locs hw hP hD hS => ?_)
  try dsimp only at hw
  subst hw
  refine bv_if_ne (pc := 9) (tgt := 16) hx hb dX1_rows_9 (by decide) (fun h9 => ?_) (fun h9 => ?_)
  · skip
    rw [zL_le (by omega) (by omega), zL_le (by omega) (by omega)] at h9
    refine nv_iconst (pc := 16) (k := 0) hx hb dX1_rows_16 rfl ?_
    refine lv_istore_n (pc := 17) (lv' := [(2, .int (nI (0))), (0, .ref (ad 0)), (1, .int (zI (k9)))]) hx hb dX1_rows_17 rfl hl (by decide) rfl (fun ls hl => ?_)
    have L18 : ∀ (n9_18 : Nat), ∀ (v : Nat) (wav : Nat → Int64), P + 1 - v < n9_18 → (v ≤ P) → (∀ q, q < v → wav q = wyS P D 0 q) → ∀ (H : Heap) (locs : List Loc) (ls : Array Slot), va_P dd vwCl (wM ad cI cL (P) ((rootN P)) (D) ((phN D)) (ix) (ho) (re) (wk) (tu) (wav) (nx)) H → va_D A (wM ad cI cL (P) ((rootN P)) (D) ((phN D)) (ix) (ho) (re) (wk) (tu) (wav) (nx)) → va_S A s.heap H locs → lv_has ls 7 [(0, .ref (ad 0)), (1, .int (zI (k9))), (2, .int (nI (v)))] → W p l e ({ frames := 1, cells := 0, slots := 0, locals := 25 } : Room) s m args below meth c H locs 0 0 Q (F0 m 18 ls []) := by
      intro n9_18
      induction n9_18 with
      | zero => intro v wav hm; exact absurd hm (Nat.not_lt_zero _)
      | succ n9_18 ih_18 =>
        intro v wav hm_18 hv9 hwa H locs ls hP hD hS hl
        refine lv_iload_n (pc := 18) hx hb dX1_rows_18 rfl (lv_at hl 2 rfl) ?_
        refine lv_aload_n (pc := 19) hx hb dX1_rows_19 rfl (lv_at hl 0 rfl) ?_
        refine va_get (pc := 20) (D := dd) (ci := 1) (v := .int (nI (P))) (C := RX1) (T := TX1) (N := 11) hx hb hts hin hown hK hP 0 rfl rfl 0 (by decide) (hts (.fieldLink RX1 42 "TurningSumsModel" "p" "I") (by decide +kernel)) (fun _ h9 => h9) rfl dX1_rows_20 ?_
        refine nv_icmp_ge (pc := 23) (tgt := 47) hx hb (a := v) (b := P) (by omega) (by omega) dX1_rows_23 (by decide) (fun h23 => ?_) (fun h23 => ?_)
        · skip
          refine nv_iconst (pc := 47) (k := 0) hx hb dX1_rows_47 rfl ?_
          refine lv_istore_n (pc := 48) (lv' := [(2, .int (nI (0))), (0, .ref (ad 0)), (1, .int (zI (k9)))]) hx hb dX1_rows_48 rfl hl (by decide) rfl (fun ls hl => ?_)
          have L49 : ∀ (n9_49 : Nat), ∀ (i : Nat) (wai : Nat → Int64) (nxi : Nat → Int64), 7 - i < n9_49 → ((i : Int) ≤ k9) → (∀ q, q < P → wai q = wyS P D i q) → ∀ (H : Heap) (locs : List Loc) (ls : Array Slot), va_P dd vwCl (wM ad cI cL (P) ((rootN P)) (D) ((phN D)) (ix) (ho) (re) (wk) (tu) (wai) (nxi)) H → va_D A (wM ad cI cL (P) ((rootN P)) (D) ((phN D)) (ix) (ho) (re) (wk) (tu) (wai) (nxi)) → va_S A s.heap H locs → lv_has ls 7 [(0, .ref (ad 0)), (1, .int (zI (k9))), (2, .int (nI (i)))] → W p l e ({ frames := 1, cells := 0, slots := 0, locals := 25 } : Room) s m args below meth c H locs 0 0 Q (F0 m 49 ls []) := by
            intro n9_49
            induction n9_49 with
            | zero => intro i wai nxi hm; exact absurd hm (Nat.not_lt_zero _)
            | succ n9_49 ih_49 =>
              intro i wai nxi hm_49 hi9 hwi H locs ls hP hD hS hl
              refine lv_iload_n (pc := 49) hx hb dX1_rows_49 rfl (lv_at hl 2 rfl) ?_
              refine lv_iload_n (pc := 50) hx hb dX1_rows_50 rfl (lv_at hl 1 rfl) ?_
              refine zv_2 (pc := 51) (a := k9) (b := ((i : Nat) : Int)) (rfl) ((nI_zI _)) ?_
              refine zv_icmp_ge (pc := 51) (tgt := 168) hx hb (by omega) (by omega) dX1_rows_51 (by decide) (fun h51 => ?_) (fun h51 => ?_)
              · skip
                refine lv_aload_n (pc := 168) hx hb dX1_rows_168 rfl (lv_at hl 0 rfl) ?_
                refine va_get (pc := 169) (D := dd) (ci := 1) (v := .ref (ad 6)) (C := RX1) (T := TX1) (N := 11) hx hb hts hin hown hK hP 0 rfl rfl 9 (by decide) (hts (.fieldLink RX1 26 "TurningSumsModel" "ways" "[J") (by decide +kernel)) (fun _ h9 => h9) rfl dX1_rows_169 ?_
                refine nv_iconst (pc := 172) (k := 0) hx hb dX1_rows_172 rfl ?_
                refine nv_lald (pc := 173) hx hb hK hP 6 1 rfl rfl (i := 0) (by omega) (by decide) (v := (wyS P D i 0)) (hwi _ (by omega)) dX1_rows_173 ?_
                exact hret _ _ _ _ _ (wai, nxi) (by unfold rwS; rw [if_pos (by omega), show k9.toNat = i by omega]) hP hD hS dX1_rows_174
              · skip
                refine nv_iconst (pc := 54) (k := 0) hx hb dX1_rows_54 rfl ?_
                refine lv_istore_n (pc := 55) (lv' := [(3, .int (nI (0))), (0, .ref (ad 0)), (1, .int (zI (k9))), (2, .int (nI (i)))]) hx hb dX1_rows_55 rfl hl (by decide) rfl (fun ls hl => ?_)
                have L56 : ∀ (n9_56 : Nat), ∀ (v : Nat) (nxv : Nat → Int64), P + 1 - v < n9_56 → (v ≤ P) → (∀ q, q < v → nxv q = wyS P D (i + 1) q) → ∀ (H : Heap) (locs : List Loc) (ls : Array Slot), va_P dd vwCl (wM ad cI cL (P) ((rootN P)) (D) ((phN D)) (ix) (ho) (re) (wk) (tu) (wai) (nxv)) H → va_D A (wM ad cI cL (P) ((rootN P)) (D) ((phN D)) (ix) (ho) (re) (wk) (tu) (wai) (nxv)) → va_S A s.heap H locs → lv_has ls 7 [(0, .ref (ad 0)), (1, .int (zI (k9))), (2, .int (nI (i))), (3, .int (nI (v)))] → W p l e ({ frames := 1, cells := 0, slots := 0, locals := 25 } : Room) s m args below meth c H locs 0 0 Q (F0 m 56 ls []) := by
                  intro n9_56
                  induction n9_56 with
                  | zero => intro v nxv hm; exact absurd hm (Nat.not_lt_zero _)
                  | succ n9_56 ih_56 =>
                    intro v nxv hm_56 hv8 hnx H locs ls hP hD hS hl
                    refine lv_iload_n (pc := 56) hx hb dX1_rows_56 rfl (lv_at hl 3 rfl) ?_
                    refine lv_aload_n (pc := 57) hx hb dX1_rows_57 rfl (lv_at hl 0 rfl) ?_
                    refine va_get (pc := 58) (D := dd) (ci := 1) (v := .int (nI (P))) (C := RX1) (T := TX1) (N := 11) hx hb hts hin hown hK hP 0 rfl rfl 0 (by decide) (hts (.fieldLink RX1 42 "TurningSumsModel" "p" "I") (by decide +kernel)) (fun _ h9 => h9) rfl dX1_rows_58 ?_
                    refine nv_icmp_ge (pc := 61) (tgt := 134) hx hb (a := v) (b := P) (by omega) (by omega) dX1_rows_61 (by decide) (fun h61 => ?_) (fun h61 => ?_)
                    · skip
                      refine nv_iconst (pc := 134) (k := 0) hx hb dX1_rows_134 rfl ?_
                      refine lv_istore_n (pc := 135) (lv' := [(3, .int (nI (0))), (0, .ref (ad 0)), (1, .int (zI (k9))), (2, .int (nI (i)))]) hx hb dX1_rows_135 rfl hl (by decide) rfl (fun ls hl => ?_)
                      have hnx : ∀ q, q < P → nxv q = wyS P D (i + 1) q := fun q z => hnx q (by omega)
                      have L136 : ∀ (n9_136 : Nat), ∀ (v3 : Nat) (wa3 : Nat → Int64), P + 1 - v3 < n9_136 → (v3 ≤ P) → (∀ q, q < v3 → wa3 q = wyS P D (i + 1) q) → ∀ (H : Heap) (locs : List Loc) (ls : Array Slot), va_P dd vwCl (wM ad cI cL (P) ((rootN P)) (D) ((phN D)) (ix) (ho) (re) (wk) (tu) (wa3) (nxv)) H → va_D A (wM ad cI cL (P) ((rootN P)) (D) ((phN D)) (ix) (ho) (re) (wk) (tu) (wa3) (nxv)) → va_S A s.heap H locs → lv_has ls 7 [(0, .ref (ad 0)), (1, .int (zI (k9))), (2, .int (nI (i))), (3, .int (nI (v3)))] → W p l e ({ frames := 1, cells := 0, slots := 0, locals := 25 } : Room) s m args below meth c H locs 0 0 Q (F0 m 136 ls []) := by
                        intro n9_136
                        induction n9_136 with
                        | zero => intro v3 wa3 hm; exact absurd hm (Nat.not_lt_zero _)
                        | succ n9_136 ih_136 =>
                          intro v3 wa3 hm_136 hv3 hw3 H locs ls hP hD hS hl
                          refine lv_iload_n (pc := 136) hx hb dX1_rows_136 rfl (lv_at hl 3 rfl) ?_
                          refine lv_aload_n (pc := 137) hx hb dX1_rows_137 rfl (lv_at hl 0 rfl) ?_
                          refine va_get (pc := 138) (D := dd) (ci := 1) (v := .int (nI (P))) (C := RX1) (T := TX1) (N := 11) hx hb hts hin hown hK hP 0 rfl rfl 0 (by decide) (hts (.fieldLink RX1 42 "TurningSumsModel" "p" "I") (by decide +kernel)) (fun _ h9 => h9) rfl dX1_rows_138 ?_
                          refine nv_icmp_ge (pc := 141) (tgt := 162) hx hb (a := v3) (b := P) (by omega) (by omega) dX1_rows_141 (by decide) (fun h141 => ?_) (fun h141 => ?_)
                          · skip
                            refine lv_iinc (pc := 162) (v := nI ((i + 1))) (lv' := [(2, .int (nI ((i + 1)))), (0, .ref (ad 0)), (1, .int (zI (k9))), (3, .int (nI (v3)))]) hx hb dX1_rows_162 hl (k := 2) rfl (nI_inc _) (by decide) rfl (fun ls hl => ?_)
                            refine lv_goto (pc := 165) (tgt := 49) hx hb dX1_rows_165 (by decide) ?_
                            exact ih_49 ((i + 1)) (wa3) (nxv) (by omega) (by omega) (fun q z => hw3 q (by omega)) _ _ _ hP hD hS (lv_sub hl [1, 2, 0] rfl)
                          · skip
                            refine lv_aload_n (pc := 144) hx hb dX1_rows_144 rfl (lv_at hl 0 rfl) ?_
                            refine va_get (pc := 145) (D := dd) (ci := 1) (v := .ref (ad 6)) (C := RX1) (T := TX1) (N := 11) hx hb hts hin hown hK hP 0 rfl rfl 9 (by decide) (hts (.fieldLink RX1 26 "TurningSumsModel" "ways" "[J") (by decide +kernel)) (fun _ h9 => h9) rfl dX1_rows_145 ?_
                            refine lv_iload_n (pc := 148) hx hb dX1_rows_148 rfl (lv_at hl 3 rfl) ?_
                            refine lv_aload_n (pc := 149) hx hb dX1_rows_149 rfl (lv_at hl 0 rfl) ?_
                            refine va_get (pc := 150) (D := dd) (ci := 1) (v := .ref (ad 7)) (C := RX1) (T := TX1) (N := 11) hx hb hts hin hown hK hP 0 rfl rfl 10 (by decide) (hts (.fieldLink RX1 29 "TurningSumsModel" "next" "[J") (by decide +kernel)) (fun _ h9 => h9) rfl dX1_rows_150 ?_
                            refine lv_iload_n (pc := 153) hx hb dX1_rows_153 rfl (lv_at hl 3 rfl) ?_
                            refine nv_lald (pc := 154) hx hb hK hP 7 1 rfl rfl (i := v3) (by omega) (by decide) (v := (nxv) (v3)) (rfl) dX1_rows_154 ?_
                            refine nv_last (pc := 155) hx hb hK hP hD hS 6 1 rfl rfl (by omega) (by decide) (ws' := (wM ad cI cL (P) ((rootN P)) (D) ((phN D)) (ix) (ho) (re) (wk) (tu) ((vp_updL (wa3) (v3) ((nxv) (v3)))) (nxv))) rfl dX1_rows_155 (fun H locs hP hD hS => ?_)
                            refine lv_iinc (pc := 156) (v := nI ((v3 + 1))) (lv' := [(3, .int (nI ((v3 + 1)))), (0, .ref (ad 0)), (1, .int (zI (k9))), (2, .int (nI (i)))]) hx hb dX1_rows_156 hl (k := 3) rfl (nI_inc _) (by decide) rfl (fun ls hl => ?_)
                            refine lv_goto (pc := 159) (tgt := 136) hx hb dX1_rows_159 (by decide) ?_
                            exact ih_136 ((v3 + 1)) ((vp_updL (wa3) (v3) ((nxv) (v3)))) (by omega) (by omega) (ad_m (v := fun q => wyS P D (i + 1) q) (hnx _ (by omega)) hw3) _ _ _ hP hD hS (lv_sub hl [1, 2, 3, 0] rfl)
                      exact L136 _ (0) (wai) (Nat.lt_succ_self _) (by omega) (fun q z => by omega) _ _ _ hP hD hS (lv_sub hl [1, 2, 3, 0] rfl)
                    · skip
                      refine lv_lconst (pc := 64) (v := zL 0) hx hb dX1_rows_64 (by decide) ?_
                      refine lv_lstore (pc := 65) (lv' := [(4, .long (zL 0)), (0, .ref (ad 0)), (1, .int (zI (k9))), (2, .int (nI (i))), (3, .int (nI (v)))]) hx hb dX1_rows_65 hl (by decide) rfl (fun ls hl => ?_)
                      refine nv_iconst (pc := 67) (k := 1) hx hb dX1_rows_67 rfl ?_
                      refine lv_istore (pc := 68) (lv' := [(6, .int (nI (1))), (4, .long (zL 0)), (0, .ref (ad 0)), (1, .int (zI (k9))), (2, .int (nI (i))), (3, .int (nI (v)))]) hx hb dX1_rows_68 hl (by decide) rfl (fun ls hl => ?_)
                      have L70 : ∀ (n9_70 : Nat), ∀ (x : Nat) (al : Int64), P + 1 - x < n9_70 → (1 ≤ x ∧ x ≤ P) → (al = wyP P D i v x) → ∀ (H : Heap) (locs : List Loc) (ls : Array Slot), va_P dd vwCl (wM ad cI cL (P) ((rootN P)) (D) ((phN D)) (ix) (ho) (re) (wk) (tu) (wai) (nxv)) H → va_D A (wM ad cI cL (P) ((rootN P)) (D) ((phN D)) (ix) (ho) (re) (wk) (tu) (wai) (nxv)) → va_S A s.heap H locs → lv_has ls 7 [(0, .ref (ad 0)), (1, .int (zI (k9))), (2, .int (nI (i))), (3, .int (nI (v))), (4, .long (al)), (6, .int (nI (x)))] → W p l e ({ frames := 1, cells := 0, slots := 0, locals := 25 } : Room) s m args below meth c H locs 0 0 Q (F0 m 70 ls []) := by
                        intro n9_70
                        induction n9_70 with
                        | zero => intro x al hm; exact absurd hm (Nat.not_lt_zero _)
                        | succ n9_70 ih_70 =>
                          intro x al hm_70 hx9 hal H locs ls hP hD hS hl
                          have hm := sbN_lt (P := P) (v := v) (x := x) (by omega)
                          have hc1 : clsN P D x < D := Nat.mod_lt _ (by omega)
                          refine lv_iload (pc := 70) hx hb dX1_rows_70 (lv_at hl 5 rfl) ?_
                          refine lv_aload_n (pc := 72) hx hb dX1_rows_72 rfl (lv_at hl 0 rfl) ?_
                          refine va_get (pc := 73) (D := dd) (ci := 1) (v := .int (nI (P))) (C := RX1) (T := TX1) (N := 11) hx hb hts hin hown hK hP 0 rfl rfl 0 (by decide) (hts (.fieldLink RX1 42 "TurningSumsModel" "p" "I") (by decide +kernel)) (fun _ h9 => h9) rfl dX1_rows_73 ?_
                          refine nv_icmp_ge (pc := 76) (tgt := 120) hx hb (a := x) (b := P) (by omega) (by omega) dX1_rows_76 (by decide) (fun h76 => ?_) (fun h76 => ?_)
                          · skip
                            refine lv_aload_n (pc := 120) hx hb dX1_rows_120 rfl (lv_at hl 0 rfl) ?_
                            refine va_get (pc := 121) (D := dd) (ci := 1) (v := .ref (ad 7)) (C := RX1) (T := TX1) (N := 11) hx hb hts hin hown hK hP 0 rfl rfl 10 (by decide) (hts (.fieldLink RX1 29 "TurningSumsModel" "next" "[J") (by decide +kernel)) (fun _ h9 => h9) rfl dX1_rows_121 ?_
                            refine lv_iload_n (pc := 124) hx hb dX1_rows_124 rfl (lv_at hl 3 rfl) ?_
                            refine lv_lload (pc := 125) hx hb dX1_rows_125 (lv_at hl 4 rfl) ?_
                            refine nv_last (pc := 127) hx hb hK hP hD hS 7 1 rfl rfl (by omega) (by decide) (ws' := (wM ad cI cL (P) ((rootN P)) (D) ((phN D)) (ix) (ho) (re) (wk) (tu) (wai) ((vp_updL (nxv) (v) (al))))) rfl dX1_rows_127 (fun H locs hP hD hS => ?_)
                            refine lv_iinc (pc := 128) (v := nI ((v + 1))) (lv' := [(3, .int (nI ((v + 1)))), (0, .ref (ad 0)), (1, .int (zI (k9))), (2, .int (nI (i))), (4, .long (al)), (6, .int (nI (x)))]) hx hb dX1_rows_128 hl (k := 3) rfl (nI_inc _) (by decide) rfl (fun ls hl => ?_)
                            refine lv_goto (pc := 131) (tgt := 56) hx hb dX1_rows_131 (by decide) ?_
                            exact ih_56 ((v + 1)) ((vp_updL (nxv) (v) (al))) (by omega) (by omega) (ad_m (v := fun q => wyS P D (i + 1) q) (by rw [hal, show x = P by omega]; rfl) hnx) _ _ _ hP hD hS (lv_sub hl [1, 2, 3, 0] rfl)
                          · skip
                            refine lv_lload (pc := 79) hx hb dX1_rows_79 (lv_at hl 4 rfl) ?_
                            refine lv_aload_n (pc := 81) hx hb dX1_rows_81 rfl (lv_at hl 0 rfl) ?_
                            refine lv_iload (pc := 82) hx hb dX1_rows_82 (lv_at hl 5 rfl) ?_
                            refine CTi_Vw (pc := 84) am_no_ok (As := [.int (nI (x))]) (rest := [.long (al)]) ⟨hx, hb, hml, hown, hts⟩ (c_X1_classOf l dd ⟨o1, o2, hD1.1, hD1.2, hix⟩ (by omega) (by omega)) (cwV 1 hts gX1_rows_X1_classOf rfl rfl rfl (by decide +kernel) ⟨Nat.le_of_ble_eq_true rfl, Nat.le_of_ble_eq_true rfl⟩) hK hP hD hS hA hX hK 0 1 rfl rfl rfl rfl hl.1 rfl (Nat.le_of_ble_eq_true rfl) ⟨Nat.zero_le _, Nat.zero_le _⟩ dX1_rows_84 (fun r u H locs hw hP hD hS => ?_)
                            try dsimp only at hw
                            subst hw
                            refine nv_if_ne (pc := 87) (tgt := 110) hx hb (a := (clsN P D (x))) (by omega) dX1_rows_87 (by decide) (fun h87 => ?_) (fun h87 => ?_)
                            · skip
                              refine lv_lconst (pc := 110) (v := zL 0) hx hb dX1_rows_110 (by decide) ?_
                              refine lv_ladd (pc := 111) hx hb dX1_rows_111 ?_
                              refine lv_lstore (pc := 112) (lv' := [(4, .long ((al + zL 0))), (0, .ref (ad 0)), (1, .int (zI (k9))), (2, .int (nI (i))), (3, .int (nI (v))), (6, .int (nI (x)))]) hx hb dX1_rows_112 hl (by decide) rfl (fun ls hl => ?_)
                              refine lv_iinc (pc := 114) (v := nI ((x + 1))) (lv' := [(6, .int (nI ((x + 1)))), (4, .long ((al + zL 0))), (0, .ref (ad 0)), (1, .int (zI (k9))), (2, .int (nI (i))), (3, .int (nI (v)))]) hx hb dX1_rows_114 hl (k := 5) rfl (nI_inc _) (by decide) rfl (fun ls hl => ?_)
                              refine lv_goto (pc := 117) (tgt := 70) hx hb dX1_rows_117 (by decide) ?_
                              exact ih_70 ((x + 1)) ((al + zL 0)) (by omega) (by omega) (by rw [wyP_n h87, hal]) _ _ _ hP hD hS (lv_sub hl [2, 3, 4, 5, 1, 0] rfl)
                            · skip
                              refine lv_aload_n (pc := 90) hx hb dX1_rows_90 rfl (lv_at hl 0 rfl) ?_
                              refine va_get (pc := 91) (D := dd) (ci := 1) (v := .ref (ad 6)) (C := RX1) (T := TX1) (N := 11) hx hb hts hin hown hK hP 0 rfl rfl 9 (by decide) (hts (.fieldLink RX1 26 "TurningSumsModel" "ways" "[J") (by decide +kernel)) (fun _ h9 => h9) rfl dX1_rows_91 ?_
                              refine lv_iload_n (pc := 94) hx hb dX1_rows_94 rfl (lv_at hl 3 rfl) ?_
                              refine lv_iload (pc := 95) hx hb dX1_rows_95 (lv_at hl 5 rfl) ?_
                              refine zv_2 (pc := 97) (a := ((x : Nat) : Int)) (b := ((v : Nat) : Int)) ((nI_zI _)) ((nI_zI _)) ?_
                              refine zv_isub (pc := 97) hx hb dX1_rows_97 ?_
                              refine lv_i2l (pc := 98) (v := zL ((((v : Nat) : Int) - ((x : Nat) : Int)))) hx hb dX1_rows_98 (zL_zI (by omega) (by omega)) ?_
                              refine lv_aload_n (pc := 99) hx hb dX1_rows_99 rfl (lv_at hl 0 rfl) ?_
                              refine va_get (pc := 100) (D := dd) (ci := 1) (v := .int (nI (P))) (C := RX1) (T := TX1) (N := 11) hx hb hts hin hown hK hP 0 rfl rfl 0 (by decide) (hts (.fieldLink RX1 42 "TurningSumsModel" "p" "I") (by decide +kernel)) (fun _ h9 => h9) rfl dX1_rows_100 ?_
                              refine CTi_S0 (pc := 103) am_no_ok (As := [.long (zL ((((v : Nat) : Int) - ((x : Nat) : Int)))), .int (nI (P))]) (rest := [.ref (ad 6), .long (al)]) ⟨hx, hb, hml, hown, hts⟩ (c_X1_rem l dd (by omega) (by omega) (by omega)) (va_cwS 2 hts gX1_rows_X1_rem rfl rfl rfl (by decide +kernel) ⟨Nat.le_of_ble_eq_true rfl, Nat.le_of_ble_eq_true rfl⟩) hK hP hD hS hA hX rfl hl.1 rfl (Nat.le_of_ble_eq_true rfl) ⟨Nat.zero_le _, Nat.zero_le _⟩ dX1_rows_103 (fun r u H locs hw hP hD hS => ?_)
                              try dsimp only at hw
                              subst hw
                              refine tq_i (y := nI ((sbN P v x))) (rfl) ?_
                              refine nv_lald (pc := 106) hx hb hK hP 6 1 rfl rfl (i := (sbN P v x)) (by omega) (by decide) (v := (wyS P D i (sbN P v x))) (hwi _ hm) dX1_rows_106 ?_
                              refine lv_goto (pc := 107) (tgt := 111) hx hb dX1_rows_107 (by decide) ?_
                              refine lv_ladd (pc := 111) hx hb dX1_rows_111 ?_
                              refine lv_lstore (pc := 112) (lv' := [(4, .long ((al + (wyS P D i (sbN P v x))))), (0, .ref (ad 0)), (1, .int (zI (k9))), (2, .int (nI (i))), (3, .int (nI (v))), (6, .int (nI (x)))]) hx hb dX1_rows_112 hl (by decide) rfl (fun ls hl => ?_)
                              refine lv_iinc (pc := 114) (v := nI ((x + 1))) (lv' := [(6, .int (nI ((x + 1)))), (4, .long ((al + (wyS P D i (sbN P v x))))), (0, .ref (ad 0)), (1, .int (zI (k9))), (2, .int (nI (i))), (3, .int (nI (v)))]) hx hb dX1_rows_114 hl (k := 5) rfl (nI_inc _) (by decide) rfl (fun ls hl => ?_)
                              refine lv_goto (pc := 117) (tgt := 70) hx hb dX1_rows_117 (by decide) ?_
                              exact ih_70 ((x + 1)) ((al + (wyS P D i (sbN P v x)))) (by omega) (by omega) (by rw [wyP_y hx9.1 (by omega), hal]) _ _ _ hP hD hS (lv_sub hl [2, 3, 4, 5, 1, 0] rfl)
                      exact L70 _ (1) (zL 0) (Nat.lt_succ_self _) (by omega) (wyP_1.symm) _ _ _ hP hD hS (lv_sub hl [2, 3, 4, 5, 1, 0] rfl)
                exact L56 _ (0) (nxi) (Nat.lt_succ_self _) (by omega) (fun q z => by omega) _ _ _ hP hD hS (lv_sub hl [1, 2, 3, 0] rfl)
          exact L49 _ (0) (wav) (nx) (Nat.lt_succ_self _) (by omega) (fun q z => hwa q (by omega)) _ _ _ hP hD hS (lv_sub hl [1, 2, 0] rfl)
        · skip
          refine lv_aload_n (pc := 26) hx hb dX1_rows_26 rfl (lv_at hl 0 rfl) ?_
          refine va_get (pc := 27) (D := dd) (ci := 1) (v := .ref (ad 6)) (C := RX1) (T := TX1) (N := 11) hx hb hts hin hown hK hP 0 rfl rfl 9 (by decide) (hts (.fieldLink RX1 26 "TurningSumsModel" "ways" "[J") (by decide +kernel)) (fun _ h9 => h9) rfl dX1_rows_27 ?_
          refine lv_iload_n (pc := 30) hx hb dX1_rows_30 rfl (lv_at hl 2 rfl) ?_
          refine lv_iload_n (pc := 31) hx hb dX1_rows_31 rfl (lv_at hl 2 rfl) ?_
          refine nv_if_ne (pc := 32) (tgt := 39) hx hb (a := v) (by omega) dX1_rows_32 (by decide) (fun h32 => ?_) (fun h32 => ?_)
          · skip
            refine lv_lconst (pc := 39) (v := zL 0) hx hb dX1_rows_39 (by decide) ?_
            refine nv_last (pc := 40) hx hb hK hP hD hS 6 1 rfl rfl (by omega) (by decide) (ws' := (wM ad cI cL (P) ((rootN P)) (D) ((phN D)) (ix) (ho) (re) (wk) (tu) ((vp_updL (wav) (v) (zL 0))) (nx))) rfl dX1_rows_40 (fun H locs hP hD hS => ?_)
            refine lv_iinc (pc := 41) (v := nI ((v + 1))) (lv' := [(2, .int (nI ((v + 1)))), (0, .ref (ad 0)), (1, .int (zI (k9)))]) hx hb dX1_rows_41 hl (k := 2) rfl (nI_inc _) (by decide) rfl (fun ls hl => ?_)
            refine lv_goto (pc := 44) (tgt := 18) hx hb dX1_rows_44 (by decide) ?_
            exact ih_18 ((v + 1)) ((vp_updL (wav) (v) (zL 0))) (by omega) (by omega) (ad_m (v := fun q => wyS P D 0 q) (if_neg h32).symm hwa) _ _ _ hP hD hS (lv_sub hl [1, 2, 0] rfl)
          · skip
            refine lv_lconst (pc := 35) (v := zL 1) hx hb dX1_rows_35 (by decide) ?_
            refine lv_goto (pc := 36) (tgt := 40) hx hb dX1_rows_36 (by decide) ?_
            refine nv_last (pc := 40) hx hb hK hP hD hS 6 1 rfl rfl (by omega) (by decide) (ws' := (wM ad cI cL (P) ((rootN P)) (D) ((phN D)) (ix) (ho) (re) (wk) (tu) ((vp_updL (wav) (v) (zL 1))) (nx))) rfl dX1_rows_40 (fun H locs hP hD hS => ?_)
            refine lv_iinc (pc := 41) (v := nI ((v + 1))) (lv' := [(2, .int (nI ((v + 1)))), (0, .ref (ad 0)), (1, .int (zI (k9)))]) hx hb dX1_rows_41 hl (k := 2) rfl (nI_inc _) (by decide) rfl (fun ls hl => ?_)
            refine lv_goto (pc := 44) (tgt := 18) hx hb dX1_rows_44 (by decide) ?_
            exact ih_18 ((v + 1)) ((vp_updL (wav) (v) (zL 1))) (by omega) (by omega) (ad_m (v := fun q => wyS P D 0 q) (if_pos h32).symm hwa) _ _ _ hP hD hS (lv_sub hl [1, 2, 0] rfl)
    exact L18 _ (0) (wa) (Nat.lt_succ_self _) (by omega) (fun q z => by omega) _ _ _ hP hD hS (lv_sub hl [1, 2, 0] rfl)
  · skip
    rw [zL_le (by omega) (by omega), zL_le (by omega) (by omega)] at h9
    refine tq_ldc2 (pc := 12) (k := (-3)) hx hb hown (hts (.constantLong RX1 114 (-3)) (by decide +kernel)) dX1_rows_12 ?_
    exact hret _ _ _ _ _ (wa, nx) (by unfold rwS; rw [if_neg (by omega)]) hP hD hS dX1_rows_15
