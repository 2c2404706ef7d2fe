set_option maxHeartbeats 4000000 in
set_option maxRecDepth 100000 in
theorem c_X0_reduce (l : Launch) (dd : va_G) {ad : Nat → Nat} {cI cL cQ : ClassId} {tR : Nat}  {ix : Nat → Int32} {pw : Nat → Int32} {sg : Nat → Int32} {tm : Nat → Int32} {hd : Nat → Nat → Int32} {wk : Nat → Int64} {rc : Nat → Int64} {lc : Nat → Int64} {P : Nat} {D : Nat}  (hD1 : 1 ≤ D ∧ D ≤ 12) : CTv l yX0_reduce wsX0_reduce ({ frames := 0, cells := 0, slots := 0, locals := 0 } : Room) dd (tysA cI cL cQ) (rX tR) [.ref (ad 0)] (wC ad cI cL cQ (ix) (pw) (sg) (tm) (hd) (wk) (rc) (lc) (P) ((rootN P)) (D) ((phN D))) (fun (u : Nat → Int64) => ∀ j, j < phN D → u j = Lf D j wk D) (fun (u : Nat → Int64) => (wC ad cI cL cQ (ix) (pw) (sg) (tm) (hd) (u) (rc) (lc) (P) ((rootN P)) (D) ((phN D)))) := by
  refine CTv_of (cc := cX0_reduce) (maxL := 3) (by decide +kernel) rfl (Nat.le_of_ble_eq_true rfl) ?_
  intro p e s m args below meth c A Q ls H locs hx hb hts hown hml hP hK hD hS hA hX hl hret
  have hin : ∀ w ∈ wsX00, w ∈ wsX0_reduce := by decide +kernel
  have hl : lv_has ls 3 [(0, .ref (ad 0))] := hl
  have hph := ph_rng D (by omega) hD1.1
  refine lv_aload_n (pc := 0) hx hb dX0_reduce_0 rfl (lv_at hl 0 rfl) ?_
  refine va_get (pc := 1) (D := dd) (ci := 0) (v := .int (nI (D))) (C := RX0) (T := TX0) (N := 12) hx hb hts hin hown hK hP 0 rfl rfl 10 (by decide) (hts (.fieldLink RX0 74 "TurningSums" "d" "I") (by decide +kernel)) (fun _ h9 => h9) rfl dX0_reduce_1 ?_
  refine nv_iconst (pc := 4) (k := 1) hx hb dX0_reduce_4 rfl ?_
  refine nv_isub (pc := 5) hx hb (by omega) dX0_reduce_5 ?_
  refine lv_istore_n (pc := 6) (lv' := [(1, .int (nI ((D - 1)))), (0, .ref (ad 0))]) hx hb dX0_reduce_6 rfl hl (by decide) rfl (fun ls hl => ?_)
  have L7 : ∀ (n9_7 : Nat), ∀ (h : Nat) (wv : Nat → Int64), h < n9_7 → (phN D - 1 ≤ h ∧ h ≤ D - 1) → (∀ j, j < phN D → Lf D j wv (h + 1) = Lf D j wk D) → ∀ (H : Heap) (locs : List Loc) (ls : Array Slot), va_P dd vwCl (wC ad cI cL cQ (ix) (pw) (sg) (tm) (hd) (wv) (rc) (lc) (P) ((rootN P)) (D) ((phN D))) H → va_D A (wC ad cI cL cQ (ix) (pw) (sg) (tm) (hd) (wv) (rc) (lc) (P) ((rootN P)) (D) ((phN D))) → va_S A s.heap H locs → lv_has ls 3 [(0, .ref (ad 0)), (1, .int (nI (h)))] → W p l e ({ frames := 0, cells := 0, slots := 0, locals := 0 } : Room) s m args below meth c H locs 0 0 Q (F0 m 7 ls []) := by
    intro n9_7
    induction n9_7 with
    | zero => intro h wv hm; exact absurd hm (Nat.not_lt_zero _)
    | succ n9_7 ih_7 =>
      intro h wv hm_7 hh hL H locs ls hP hD hS hl
      refine lv_iload_n (pc := 7) hx hb dX0_reduce_7 rfl (lv_at hl 1 rfl) ?_
      refine lv_aload_n (pc := 8) hx hb dX0_reduce_8 rfl (lv_at hl 0 rfl) ?_
      refine va_get (pc := 9) (D := dd) (ci := 0) (v := .int (nI ((phN D)))) (C := RX0) (T := TX0) (N := 12) hx hb hts hin hown hK hP 0 rfl rfl 11 (by decide) (hts (.fieldLink RX0 55 "TurningSums" "phi" "I") (by decide +kernel)) (fun _ h9 => h9) rfl dX0_reduce_9 ?_
      refine nv_icmp_lt (pc := 12) (tgt := 83) hx hb (a := h) (b := (phN D)) (by omega) (by omega) dX0_reduce_12 (by decide) (fun h12 => ?_) (fun h12 => ?_)
      · skip
        exact hret _ _ _ _ (wv) (fun j z => by rw [← hL j z, show h + 1 = phN D by omega, Lf_at hD1 z]) hP hD hS dX0_reduce_83
      · skip
        refine nv_iconst (pc := 15) (k := 0) hx hb dX0_reduce_15 rfl ?_
        refine lv_istore_n (pc := 16) (lv' := [(2, .int (nI (0))), (0, .ref (ad 0)), (1, .int (nI (h)))]) hx hb dX0_reduce_16 rfl hl (by decide) rfl (fun ls hl => ?_)
        have L17 : ∀ (n9_17 : Nat), ∀ (i : Nat) (w2 : Nat → Int64), phN D + 1 - i < n9_17 → (i ≤ phN D) → (∀ m, w2 m = if h - phN D ≤ m ∧ m < h - phN D + i then wv m - wv h * zL (relC ((D - 1) * 10 + (m - (h - phN D)))) else wv m) → ∀ (H : Heap) (locs : List Loc) (ls : Array Slot), va_P dd vwCl (wC ad cI cL cQ (ix) (pw) (sg) (tm) (hd) (w2) (rc) (lc) (P) ((rootN P)) (D) ((phN D))) H → va_D A (wC ad cI cL cQ (ix) (pw) (sg) (tm) (hd) (w2) (rc) (lc) (P) ((rootN P)) (D) ((phN D))) → va_S A s.heap H locs → lv_has ls 3 [(0, .ref (ad 0)), (1, .int (nI (h))), (2, .int (nI (i)))] → W p l e ({ frames := 0, cells := 0, slots := 0, locals := 0 } : Room) s m args below meth c H locs 0 0 Q (F0 m 17 ls []) := by
          intro n9_17
          induction n9_17 with
          | zero => intro i w2 hm; exact absurd hm (Nat.not_lt_zero _)
          | succ n9_17 ih_17 =>
            intro i w2 hm_17 hi hw2 H locs ls hP hD hS hl
            refine lv_iload_n (pc := 17) hx hb dX0_reduce_17 rfl (lv_at hl 2 rfl) ?_
            refine lv_aload_n (pc := 18) hx hb dX0_reduce_18 rfl (lv_at hl 0 rfl) ?_
            refine va_get (pc := 19) (D := dd) (ci := 0) (v := .int (nI ((phN D)))) (C := RX0) (T := TX0) (N := 12) hx hb hts hin hown hK hP 0 rfl rfl 11 (by decide) (hts (.fieldLink RX0 55 "TurningSums" "phi" "I") (by decide +kernel)) (fun _ h9 => h9) rfl dX0_reduce_19 ?_
            refine nv_icmp_ge (pc := 22) (tgt := 70) hx hb (a := i) (b := (phN D)) (by omega) (by omega) dX0_reduce_22 (by decide) (fun h22 => ?_) (fun h22 => ?_)
            · skip
              refine lv_aload_n (pc := 70) hx hb dX0_reduce_70 rfl (lv_at hl 0 rfl) ?_
              refine va_get (pc := 71) (D := dd) (ci := 0) (v := .ref (ad 6)) (C := RX0) (T := TX0) (N := 12) hx hb hts hin hown hK hP 0 rfl rfl 5 (by decide) (hts (.fieldLink RX0 27 "TurningSums" "work" "[J") (by decide +kernel)) (fun _ h9 => h9) rfl dX0_reduce_71 ?_
              refine lv_iload_n (pc := 74) hx hb dX0_reduce_74 rfl (lv_at hl 1 rfl) ?_
              refine lv_lconst (pc := 75) (v := zL 0) hx hb dX0_reduce_75 (by decide) ?_
              refine nv_last (pc := 76) hx hb hK hP hD hS 6 1 rfl rfl (by omega) (by decide) (ws' := (wC ad cI cL cQ (ix) (pw) (sg) (tm) (hd) ((vp_updL (w2) (h) (zL 0))) (rc) (lc) (P) ((rootN P)) (D) ((phN D)))) rfl dX0_reduce_76 (fun H locs hP hD hS => ?_)
              refine lv_iinc (pc := 77) (v := nI ((h - 1))) (lv' := [(1, .int (nI ((h - 1)))), (0, .ref (ad 0)), (2, .int (nI (i)))]) hx hb dX0_reduce_77 hl (k := 1) rfl (nI_decp (by omega)) (by decide) rfl (fun ls hl => ?_)
              refine lv_goto (pc := 80) (tgt := 7) hx hb dX0_reduce_80 (by decide) ?_
              exact ih_7 ((h - 1)) ((vp_updL (w2) (h) (zL 0))) (by omega) (by omega) (fun j z => (rd_out hD1 z (by omega) (by omega) (by omega) (by rw [show i = phN D by omega] at hw2; exact hw2)).trans (hL j z)) _ _ _ hP hD hS (lv_sub hl [1, 0] rfl)
            · skip
              refine lv_aload_n (pc := 25) hx hb dX0_reduce_25 rfl (lv_at hl 0 rfl) ?_
              refine va_get (pc := 26) (D := dd) (ci := 0) (v := .ref (ad 6)) (C := RX0) (T := TX0) (N := 12) hx hb hts hin hown hK hP 0 rfl rfl 5 (by decide) (hts (.fieldLink RX0 27 "TurningSums" "work" "[J") (by decide +kernel)) (fun _ h9 => h9) rfl dX0_reduce_26 ?_
              refine lv_iload_n (pc := 29) hx hb dX0_reduce_29 rfl (lv_at hl 1 rfl) ?_
              refine lv_aload_n (pc := 30) hx hb dX0_reduce_30 rfl (lv_at hl 0 rfl) ?_
              refine va_get (pc := 31) (D := dd) (ci := 0) (v := .int (nI ((phN D)))) (C := RX0) (T := TX0) (N := 12) hx hb hts hin hown hK hP 0 rfl rfl 11 (by decide) (hts (.fieldLink RX0 55 "TurningSums" "phi" "I") (by decide +kernel)) (fun _ h9 => h9) rfl dX0_reduce_31 ?_
              refine nv_isub (pc := 34) hx hb (by omega) dX0_reduce_34 ?_
              refine lv_iload_n (pc := 35) hx hb dX0_reduce_35 rfl (lv_at hl 2 rfl) ?_
              refine nv_iadd (pc := 36) hx hb dX0_reduce_36 ?_
              refine lv_dup2_11 (pc := 37) hx hb dX0_reduce_37 rfl rfl ?_
              refine nv_lald (pc := 38) hx hb hK hP 6 1 rfl rfl (i := ((h - (phN D)) + i)) (by omega) (by decide) (v := (w2) (((h - (phN D)) + i))) (rfl) dX0_reduce_38 ?_
              refine lv_aload_n (pc := 39) hx hb dX0_reduce_39 rfl (lv_at hl 0 rfl) ?_
              refine va_get (pc := 40) (D := dd) (ci := 0) (v := .ref (ad 6)) (C := RX0) (T := TX0) (N := 12) hx hb hts hin hown hK hP 0 rfl rfl 5 (by decide) (hts (.fieldLink RX0 27 "TurningSums" "work" "[J") (by decide +kernel)) (fun _ h9 => h9) rfl dX0_reduce_40 ?_
              refine lv_iload_n (pc := 43) hx hb dX0_reduce_43 rfl (lv_at hl 1 rfl) ?_
              refine nv_lald (pc := 44) hx hb hK hP 6 1 rfl rfl (i := h) (by omega) (by decide) (v := (wv h)) (rd_top (rl := fun q => relC ((D - 1) * 10 + q)) (by omega) (by omega) hw2) dX0_reduce_44 ?_
              refine va_gets (pc := 45) hx hb hX.1 hS hown (hts (.fieldLink RX0 155 "TurningSums" "RELATIONS" "[I") (by decide +kernel)) (fun _ h9 => h9) dX0_reduce_45 ?_
              refine lv_aload_n (pc := 48) hx hb dX0_reduce_48 rfl (lv_at hl 0 rfl) ?_
              refine va_get (pc := 49) (D := dd) (ci := 0) (v := .int (nI (D))) (C := RX0) (T := TX0) (N := 12) hx hb hts hin hown hK hP 0 rfl rfl 10 (by decide) (hts (.fieldLink RX0 74 "TurningSums" "d" "I") (by decide +kernel)) (fun _ h9 => h9) rfl dX0_reduce_49 ?_
              refine nv_iconst (pc := 52) (k := 1) hx hb dX0_reduce_52 rfl ?_
              refine nv_isub (pc := 53) hx hb (by omega) dX0_reduce_53 ?_
              refine nv_bipush (pc := 54) (k := 10) hx hb dX0_reduce_54 rfl (by decide) ?_
              refine nv_imul (pc := 56) hx hb dX0_reduce_56 ?_
              refine lv_iload_n (pc := 57) hx hb dX0_reduce_57 rfl (lv_at hl 2 rfl) ?_
              refine nv_iadd (pc := 58) hx hb dX0_reduce_58 ?_
              refine nv_rel (pc := 59) hx hb hX.2 hS (i := (((D - 1) * 10) + i)) (by omega) dX0_reduce_59 ?_
              refine lv_i2l (pc := 60) (v := zL (relC ((((D - 1) * 10) + i)))) hx hb dX0_reduce_60 (zL_zI (by have := relC_rng ((D - 1) * 10 + i); omega) (by have := relC_rng ((D - 1) * 10 + i); omega)) ?_
              refine lv_lmul (pc := 61) hx hb dX0_reduce_61 ?_
              refine lv_lsub (pc := 62) hx hb dX0_reduce_62 ?_
              refine nv_last (pc := 63) hx hb hK hP hD hS 6 1 rfl rfl (by omega) (by decide) (ws' := (wC ad cI cL cQ (ix) (pw) (sg) (tm) (hd) ((vp_updL (w2) (((h - (phN D)) + i)) (((w2) (((h - (phN D)) + i)) - ((wv h) * zL (relC ((((D - 1) * 10) + i)))))))) (rc) (lc) (P) ((rootN P)) (D) ((phN D)))) rfl dX0_reduce_63 (fun H locs hP hD hS => ?_)
              refine lv_iinc (pc := 64) (v := nI ((i + 1))) (lv' := [(2, .int (nI ((i + 1)))), (0, .ref (ad 0)), (1, .int (nI (h)))]) hx hb dX0_reduce_64 hl (k := 2) rfl (nI_inc _) (by decide) rfl (fun ls hl => ?_)
              refine lv_goto (pc := 67) (tgt := 17) hx hb dX0_reduce_67 (by decide) ?_
              exact ih_17 ((i + 1)) ((vp_updL (w2) (((h - (phN D)) + i)) (((w2) (((h - (phN D)) + i)) - ((wv h) * zL (relC ((((D - 1) * 10) + i)))))))) (by omega) (by omega) (rd_s (rl := fun q => relC ((D - 1) * 10 + q)) (by omega) (by omega) hw2) _ _ _ hP hD hS (lv_sub hl [1, 2, 0] rfl)
        exact L17 _ (0) (wv) (Nat.lt_succ_self _) (by omega) (fun m => by rw [if_neg (by omega)]) _ _ _ hP hD hS (lv_sub hl [1, 2, 0] rfl)
  exact L7 _ (D - 1) (wk) (Nat.lt_succ_self _) (by omega) (fun j z => by rw [show D - 1 + 1 = D by omega]) _ _ _ hP hD hS (lv_sub hl [1, 0] rfl)
set_option maxHeartbeats 4000000 in
set_option maxRecDepth 100000 in
theorem c_X1_reduce (l : Launch) (dd : va_G) {ad : Nat → Nat} {cI cL cQ : ClassId}  {P : Nat} {D : Nat} {ix : Nat → Int32} {ho : Nat → Int64} {re : Nat → Int32} {wk : Nat → Int64} {tu : Nat → Int64} {wa : Nat → Int64} {nx : Nat → Int64}  (hD1 : 1 ≤ D ∧ D ≤ 12) (hre : ∀ i, i < 13 → re i = zI (relM D i)) : CTv l yX1_reduce wsX1_reduce ({ frames := 0, cells := 0, slots := 0, locals := 0 } : Room) dd (tysA cI cL cQ) (am_no) [.ref (ad 0)] (wM ad cI cL (P) ((rootN P)) (D) ((phN D)) (ix) (ho) (re) (wk) (tu) (wa) (nx)) (fun (u : Nat → Int64) => ∀ j, j < phN D → u j = Lf D j wk 24) (fun (u : Nat → Int64) => (wM ad cI cL (P) ((rootN P)) (D) ((phN D)) (ix) (ho) (re) (u) (tu) (wa) (nx))) := by
  refine CTv_of (cc := cX1_reduce) (maxL := 5) (by decide +kernel) rfl (Nat.le_of_ble_eq_true rfl) ?_
  intro p e s m args below meth c A Q ls H locs hx hb hts hown hml hP hK hD hS hA hX hl hret
  have hin : ∀ w ∈ wsX10, w ∈ wsX1_reduce := by decide +kernel
  have hl : lv_has ls 5 [(0, .ref (ad 0))] := hl
  have hph := ph_rng D (by omega) hD1.1
  refine nv_bipush (pc := 0) (k := 23) hx hb dX1_reduce_0 rfl (by decide) ?_
  refine lv_istore_n (pc := 2) (lv' := [(1, .int (nI (23))), (0, .ref (ad 0))]) hx hb dX1_reduce_2 rfl hl (by decide) rfl (fun ls hl => ?_)
  have L3 : ∀ (n9_3 : Nat), ∀ (h : Nat) (wv : Nat → Int64), h < n9_3 → (phN D - 1 ≤ h ∧ h ≤ 23) → (∀ j, j < phN D → Lf D j wv (h + 1) = Lf D j wk 24) → ∀ (H : Heap) (locs : List Loc) (ls : Array Slot), va_P dd vwCl (wM ad cI cL (P) ((rootN P)) (D) ((phN D)) (ix) (ho) (re) (wv) (tu) (wa) (nx)) H → va_D A (wM ad cI cL (P) ((rootN P)) (D) ((phN D)) (ix) (ho) (re) (wv) (tu) (wa) (nx)) → va_S A s.heap H locs → lv_has ls 5 [(0, .ref (ad 0)), (1, .int (nI (h)))] → W p l e ({ frames := 0, cells := 0, slots := 0, locals := 0 } : Room) s m args below meth c H locs 0 0 Q (F0 m 3 ls []) := by
    intro n9_3
    induction n9_3 with
    | zero => intro h wv hm; exact absurd hm (Nat.not_lt_zero _)
    | succ n9_3 ih_3 =>
      intro h wv hm_3 hh hL H locs ls hP hD hS hl
      refine lv_iload_n (pc := 3) hx hb dX1_reduce_3 rfl (lv_at hl 1 rfl) ?_
      refine lv_aload_n (pc := 4) hx hb dX1_reduce_4 rfl (lv_at hl 0 rfl) ?_
      refine va_get (pc := 5) (D := dd) (ci := 1) (v := .int (nI ((phN D)))) (C := RX1) (T := TX1) (N := 11) hx hb hts hin hown hK hP 0 rfl rfl 3 (by decide) (hts (.fieldLink RX1 55 "TurningSumsModel" "phi" "I") (by decide +kernel)) (fun _ h9 => h9) rfl dX1_reduce_5 ?_
      refine nv_icmp_lt (pc := 8) (tgt := 75) hx hb (a := h) (b := (phN D)) (by omega) (by omega) dX1_reduce_8 (by decide) (fun h8 => ?_) (fun h8 => ?_)
      · skip
        exact hret _ _ _ _ (wv) (fun j z => by rw [← hL j z, show h + 1 = phN D by omega, Lf_at hD1 z]) hP hD hS dX1_reduce_75
      · skip
        refine lv_aload_n (pc := 11) hx hb dX1_reduce_11 rfl (lv_at hl 0 rfl) ?_
        refine va_get (pc := 12) (D := dd) (ci := 1) (v := .ref (ad 4)) (C := RX1) (T := TX1) (N := 11) hx hb hts hin hown hK hP 0 rfl rfl 7 (by decide) (hts (.fieldLink RX1 20 "TurningSumsModel" "work" "[J") (by decide +kernel)) (fun _ h9 => h9) rfl dX1_reduce_12 ?_
        refine lv_iload_n (pc := 15) hx hb dX1_reduce_15 rfl (lv_at hl 1 rfl) ?_
        refine nv_lald (pc := 16) hx hb hK hP 4 1 rfl rfl (i := h) (by omega) (by decide) (v := (wv) (h)) (rfl) dX1_reduce_16 ?_
        refine lv_lstore_n (pc := 17) (lv' := [(2, .long ((wv) (h))), (0, .ref (ad 0)), (1, .int (nI (h)))]) hx hb dX1_reduce_17 rfl hl (by decide) rfl (fun ls hl => ?_)
        refine nv_iconst (pc := 18) (k := 0) hx hb dX1_reduce_18 rfl ?_
        refine lv_istore (pc := 19) (lv' := [(4, .int (nI (0))), (2, .long ((wv) (h))), (0, .ref (ad 0)), (1, .int (nI (h)))]) hx hb dX1_reduce_19 hl (by decide) rfl (fun ls hl => ?_)
        have L21 : ∀ (n9_21 : Nat), ∀ (i : Nat) (w2 : Nat → Int64), phN D + 2 - i < n9_21 → (i ≤ phN D + 1) → (∀ m, w2 m = if h - phN D ≤ m ∧ m < h - phN D + i then wv m - wv h * zL (relM D (m - (h - phN D))) else wv m) → ∀ (H : Heap) (locs : List Loc) (ls : Array Slot), va_P dd vwCl (wM ad cI cL (P) ((rootN P)) (D) ((phN D)) (ix) (ho) (re) (w2) (tu) (wa) (nx)) H → va_D A (wM ad cI cL (P) ((rootN P)) (D) ((phN D)) (ix) (ho) (re) (w2) (tu) (wa) (nx)) → va_S A s.heap H locs → lv_has ls 5 [(0, .ref (ad 0)), (1, .int (nI (h))), (2, .long ((wv) (h))), (4, .int (nI (i)))] → W p l e ({ frames := 0, cells := 0, slots := 0, locals := 0 } : Room) s m args below meth c H locs 0 0 Q (F0 m 21 ls []) := by
          intro n9_21
          induction n9_21 with
          | zero => intro i w2 hm; exact absurd hm (Nat.not_lt_zero _)
          | succ n9_21 ih_21 =>
            intro i w2 hm_21 hi hw2 H locs ls hP hD hS hl
            refine lv_iload (pc := 21) hx hb dX1_reduce_21 (lv_at hl 3 rfl) ?_
            refine lv_aload_n (pc := 23) hx hb dX1_reduce_23 rfl (lv_at hl 0 rfl) ?_
            refine va_get (pc := 24) (D := dd) (ci := 1) (v := .int (nI ((phN D)))) (C := RX1) (T := TX1) (N := 11) hx hb hts hin hown hK hP 0 rfl rfl 3 (by decide) (hts (.fieldLink RX1 55 "TurningSumsModel" "phi" "I") (by decide +kernel)) (fun _ h9 => h9) rfl dX1_reduce_24 ?_
            refine nv_icmp_gt (pc := 27) (tgt := 69) hx hb (a := i) (b := (phN D)) (by omega) (by omega) dX1_reduce_27 (by decide) (fun h27 => ?_) (fun h27 => ?_)
            · skip
              refine lv_iinc (pc := 69) (v := nI ((h - 1))) (lv' := [(1, .int (nI ((h - 1)))), (0, .ref (ad 0)), (2, .long ((wv) (h))), (4, .int (nI (i)))]) hx hb dX1_reduce_69 hl (k := 1) rfl (nI_decp (by omega)) (by decide) rfl (fun ls hl => ?_)
              refine lv_goto (pc := 72) (tgt := 3) hx hb dX1_reduce_72 (by decide) ?_
              exact ih_3 ((h - 1)) (w2) (by omega) (by omega) (fun j z => (rd_outM hD1 z (by omega) (by omega) (by omega) (Or.inl (by omega)) hw2).trans (hL j z)) _ _ _ hP hD hS (lv_sub hl [1, 0] rfl)
            · skip
              refine lv_lload_n (pc := 30) hx hb dX1_reduce_30 rfl (lv_at hl 2 rfl) ?_
              refine lv_lconst (pc := 31) (v := zL 0) hx hb dX1_reduce_31 (by decide) ?_
              refine W.lcmp (pc := 32) hx hb dX1_reduce_32 ?_
              refine cv_if_eq (pc := 33) (tgt := 69) hx hb dX1_reduce_33 (by decide) (fun h33 => ?_) (fun h33 => ?_)
              · skip
                refine lv_iinc (pc := 69) (v := nI ((h - 1))) (lv' := [(1, .int (nI ((h - 1)))), (0, .ref (ad 0)), (2, .long ((wv) (h))), (4, .int (nI (i)))]) hx hb dX1_reduce_69 hl (k := 1) rfl (nI_decp (by omega)) (by decide) rfl (fun ls hl => ?_)
                refine lv_goto (pc := 72) (tgt := 3) hx hb dX1_reduce_72 (by decide) ?_
                exact ih_3 ((h - 1)) (w2) (by omega) (by omega) (fun j z => (rd_outM hD1 z (by omega) (by omega) (by omega) (Or.inr h33) hw2).trans (hL j z)) _ _ _ hP hD hS (lv_sub hl [1, 0] rfl)
              · skip
                refine lv_aload_n (pc := 36) hx hb dX1_reduce_36 rfl (lv_at hl 0 rfl) ?_
                refine va_get (pc := 37) (D := dd) (ci := 1) (v := .ref (ad 4)) (C := RX1) (T := TX1) (N := 11) hx hb hts hin hown hK hP 0 rfl rfl 7 (by decide) (hts (.fieldLink RX1 20 "TurningSumsModel" "work" "[J") (by decide +kernel)) (fun _ h9 => h9) rfl dX1_reduce_37 ?_
                refine lv_iload_n (pc := 40) hx hb dX1_reduce_40 rfl (lv_at hl 1 rfl) ?_
                refine lv_aload_n (pc := 41) hx hb dX1_reduce_41 rfl (lv_at hl 0 rfl) ?_
                refine va_get (pc := 42) (D := dd) (ci := 1) (v := .int (nI ((phN D)))) (C := RX1) (T := TX1) (N := 11) hx hb hts hin hown hK hP 0 rfl rfl 3 (by decide) (hts (.fieldLink RX1 55 "TurningSumsModel" "phi" "I") (by decide +kernel)) (fun _ h9 => h9) rfl dX1_reduce_42 ?_
                refine nv_isub (pc := 45) hx hb (by omega) dX1_reduce_45 ?_
                refine lv_iload (pc := 46) hx hb dX1_reduce_46 (lv_at hl 3 rfl) ?_
                refine nv_iadd (pc := 48) hx hb dX1_reduce_48 ?_
                refine lv_dup2_11 (pc := 49) hx hb dX1_reduce_49 rfl rfl ?_
                refine nv_lald (pc := 50) hx hb hK hP 4 1 rfl rfl (i := ((h - (phN D)) + i)) (by omega) (by decide) (v := (w2) (((h - (phN D)) + i))) (rfl) dX1_reduce_50 ?_
                refine lv_lload_n (pc := 51) hx hb dX1_reduce_51 rfl (lv_at hl 2 rfl) ?_
                refine lv_aload_n (pc := 52) hx hb dX1_reduce_52 rfl (lv_at hl 0 rfl) ?_
                refine va_get (pc := 53) (D := dd) (ci := 1) (v := .ref (ad 3)) (C := RX1) (T := TX1) (N := 11) hx hb hts hin hown hK hP 0 rfl rfl 6 (by decide) (hts (.fieldLink RX1 17 "TurningSumsModel" "relation" "[I") (by decide +kernel)) (fun _ h9 => h9) rfl dX1_reduce_53 ?_
                refine lv_iload (pc := 56) hx hb dX1_reduce_56 (lv_at hl 3 rfl) ?_
                refine nv_iald (pc := 58) hx hb hK hP 3 0 rfl rfl (i := i) (by omega) (by decide) (v := zI (relM D (i))) (hre _ (by omega)) dX1_reduce_58 ?_
                refine lv_i2l (pc := 59) (v := zL (relM D (i))) hx hb dX1_reduce_59 (zL_zI (by have := relM_rng D i; omega) (by have := relM_rng D i; omega)) ?_
                refine lv_lmul (pc := 60) hx hb dX1_reduce_60 ?_
                refine lv_lsub (pc := 61) hx hb dX1_reduce_61 ?_
                refine nv_last (pc := 62) hx hb hK hP hD hS 4 1 rfl rfl (by omega) (by decide) (ws' := (wM ad cI cL (P) ((rootN P)) (D) ((phN D)) (ix) (ho) (re) ((vp_updL (w2) (((h - (phN D)) + i)) (((w2) (((h - (phN D)) + i)) - ((wv) (h) * zL (relM D (i))))))) (tu) (wa) (nx))) rfl dX1_reduce_62 (fun H locs hP hD hS => ?_)
                refine lv_iinc (pc := 63) (v := nI ((i + 1))) (lv' := [(4, .int (nI ((i + 1)))), (0, .ref (ad 0)), (1, .int (nI (h))), (2, .long ((wv) (h)))]) hx hb dX1_reduce_63 hl (k := 3) rfl (nI_inc _) (by decide) rfl (fun ls hl => ?_)
                refine lv_goto (pc := 66) (tgt := 21) hx hb dX1_reduce_66 (by decide) ?_
                exact ih_21 ((i + 1)) ((vp_updL (w2) (((h - (phN D)) + i)) (((w2) (((h - (phN D)) + i)) - ((wv) (h) * zL (relM D (i))))))) (by omega) (by omega) (rd_s (rl := relM D) (by omega) (by omega) hw2) _ _ _ hP hD hS (lv_sub hl [1, 2, 3, 0] rfl)
        exact L21 _ (0) (wv) (Nat.lt_succ_self _) (by omega) (fun m => by rw [if_neg (by omega)]) _ _ _ hP hD hS (lv_sub hl [2, 3, 1, 0] rfl)
  exact L3 _ (23) (wk) (Nat.lt_succ_self _) (by omega) (fun j z => rfl) _ _ _ hP hD hS (lv_sub hl [1, 0] rfl)
set_option maxHeartbeats 4000000 in
set_option maxRecDepth 100000 in
theorem c_X0_store (l : Launch) (dd : va_G) {ad : Nat → Nat} {cI cL cQ : ClassId} {tR : Nat} (vv : Nat → Int64) {hv : Nat → Nat → Int32} {ix : Nat → Int32} {pw : Nat → Int32} {sg : Nat → Int32} {tm : Nat → Int32} {hd : Nat → Nat → Int32} {wk : Nat → Int64} {rc : Nat → Int64} {lc : Nat → Int64} {P : Nat} {D : Nat} {h : Nat} (hD1 : 1 ≤ D ∧ D ≤ 12) (hh6 : h < 6) (hvv : ∀ j, j < phN D → Lf D j wk D = vv j) (hH : okH D hv hd) : CTi l yX0_store wsX0_store ({ frames := 1, cells := 0, slots := 0, locals := 22 } : Room) dd (tysA cI cL cQ) (rX tR) [.ref (ad 0), .int (nI (h))] (wC ad cI cL cQ (ix) (pw) (sg) (tm) (hd) (wk) (rc) (lc) (P) ((rootN P)) (D) ((phN D))) (fun (r : Int32) (u : (Nat → Int64) × (Nat → Nat → Int32)) => (inR D vv ∧ r = nI 1 ∧ okH D (stR hv h vv) u.2) ∨ (¬ inR D vv ∧ r = zI (-5) ∧ u.2 = hd)) (fun (u : (Nat → Int64) × (Nat → Nat → Int32)) => (wC ad cI cL cQ (ix) (pw) (sg) (tm) (u.2) (u.1) (rc) (lc) (P) ((rootN P)) (D) ((phN D)))) := by
  refine CTi_of (cc := cX0_store) (maxL := 3) (by decide +kernel) rfl (Nat.le_of_ble_eq_true rfl) ?_
  intro p e s m args below meth c A Q ls H locs hx hb hts hown hml hP hK hD hS hA hX hl hret
  have hin : ∀ w ∈ wsX00, w ∈ wsX0_store := by decide +kernel
  have hl : lv_has ls 3 [(0, .ref (ad 0)), (1, .int (nI (h)))] := hl
  have hph := ph_rng D (by omega) hD1.1
  refine lv_aload_n (pc := 0) hx hb dX0_store_0 rfl (lv_at hl 0 rfl) ?_
  refine CTv_Vw (pc := 1) (rX_ok tR) (As := []) (rest := []) ⟨hx, hb, hml, hown, hts⟩ (c_X0_reduce l dd hD1) (cwV 0 hts gX0_store_X0_reduce rfl rfl rfl (by decide +kernel) ⟨Nat.le_of_ble_eq_true rfl, Nat.le_of_ble_eq_true rfl⟩) hK hP hD hS hA hX hK 0 0 rfl rfl rfl rfl hl.1 rfl (Nat.le_of_ble_eq_true rfl) ⟨Nat.zero_le _, Nat.zero_le _⟩ dX0_store_1 (fun u H locs hw hP hD hS => ?_)
  try dsimp only at hw
  obtain ⟨wk1, e9⟩ : ∃ z, z = u := ⟨_, rfl⟩
  rw [← e9] at hw hP hD
  have hw1 := hw
  have hP : va_P dd vwCl (wC ad cI cL cQ (ix) (pw) (sg) (tm) (hd) (wk1) (rc) (lc) (P) ((rootN P)) (D) ((phN D))) H := hP
  have hD : va_D A (wC ad cI cL cQ (ix) (pw) (sg) (tm) (hd) (wk1) (rc) (lc) (P) ((rootN P)) (D) ((phN D))) := hD
  refine nv_iconst (pc := 4) (k := 0) hx hb dX0_store_4 rfl ?_
  refine lv_istore_n (pc := 5) (lv' := [(2, .int (nI (0))), (0, .ref (ad 0)), (1, .int (nI (h)))]) hx hb dX0_store_5 rfl hl (by decide) rfl (fun ls hl => ?_)
  have hvw : ∀ j, j < phN D → wk1 j = vv j := fun j z => (hw1 j z).trans (hvv j z)
  have L6 : ∀ (n9_6 : Nat), ∀ (i : Nat), phN D + 1 - i < n9_6 → (i ≤ phN D) → (∀ q, q < i → -100000000 ≤ (vv q).toInt ∧ (vv q).toInt ≤ 100000000) → ∀ (H : Heap) (locs : List Loc) (ls : Array Slot), va_P dd vwCl (wC ad cI cL cQ (ix) (pw) (sg) (tm) (hd) (wk1) (rc) (lc) (P) ((rootN P)) (D) ((phN D))) H → va_D A (wC ad cI cL cQ (ix) (pw) (sg) (tm) (hd) (wk1) (rc) (lc) (P) ((rootN P)) (D) ((phN D))) → va_S A s.heap H locs → lv_has ls 3 [(0, .ref (ad 0)), (1, .int (nI (h))), (2, .int (nI (i)))] → W p l e ({ frames := 1, cells := 0, slots := 0, locals := 22 } : Room) s m args below meth c H locs 0 0 Q (F0 m 6 ls []) := by
    intro n9_6
    induction n9_6 with
    | zero => intro i hm; exact absurd hm (Nat.not_lt_zero _)
    | succ n9_6 ih_6 =>
      intro i hm_6 hi hr9 H locs ls hP hD hS hl
      refine lv_iload_n (pc := 6) hx hb dX0_store_6 rfl (lv_at hl 2 rfl) ?_
      refine lv_aload_n (pc := 7) hx hb dX0_store_7 rfl (lv_at hl 0 rfl) ?_
      refine va_get (pc := 8) (D := dd) (ci := 0) (v := .int (nI ((phN D)))) (C := RX0) (T := TX0) (N := 12) hx hb hts hin hown hK hP 0 rfl rfl 11 (by decide) (hts (.fieldLink RX0 55 "TurningSums" "phi" "I") (by decide +kernel)) (fun _ h9 => h9) rfl dX0_store_8 ?_
      refine nv_icmp_ge (pc := 11) (tgt := 49) hx hb (a := i) (b := (phN D)) (by omega) (by omega) dX0_store_11 (by decide) (fun h11 => ?_) (fun h11 => ?_)
      · skip
        have hrr : inR D vv := fun q z => hr9 q (by omega)
        refine nv_iconst (pc := 49) (k := 0) hx hb dX0_store_49 rfl ?_
        refine lv_istore_n (pc := 50) (lv' := [(2, .int (nI (0))), (0, .ref (ad 0)), (1, .int (nI (h)))]) hx hb dX0_store_50 rfl hl (by decide) rfl (fun ls hl => ?_)
        have L51 : ∀ (n9_51 : Nat), ∀ (k : Nat) (hdv : Nat → Nat → Int32), phN D + 1 - k < n9_51 → (k ≤ phN D) → (∀ a, a < 6 → ∀ b, b < phN D → hdv a b = if a = h ∧ b < k then (vv b).toInt32 else hv a b) → ∀ (H : Heap) (locs : List Loc) (ls : Array Slot), va_P dd vwCl (wC ad cI cL cQ (ix) (pw) (sg) (tm) (hdv) (wk1) (rc) (lc) (P) ((rootN P)) (D) ((phN D))) H → va_D A (wC ad cI cL cQ (ix) (pw) (sg) (tm) (hdv) (wk1) (rc) (lc) (P) ((rootN P)) (D) ((phN D))) → va_S A s.heap H locs → lv_has ls 3 [(0, .ref (ad 0)), (1, .int (nI (h))), (2, .int (nI (k)))] → W p l e ({ frames := 1, cells := 0, slots := 0, locals := 22 } : Room) s m args below meth c H locs 0 0 Q (F0 m 51 ls []) := by
          intro n9_51
          induction n9_51 with
          | zero => intro k hdv hm; exact absurd hm (Nat.not_lt_zero _)
          | succ n9_51 ih_51 =>
            intro k hdv hm_51 hk hz H locs ls hP hD hS hl
            refine lv_iload_n (pc := 51) hx hb dX0_store_51 rfl (lv_at hl 2 rfl) ?_
            refine lv_aload_n (pc := 52) hx hb dX0_store_52 rfl (lv_at hl 0 rfl) ?_
            refine va_get (pc := 53) (D := dd) (ci := 0) (v := .int (nI ((phN D)))) (C := RX0) (T := TX0) (N := 12) hx hb hts hin hown hK hP 0 rfl rfl 11 (by decide) (hts (.fieldLink RX0 55 "TurningSums" "phi" "I") (by decide +kernel)) (fun _ h9 => h9) rfl dX0_store_53 ?_
            refine nv_icmp_ge (pc := 56) (tgt := 80) hx hb (a := k) (b := (phN D)) (by omega) (by omega) dX0_store_56 (by decide) (fun h56 => ?_) (fun h56 => ?_)
            · skip
              refine nv_iconst (pc := 80) (k := 1) hx hb dX0_store_80 rfl ?_
              exact hret _ _ _ _ _ (wk1, hdv) (Or.inl ⟨hrr, rfl, fun a z b z2 => by show hdv a b = _; rw [hz a z b z2, stR_at, show k = phN D by omega]; by_cases q : a = h; rw [if_pos ⟨q, z2⟩, if_pos q]; rw [if_neg (fun w => q w.1), if_neg q]⟩) hP hD hS dX0_store_81
            · skip
              refine lv_aload_n (pc := 59) hx hb dX0_store_59 rfl (lv_at hl 0 rfl) ?_
              refine va_get (pc := 60) (D := dd) (ci := 0) (v := .ref (ad 5)) (C := RX0) (T := TX0) (N := 12) hx hb hts hin hown hK hP 0 rfl rfl 4 (by decide) (hts (.fieldLink RX0 24 "TurningSums" "holds" "[[I") (by decide +kernel)) (fun _ h9 => h9) rfl dX0_store_60 ?_
              refine lv_iload_n (pc := 63) hx hb dX0_store_63 rfl (lv_at hl 1 rfl) ?_
              refine nv_aald (pc := 64) hx hb hK hP 5 2 rfl rfl (i := h) (by omega) (by decide) (if_pos (by omega)) dX0_store_64 ?_
              refine lv_iload_n (pc := 65) hx hb dX0_store_65 rfl (lv_at hl 2 rfl) ?_
              refine lv_aload_n (pc := 66) hx hb dX0_store_66 rfl (lv_at hl 0 rfl) ?_
              refine va_get (pc := 67) (D := dd) (ci := 0) (v := .ref (ad 6)) (C := RX0) (T := TX0) (N := 12) hx hb hts hin hown hK hP 0 rfl rfl 5 (by decide) (hts (.fieldLink RX0 27 "TurningSums" "work" "[J") (by decide +kernel)) (fun _ h9 => h9) rfl dX0_store_67 ?_
              refine lv_iload_n (pc := 70) hx hb dX0_store_70 rfl (lv_at hl 2 rfl) ?_
              refine nv_lald (pc := 71) hx hb hK hP 6 1 rfl rfl (i := k) (by omega) (by decide) (v := (vv k)) (hvw _ (by omega)) dX0_store_71 ?_
              refine lv_l2i (pc := 72) (v := ((vv k)).toInt32) hx hb dX0_store_72 rfl ?_
              refine nv_iast (pc := 73) hx hb hK hP hD hS (9 + (h)) 0 (hd_get (by omega)) rfl (by omega) (by decide) (ws' := (wC ad cI cL cQ (ix) (pw) (sg) (tm) ((va_up (hdv) (h) (upd ((hdv) (h)) (k) ((((vv k)).toInt32))))) (wk1) (rc) (lc) (P) ((rootN P)) (D) ((phN D)))) (hd_set (by omega)) dX0_store_73 (fun H locs hP hD hS => ?_)
              refine lv_iinc (pc := 74) (v := nI ((k + 1))) (lv' := [(2, .int (nI ((k + 1)))), (0, .ref (ad 0)), (1, .int (nI (h)))]) hx hb dX0_store_74 hl (k := 2) rfl (nI_inc _) (by decide) rfl (fun ls hl => ?_)
              refine lv_goto (pc := 77) (tgt := 51) hx hb dX0_store_77 (by decide) ?_
              exact ih_51 ((k + 1)) ((va_up (hdv) (h) (upd ((hdv) (h)) (k) ((((vv k)).toInt32))))) (by omega) (by omega) (wr_C hz) _ _ _ hP hD hS (lv_sub hl [1, 2, 0] rfl)
        exact L51 _ (0) (hd) (Nat.lt_succ_self _) (by omega) (fun a z b z2 => by rw [if_neg (by omega)]; exact hH a z b z2) _ _ _ hP hD hS (lv_sub hl [1, 2, 0] rfl)
      · skip
        refine lv_aload_n (pc := 14) hx hb dX0_store_14 rfl (lv_at hl 0 rfl) ?_
        refine va_get (pc := 15) (D := dd) (ci := 0) (v := .ref (ad 6)) (C := RX0) (T := TX0) (N := 12) hx hb hts hin hown hK hP 0 rfl rfl 5 (by decide) (hts (.fieldLink RX0 27 "TurningSums" "work" "[J") (by decide +kernel)) (fun _ h9 => h9) rfl dX0_store_15 ?_
        refine lv_iload_n (pc := 18) hx hb dX0_store_18 rfl (lv_at hl 2 rfl) ?_
        refine nv_lald (pc := 19) hx hb hK hP 6 1 rfl rfl (i := i) (by omega) (by decide) (v := (vv i)) (hvw _ (by omega)) dX0_store_19 ?_
        refine tq_ldc2 (pc := 20) (k := (-100000000)) hx hb hown (hts (.constantLong RX0 158 (-100000000)) (by decide +kernel)) dX0_store_20 ?_
        refine W.lcmp (pc := 23) hx hb dX0_store_23 ?_
        refine cv_if_lt (pc := 24) (tgt := 40) hx hb dX0_store_24 (by decide) (fun h24 => ?_) (fun h24 => ?_)
        · skip
          rw [lt_zL (by omega)] at h24
          refine lv_bipush (pc := 40) (v := zI (-5)) hx hb dX0_store_40 (by decide) ?_
          exact hret _ _ _ _ _ (wk1, hd) (Or.inr ⟨fun z => by have := z i (by omega); omega, rfl, rfl⟩) hP hD hS dX0_store_42
        · skip
          rw [lt_zL (by omega)] at h24
          refine lv_aload_n (pc := 27) hx hb dX0_store_27 rfl (lv_at hl 0 rfl) ?_
          refine va_get (pc := 28) (D := dd) (ci := 0) (v := .ref (ad 6)) (C := RX0) (T := TX0) (N := 12) hx hb hts hin hown hK hP 0 rfl rfl 5 (by decide) (hts (.fieldLink RX0 27 "TurningSums" "work" "[J") (by decide +kernel)) (fun _ h9 => h9) rfl dX0_store_28 ?_
          refine lv_iload_n (pc := 31) hx hb dX0_store_31 rfl (lv_at hl 2 rfl) ?_
          refine nv_lald (pc := 32) hx hb hK hP 6 1 rfl rfl (i := i) (by omega) (by decide) (v := (vv i)) (hvw _ (by omega)) dX0_store_32 ?_
          refine tq_ldc2 (pc := 33) (k := (100000000)) hx hb hown (hts (.constantLong RX0 160 (100000000)) (by decide +kernel)) dX0_store_33 ?_
          refine W.lcmp (pc := 36) hx hb dX0_store_36 ?_
          refine cv_if_le (pc := 37) (tgt := 43) hx hb dX0_store_37 (by decide) (fun h37 => ?_) (fun h37 => ?_)
          · skip
            rw [le_zL (by omega)] at h37
            refine lv_iinc (pc := 43) (v := nI ((i + 1))) (lv' := [(2, .int (nI ((i + 1)))), (0, .ref (ad 0)), (1, .int (nI (h)))]) hx hb dX0_store_43 hl (k := 2) rfl (nI_inc _) (by decide) rfl (fun ls hl => ?_)
            refine lv_goto (pc := 46) (tgt := 6) hx hb dX0_store_46 (by decide) ?_
            exact ih_6 ((i + 1)) (by omega) (by omega) (fun q z => (Nat.lt_or_ge q i).elim (fun w => hr9 q w) (fun w => by have e : q = i := (by omega); subst e; omega)) _ _ _ hP hD hS (lv_sub hl [1, 2, 0] rfl)
          · skip
            rw [le_zL (by omega)] at h37
            refine lv_bipush (pc := 40) (v := zI (-5)) hx hb dX0_store_40 (by decide) ?_
            exact hret _ _ _ _ _ (wk1, hd) (Or.inr ⟨fun z => by have := z i (by omega); omega, rfl, rfl⟩) hP hD hS dX0_store_42
  exact L6 _ (0) (Nat.lt_succ_self _) (by omega) (fun q z => by omega) _ _ _ hP hD hS (lv_sub hl [1, 2, 0] rfl)
set_option maxHeartbeats 4000000 in
set_option maxRecDepth 100000 in
theorem c_X1_lay (l : Launch) (dd : va_G) {ad : Nat → Nat} {cI cL cQ : ClassId} (vv : Nat → Int64) {hv : Nat → Nat → Int32} {P : Nat} {D : Nat} {ix : Nat → Int32} {ho : Nat → Int64} {re : Nat → Int32} {wk : Nat → Int64} {tu : Nat → Int64} {wa : Nat → Int64} {nx : Nat → Int64} {h : Nat} (hD1 : 1 ≤ D ∧ D ≤ 12) (hh6 : h < 6) (hvv : ∀ j, j < phN D → wk j = vv j) (hL : okL D hv ho) : CTi l yX1_lay wsX1_lay ({ frames := 1, cells := 0, slots := 0, locals := 25 } : Room) dd (tysA cI cL cQ) (am_no) [.ref (ad 0), .int (nI (h))] (wM ad cI cL (P) ((rootN P)) (D) ((phN D)) (ix) (ho) (re) (wk) (tu) (wa) (nx)) (fun (r : Int32) (u : Nat → Int64) => (inR D vv ∧ r = nI 1 ∧ okL D (stR hv h vv) u) ∨ (¬ inR D vv ∧ r = zI (-5) ∧ u = ho)) (fun (u : Nat → Int64) => (wM ad cI cL (P) ((rootN P)) (D) ((phN D)) (ix) (u) (re) (wk) (tu) (wa) (nx))) := by
  refine CTi_of (cc := cX1_lay) (maxL := 3) (by decide +kernel) rfl (Nat.le_of_ble_eq_true rfl) ?_
  intro p e s m args below meth c A Q ls H locs hx hb hts hown hml hP hK hD hS hA hX hl hret
  have hin : ∀ w ∈ wsX10, w ∈ wsX1_lay := by decide +kernel
  have hl : lv_has ls 3 [(0, .ref (ad 0)), (1, .int (nI (h)))] := hl
  have hph := ph_rng D (by omega) hD1.1
  refine nv_iconst (pc := 0) (k := 0) hx hb dX1_lay_0 rfl ?_
  refine lv_istore_n (pc := 1) (lv' := [(2, .int (nI (0))), (0, .ref (ad 0)), (1, .int (nI (h)))]) hx hb dX1_lay_1 rfl hl (by decide) rfl (fun ls hl => ?_)
  have L2 : ∀ (n9_2 : Nat), ∀ (i : Nat), phN D + 1 - i < n9_2 → (i ≤ phN D) → (∀ q, q < i → -100000000 ≤ (vv q).toInt ∧ (vv q).toInt ≤ 100000000) → ∀ (H : Heap) (locs : List Loc) (ls : Array Slot), va_P dd vwCl (wM ad cI cL (P) ((rootN P)) (D) ((phN D)) (ix) (ho) (re) (wk) (tu) (wa) (nx)) H → va_D A (wM ad cI cL (P) ((rootN P)) (D) ((phN D)) (ix) (ho) (re) (wk) (tu) (wa) (nx)) → va_S A s.heap H locs → lv_has ls 3 [(0, .ref (ad 0)), (1, .int (nI (h))), (2, .int (nI (i)))] → W p l e ({ frames := 1, cells := 0, slots := 0, locals := 25 } : Room) s m args below meth c H locs 0 0 Q (F0 m 2 ls []) := by
    intro n9_2
    induction n9_2 with
    | zero => intro i hm; exact absurd hm (Nat.not_lt_zero _)
    | succ n9_2 ih_2 =>
      intro i hm_2 hi hr9 H locs ls hP hD hS hl
      refine lv_iload_n (pc := 2) hx hb dX1_lay_2 rfl (lv_at hl 2 rfl) ?_
      refine lv_aload_n (pc := 3) hx hb dX1_lay_3 rfl (lv_at hl 0 rfl) ?_
      refine va_get (pc := 4) (D := dd) (ci := 1) (v := .int (nI ((phN D)))) (C := RX1) (T := TX1) (N := 11) hx hb hts hin hown hK hP 0 rfl rfl 3 (by decide) (hts (.fieldLink RX1 55 "TurningSumsModel" "phi" "I") (by decide +kernel)) (fun _ h9 => h9) rfl dX1_lay_4 ?_
      refine nv_icmp_ge (pc := 7) (tgt := 37) hx hb (a := i) (b := (phN D)) (by omega) (by omega) dX1_lay_7 (by decide) (fun h7 => ?_) (fun h7 => ?_)
      · skip
        have hrr : inR D vv := fun q z => hr9 q (by omega)
        refine nv_iconst (pc := 37) (k := 0) hx hb dX1_lay_37 rfl ?_
        refine lv_istore_n (pc := 38) (lv' := [(2, .int (nI (0))), (0, .ref (ad 0)), (1, .int (nI (h)))]) hx hb dX1_lay_38 rfl hl (by decide) rfl (fun ls hl => ?_)
        have L39 : ∀ (n9_39 : Nat), ∀ (k : Nat) (hov : Nat → Int64), 13 - k < n9_39 → (k ≤ 12) → (∀ a, a < 6 → ∀ b, b < 12 → hov (12 * a + b) = if a = h ∧ b < k then (if b < phN D then vv b else zL 0) else (if b < phN D then zL (hv a b).toInt else zL 0)) → ∀ (H : Heap) (locs : List Loc) (ls : Array Slot), va_P dd vwCl (wM ad cI cL (P) ((rootN P)) (D) ((phN D)) (ix) (hov) (re) (wk) (tu) (wa) (nx)) H → va_D A (wM ad cI cL (P) ((rootN P)) (D) ((phN D)) (ix) (hov) (re) (wk) (tu) (wa) (nx)) → va_S A s.heap H locs → lv_has ls 3 [(0, .ref (ad 0)), (1, .int (nI (h))), (2, .int (nI (k)))] → W p l e ({ frames := 1, cells := 0, slots := 0, locals := 25 } : Room) s m args below meth c H locs 0 0 Q (F0 m 39 ls []) := by
          intro n9_39
          induction n9_39 with
          | zero => intro k hov hm; exact absurd hm (Nat.not_lt_zero _)
          | succ n9_39 ih_39 =>
            intro k hov hm_39 hk hz H locs ls hP hD hS hl
            refine lv_iload_n (pc := 39) hx hb dX1_lay_39 rfl (lv_at hl 2 rfl) ?_
            refine nv_bipush (pc := 40) (k := 12) hx hb dX1_lay_40 rfl (by decide) ?_
            refine nv_icmp_ge (pc := 42) (tgt := 80) hx hb (a := k) (b := 12) (by omega) (by omega) dX1_lay_42 (by decide) (fun h42 => ?_) (fun h42 => ?_)
            · skip
              refine nv_iconst (pc := 80) (k := 1) hx hb dX1_lay_80 rfl ?_
              exact hret _ _ _ _ _ (hov) (Or.inl ⟨hrr, rfl, okL_st hrr (by rw [show k = 12 by omega] at hz; exact hz)⟩) hP hD hS dX1_lay_81
            · skip
              refine lv_aload_n (pc := 45) hx hb dX1_lay_45 rfl (lv_at hl 0 rfl) ?_
              refine va_get (pc := 46) (D := dd) (ci := 1) (v := .ref (ad 2)) (C := RX1) (T := TX1) (N := 11) hx hb hts hin hown hK hP 0 rfl rfl 5 (by decide) (hts (.fieldLink RX1 13 "TurningSumsModel" "hold" "[J") (by decide +kernel)) (fun _ h9 => h9) rfl dX1_lay_46 ?_
              refine nv_bipush (pc := 49) (k := 12) hx hb dX1_lay_49 rfl (by decide) ?_
              refine lv_iload_n (pc := 51) hx hb dX1_lay_51 rfl (lv_at hl 1 rfl) ?_
              refine nv_imul (pc := 52) hx hb dX1_lay_52 ?_
              refine lv_iload_n (pc := 53) hx hb dX1_lay_53 rfl (lv_at hl 2 rfl) ?_
              refine nv_iadd (pc := 54) hx hb dX1_lay_54 ?_
              refine lv_iload_n (pc := 55) hx hb dX1_lay_55 rfl (lv_at hl 2 rfl) ?_
              refine lv_aload_n (pc := 56) hx hb dX1_lay_56 rfl (lv_at hl 0 rfl) ?_
              refine va_get (pc := 57) (D := dd) (ci := 1) (v := .int (nI ((phN D)))) (C := RX1) (T := TX1) (N := 11) hx hb hts hin hown hK hP 0 rfl rfl 3 (by decide) (hts (.fieldLink RX1 55 "TurningSumsModel" "phi" "I") (by decide +kernel)) (fun _ h9 => h9) rfl dX1_lay_57 ?_
              refine nv_icmp_ge (pc := 60) (tgt := 72) hx hb (a := k) (b := (phN D)) (by omega) (by omega) dX1_lay_60 (by decide) (fun h60 => ?_) (fun h60 => ?_)
              · skip
                refine lv_lconst (pc := 72) (v := zL 0) hx hb dX1_lay_72 (by decide) ?_
                refine nv_last (pc := 73) hx hb hK hP hD hS 2 1 rfl rfl (by omega) (by decide) (ws' := (wM ad cI cL (P) ((rootN P)) (D) ((phN D)) (ix) ((vp_updL (hov) (((12 * h) + k)) (zL 0))) (re) (wk) (tu) (wa) (nx))) rfl dX1_lay_73 (fun H locs hP hD hS => ?_)
                refine lv_iinc (pc := 74) (v := nI ((k + 1))) (lv' := [(2, .int (nI ((k + 1)))), (0, .ref (ad 0)), (1, .int (nI (h)))]) hx hb dX1_lay_74 hl (k := 2) rfl (nI_inc _) (by decide) rfl (fun ls hl => ?_)
                refine lv_goto (pc := 77) (tgt := 39) hx hb dX1_lay_77 (by decide) ?_
                exact ih_39 ((k + 1)) ((vp_updL (hov) (((12 * h) + k)) (zL 0))) (by omega) (by omega) (wr_M (x := fun b => if b < phN D then vv b else zL 0) (if_neg (by omega)).symm (by omega) hz) _ _ _ hP hD hS (lv_sub hl [1, 2, 0] rfl)
              · skip
                refine lv_aload_n (pc := 63) hx hb dX1_lay_63 rfl (lv_at hl 0 rfl) ?_
                refine va_get (pc := 64) (D := dd) (ci := 1) (v := .ref (ad 4)) (C := RX1) (T := TX1) (N := 11) hx hb hts hin hown hK hP 0 rfl rfl 7 (by decide) (hts (.fieldLink RX1 20 "TurningSumsModel" "work" "[J") (by decide +kernel)) (fun _ h9 => h9) rfl dX1_lay_64 ?_
                refine lv_iload_n (pc := 67) hx hb dX1_lay_67 rfl (lv_at hl 2 rfl) ?_
                refine nv_lald (pc := 68) hx hb hK hP 4 1 rfl rfl (i := k) (by omega) (by decide) (v := (vv k)) (hvv _ (by omega)) dX1_lay_68 ?_
                refine lv_goto (pc := 69) (tgt := 73) hx hb dX1_lay_69 (by decide) ?_
                refine nv_last (pc := 73) hx hb hK hP hD hS 2 1 rfl rfl (by omega) (by decide) (ws' := (wM ad cI cL (P) ((rootN P)) (D) ((phN D)) (ix) ((vp_updL (hov) (((12 * h) + k)) ((vv k)))) (re) (wk) (tu) (wa) (nx))) rfl dX1_lay_73 (fun H locs hP hD hS => ?_)
                refine lv_iinc (pc := 74) (v := nI ((k + 1))) (lv' := [(2, .int (nI ((k + 1)))), (0, .ref (ad 0)), (1, .int (nI (h)))]) hx hb dX1_lay_74 hl (k := 2) rfl (nI_inc _) (by decide) rfl (fun ls hl => ?_)
                refine lv_goto (pc := 77) (tgt := 39) hx hb dX1_lay_77 (by decide) ?_
                exact ih_39 ((k + 1)) ((vp_updL (hov) (((12 * h) + k)) ((vv k)))) (by omega) (by omega) (wr_M (x := fun b => if b < phN D then vv b else zL 0) (if_pos (by omega)).symm (by omega) hz) _ _ _ hP hD hS (lv_sub hl [1, 2, 0] rfl)
        exact L39 _ (0) (ho) (Nat.lt_succ_self _) (by omega) (fun a z b z2 => by rw [if_neg (by omega)]; exact hL a z b z2) _ _ _ hP hD hS (lv_sub hl [1, 2, 0] rfl)
      · skip
        refine lv_aload_n (pc := 10) hx hb dX1_lay_10 rfl (lv_at hl 0 rfl) ?_
        refine va_get (pc := 11) (D := dd) (ci := 1) (v := .ref (ad 4)) (C := RX1) (T := TX1) (N := 11) hx hb hts hin hown hK hP 0 rfl rfl 7 (by decide) (hts (.fieldLink RX1 20 "TurningSumsModel" "work" "[J") (by decide +kernel)) (fun _ h9 => h9) rfl dX1_lay_11 ?_
        refine lv_iload_n (pc := 14) hx hb dX1_lay_14 rfl (lv_at hl 2 rfl) ?_
        refine nv_lald (pc := 15) hx hb hK hP 4 1 rfl rfl (i := i) (by omega) (by decide) (v := (vv i)) (hvv _ (by omega)) dX1_lay_15 ?_
        refine tq_ldc2 (pc := 16) (k := (-100000000)) hx hb hown (hts (.constantLong RX1 76 (-100000000)) (by decide +kernel)) dX1_lay_16 ?_
        refine tq_ldc2 (pc := 19) (k := (100000000)) hx hb hown (hts (.constantLong RX1 78 (100000000)) (by decide +kernel)) dX1_lay_19 ?_
        refine CTi_S0 (pc := 22) am_no_ok (As := [.long ((vv i)), .long (zL (-100000000)), .long (zL (100000000))]) (rest := []) ⟨hx, hb, hml, hown, hts⟩ (c_X1_in l dd ) (va_cwS 3 hts gX1_lay_X1_in rfl rfl rfl (by decide +kernel) ⟨Nat.le_of_ble_eq_true rfl, Nat.le_of_ble_eq_true rfl⟩) hK hP hD hS hA hX rfl hl.1 rfl (Nat.le_of_ble_eq_true rfl) ⟨Nat.zero_le _, Nat.zero_le _⟩ dX1_lay_22 (fun r u H locs hw hP hD hS => ?_)
        try dsimp only at hw
        subst hw
        refine bv_if_ne (pc := 25) (tgt := 31) hx hb dX1_lay_25 (by decide) (fun h25 => ?_) (fun h25 => ?_)
        · skip
          rw [zL_le' (by omega), le_zL (by omega)] at h25
          refine lv_iinc (pc := 31) (v := nI ((i + 1))) (lv' := [(2, .int (nI ((i + 1)))), (0, .ref (ad 0)), (1, .int (nI (h)))]) hx hb dX1_lay_31 hl (k := 2) rfl (nI_inc _) (by decide) rfl (fun ls hl => ?_)
          refine lv_goto (pc := 34) (tgt := 2) hx hb dX1_lay_34 (by decide) ?_
          exact ih_2 ((i + 1)) (by omega) (by omega) (fun q z => (Nat.lt_or_ge q i).elim (fun w => hr9 q w) (fun w => by have e : q = i := (by omega); subst e; omega)) _ _ _ hP hD hS (lv_sub hl [1, 2, 0] rfl)
        · skip
          rw [zL_le' (by omega), le_zL (by omega)] at h25
          refine lv_bipush (pc := 28) (v := zI (-5)) hx hb dX1_lay_28 (by decide) ?_
          exact hret _ _ _ _ _ (ho) (Or.inr ⟨fun z => by have := z i (by omega); omega, rfl, rfl⟩) hP hD hS dX1_lay_30
  exact L2 _ (0) (Nat.lt_succ_self _) (by omega) (fun q z => by omega) _ _ _ hP hD hS (lv_sub hl [1, 2, 0] rfl)
