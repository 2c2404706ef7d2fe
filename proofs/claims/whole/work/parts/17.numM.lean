set_option maxHeartbeats 4000000 in
set_option maxRecDepth 100000 in
theorem c_X1_sum (l : Launch) (dd : va_G) {ad : Nat → Nat} {cI cL cQ : ClassId} {hv : Nat → Nat → Int32} {P : Nat} {D : Nat} {ix : Nat → Int32} {ho : Nat → Int64} {re : Nat → Int32} {wk : Nat → Int64} {tu : Nat → Int64} {wa : Nat → Int64} {nx : Nat → Int64} {h : Int} {a : Int} {b : Int} (hhr : -2147483648 ≤ h ∧ h < 2147483648) (har : -2147483648 ≤ a ∧ a < 2147483648) (hbr : -2147483648 ≤ b ∧ b < 2147483648) (hP1 : okP P) (hD1 : 1 ≤ D ∧ D ≤ 12) (hix : ∀ y, 1 ≤ y → y < P → ix y = nI (ixN P y)) (hre : ∀ i, i < 13 → re i = zI (relM D i)) (hL : okL D hv ho) : CTi l yX1_sum wsX1_sum ({ frames := 2, cells := 0, slots := 0, locals := 47 } : Room) dd (tysA cI cL cQ) (am_no) [.ref (ad 0), .int (zI (h)), .int (zI (a)), .int (zI (b))] (wM ad cI cL (P) ((rootN P)) (D) ((phN D)) (ix) (ho) (re) (wk) (tu) (wa) (nx)) (fun (r : Int32) (u : (Nat → Int64) × (Nat → Int64)) => (¬ (0 ≤ h ∧ h < 6) ∧ r = zI (-2) ∧ u.2 = ho) ∨ ((0 ≤ h ∧ h < 6) ∧ r = nI (P - 2) ∧ ((inR D (fun j => sumV P D a b P j) ∧ okL D (stR hv h.toNat (fun j => sumV P D a b P j)) u.2) ∨ (¬ inR D (fun j => sumV P D a b P j) ∧ u.2 = ho)))) (fun (u : (Nat → Int64) × (Nat → Int64)) => (wM ad cI cL (P) ((rootN P)) (D) ((phN D)) (ix) (u.2) (re) (u.1) (tu) (wa) (nx))) := by
  refine CTi_of (cc := cX1_sum) (maxL := 7) (by decide +kernel) rfl (Nat.le_of_ble_eq_true rfl) ?_
  intro p e s m args below meth c A Q ls H locs hx hb hts hown hml hP hK hD hS hA hX hl hret
  have hin : ∀ w ∈ wsX10, w ∈ wsX1_sum := by decide +kernel
  have hl : lv_has ls 7 [(0, .ref (ad 0)), (1, .int (zI (h))), (2, .int (zI (a))), (3, .int (zI (b)))] := hl
  obtain ⟨o1, o2, o3, o4, o5, o6⟩ := id hP1
  have hph := ph_rng D (by omega) hD1.1
  refine lv_iload_n (pc := 0) hx hb dX1_sum_0 rfl (lv_at hl 1 rfl) ?_
  refine CTi_S0 (pc := 1) am_no_ok (As := [.int (zI (h))]) (rest := []) ⟨hx, hb, hml, hown, hts⟩ (c_X1_isHold l dd (by omega)) (va_cwS 1 hts gX1_sum_X1_isHold rfl rfl rfl (by decide +kernel) ⟨Nat.le_of_ble_eq_true rfl, Nat.le_of_ble_eq_true rfl⟩) hK hP hD hS hA hX rfl hl.1 rfl (Nat.le_of_ble_eq_true rfl) ⟨Nat.zero_le _, Nat.zero_le _⟩ dX1_sum_1 (fun r u H locs hw hP hD hS => ?_)
  try dsimp only at hw
  subst hw
  refine bv_if_ne (pc := 4) (tgt := 10) hx hb dX1_sum_4 (by decide) (fun h4 => ?_) (fun h4 => ?_)
  · skip
    refine lv_aload_n (pc := 10) hx hb dX1_sum_10 rfl (lv_at hl 0 rfl) ?_
    refine CTv_Vw (pc := 11) am_no_ok (As := []) (rest := []) ⟨hx, hb, hml, hown, hts⟩ (c_X1_empty l dd ) (cwV 0 hts gX1_sum_X1_empty rfl rfl rfl (by decide +kernel) ⟨Nat.le_of_ble_eq_true rfl, Nat.le_of_ble_eq_true rfl⟩) hK hP hD hS hA hX hK 0 1 rfl rfl rfl rfl hl.1 rfl (Nat.le_of_ble_eq_true rfl) ⟨Nat.zero_le _, Nat.zero_le _⟩ dX1_sum_11 (fun u H locs hw hP hD hS => ?_)
    try dsimp only at hw
    obtain ⟨wk11, e9⟩ : ∃ z, z = u := ⟨_, rfl⟩
    rw [← e9] at hw hP hD
    have hw11 := hw
    have hP : va_P dd vwCl (wM ad cI cL (P) ((rootN P)) (D) ((phN D)) (ix) (ho) (re) (wk11) (tu) (wa) (nx)) H := hP
    have hD : va_D A (wM ad cI cL (P) ((rootN P)) (D) ((phN D)) (ix) (ho) (re) (wk11) (tu) (wa) (nx)) := hD
    refine nv_iconst (pc := 14) (k := 2) hx hb dX1_sum_14 rfl ?_
    refine lv_istore (pc := 15) (lv' := [(4, .int (nI (2))), (0, .ref (ad 0)), (1, .int (zI (h))), (2, .int (zI (a))), (3, .int (zI (b)))]) hx hb dX1_sum_15 hl (by decide) rfl (fun ls hl => ?_)
    have L17 : ∀ (n9_17 : Nat), ∀ (x : Nat) (w2 : Nat → Int64), P + 1 - x < n9_17 → (2 ≤ x ∧ x ≤ P) → (∀ j, j < phN D → Lf D j w2 24 = sumV P D a b x j) → ∀ (H : Heap) (locs : List Loc) (ls : Array Slot), va_P dd vwCl (wM ad cI cL (P) ((rootN P)) (D) ((phN D)) (ix) (ho) (re) (w2) (tu) (wa) (nx)) H → va_D A (wM ad cI cL (P) ((rootN P)) (D) ((phN D)) (ix) (ho) (re) (w2) (tu) (wa) (nx)) → va_S A s.heap H locs → lv_has ls 7 [(0, .ref (ad 0)), (1, .int (zI (h))), (2, .int (zI (a))), (3, .int (zI (b))), (4, .int (nI (x)))] → W p l e ({ frames := 2, cells := 0, slots := 0, locals := 47 } : Room) s m args below meth c H locs 0 0 Q (F0 m 17 ls []) := by
      intro n9_17
      induction n9_17 with
      | zero => intro x w2 hm; exact absurd hm (Nat.not_lt_zero _)
      | succ n9_17 ih_17 =>
        intro x w2 hm_17 hx9 hL2 H locs ls hP hD hS hl
        have hc1 : clsN P D x < D := Nat.mod_lt _ (by omega)
        have hc2 : clsN P D (P + 1 - x) < D := Nat.mod_lt _ (by omega)
        have hm : sumE P D a b x < D := fmN_lt _ (by omega)
        refine lv_iload (pc := 17) hx hb dX1_sum_17 (lv_at hl 4 rfl) ?_
        refine lv_aload_n (pc := 19) hx hb dX1_sum_19 rfl (lv_at hl 0 rfl) ?_
        refine va_get (pc := 20) (D := dd) (ci := 1) (v := .int (nI (P))) (C := RX1) (T := TX1) (N := 11) hx hb hts hin hown hK hP 0 rfl rfl 0 (by decide) (hts (.fieldLink RX1 42 "TurningSumsModel" "p" "I") (by decide +kernel)) (fun _ h9 => h9) rfl dX1_sum_20 ?_
        refine nv_icmp_ge (pc := 23) (tgt := 80) hx hb (a := x) (b := P) (by omega) (by omega) dX1_sum_23 (by decide) (fun h23 => ?_) (fun h23 => ?_)
        · skip
          refine lv_aload_n (pc := 80) hx hb dX1_sum_80 rfl (lv_at hl 0 rfl) ?_
          refine CTv_Vw (pc := 81) am_no_ok (As := []) (rest := []) ⟨hx, hb, hml, hown, hts⟩ (c_X1_reduce l dd hD1 hre) (cwV 0 hts gX1_sum_X1_reduce rfl rfl rfl (by decide +kernel) ⟨Nat.le_of_ble_eq_true rfl, Nat.le_of_ble_eq_true rfl⟩) hK hP hD hS hA hX hK 0 1 rfl rfl rfl rfl hl.1 rfl (Nat.le_of_ble_eq_true rfl) ⟨Nat.zero_le _, Nat.zero_le _⟩ dX1_sum_81 (fun u H locs hw hP hD hS => ?_)
          try dsimp only at hw
          obtain ⟨wk81, e9⟩ : ∃ z, z = u := ⟨_, rfl⟩
          rw [← e9] at hw hP hD
          have hw81 := hw
          have hP : va_P dd vwCl (wM ad cI cL (P) ((rootN P)) (D) ((phN D)) (ix) (ho) (re) (wk81) (tu) (wa) (nx)) H := hP
          have hD : va_D A (wM ad cI cL (P) ((rootN P)) (D) ((phN D)) (ix) (ho) (re) (wk81) (tu) (wa) (nx)) := hD
          refine lv_aload_n (pc := 84) hx hb dX1_sum_84 rfl (lv_at hl 0 rfl) ?_
          refine lv_iload_n (pc := 85) hx hb dX1_sum_85 rfl (lv_at hl 1 rfl) ?_
          refine tq_i (pc := 86) (y := nI ((h).toNat)) (zI_toNat (by omega)) ?_
          refine CTi_Vw (pc := 86) am_no_ok (As := [.int (nI ((h).toNat))]) (rest := []) ⟨hx, hb, hml, hown, hts⟩ (c_X1_lay l dd (fun j => sumV P D a b P j) hD1 (by omega) (fun j z => (hw81 j z).trans ((hL2 j z).trans (by rw [show x = P by omega]))) hL) (cwV 1 hts gX1_sum_X1_lay rfl rfl rfl (by decide +kernel) ⟨Nat.le_of_ble_eq_true rfl, Nat.le_of_ble_eq_true rfl⟩) hK hP hD hS hA hX hK 0 1 rfl rfl rfl rfl hl.1 rfl (Nat.le_of_ble_eq_true rfl) ⟨Nat.zero_le _, Nat.zero_le _⟩ dX1_sum_86 (fun r u H locs hw hP hD hS => ?_)
          try dsimp only at hw
          obtain ⟨ho86, e9⟩ : ∃ z, z = u := ⟨_, rfl⟩
          rw [← e9] at hw hP hD
          have hw86 := hw
          have hP : va_P dd vwCl (wM ad cI cL (P) ((rootN P)) (D) ((phN D)) (ix) (ho86) (re) (wk81) (tu) (wa) (nx)) H := hP
          have hD : va_D A (wM ad cI cL (P) ((rootN P)) (D) ((phN D)) (ix) (ho86) (re) (wk81) (tu) (wa) (nx)) := hD
          refine lv_pop (pc := 89) hx hb dX1_sum_89 rfl ?_
          refine lv_aload_n (pc := 90) hx hb dX1_sum_90 rfl (lv_at hl 0 rfl) ?_
          refine va_get (pc := 91) (D := dd) (ci := 1) (v := .int (nI (P))) (C := RX1) (T := TX1) (N := 11) hx hb hts hin hown hK hP 0 rfl rfl 0 (by decide) (hts (.fieldLink RX1 42 "TurningSumsModel" "p" "I") (by decide +kernel)) (fun _ h9 => h9) rfl dX1_sum_91 ?_
          refine nv_iconst (pc := 94) (k := 2) hx hb dX1_sum_94 rfl ?_
          refine nv_isub (pc := 95) hx hb (by omega) dX1_sum_95 ?_
          exact hret _ _ _ _ _ (wk81, ho86) (Or.inr ⟨h4, rfl, hw86.elim (fun z => Or.inl ⟨z.1, z.2.2⟩) (fun z => Or.inr ⟨z.1, z.2.2⟩)⟩) hP hD hS dX1_sum_96
        · skip
          refine lv_iload_n (pc := 26) hx hb dX1_sum_26 rfl (lv_at hl 2 rfl) ?_
          refine lv_i2l (pc := 27) (v := zL (a)) hx hb dX1_sum_27 (zL_zI (by omega) (by omega)) ?_
          refine lv_aload_n (pc := 28) hx hb dX1_sum_28 rfl (lv_at hl 0 rfl) ?_
          refine lv_iload (pc := 29) hx hb dX1_sum_29 (lv_at hl 4 rfl) ?_
          refine CTi_Vw (pc := 31) am_no_ok (As := [.int (nI (x))]) (rest := [.long (zL (a))]) ⟨hx, hb, hml, hown, hts⟩ (c_X1_classOf l dd ⟨o1, o2, hD1.1, hD1.2, hix⟩ (by omega) (by omega)) (cwV 1 hts gX1_sum_X1_classOf rfl rfl rfl (by decide +kernel) ⟨Nat.le_of_ble_eq_true rfl, Nat.le_of_ble_eq_true rfl⟩) hK hP hD hS hA hX hK 0 1 rfl rfl rfl rfl hl.1 rfl (Nat.le_of_ble_eq_true rfl) ⟨Nat.zero_le _, Nat.zero_le _⟩ dX1_sum_31 (fun r u H locs hw hP hD hS => ?_)
          try dsimp only at hw
          subst hw
          refine lv_i2l (pc := 34) (v := zL (((clsN P D (x)) : Nat) : Int)) hx hb dX1_sum_34 (zL_nI (by omega)) ?_
          refine lv_lmul (pc := 35) hx hb dX1_sum_35 ?_
          refine lv_iload_n (pc := 36) hx hb dX1_sum_36 rfl (lv_at hl 3 rfl) ?_
          refine lv_i2l (pc := 37) (v := zL (b)) hx hb dX1_sum_37 (zL_zI (by omega) (by omega)) ?_
          refine lv_aload_n (pc := 38) hx hb dX1_sum_38 rfl (lv_at hl 0 rfl) ?_
          refine lv_aload_n (pc := 39) hx hb dX1_sum_39 rfl (lv_at hl 0 rfl) ?_
          refine va_get (pc := 40) (D := dd) (ci := 1) (v := .int (nI (P))) (C := RX1) (T := TX1) (N := 11) hx hb hts hin hown hK hP 0 rfl rfl 0 (by decide) (hts (.fieldLink RX1 42 "TurningSumsModel" "p" "I") (by decide +kernel)) (fun _ h9 => h9) rfl dX1_sum_40 ?_
          refine nv_iconst (pc := 43) (k := 1) hx hb dX1_sum_43 rfl ?_
          refine nv_iadd (pc := 44) hx hb dX1_sum_44 ?_
          refine lv_iload (pc := 45) hx hb dX1_sum_45 (lv_at hl 4 rfl) ?_
          refine nv_isub (pc := 47) hx hb (by omega) dX1_sum_47 ?_
          refine CTi_Vw (pc := 48) am_no_ok (As := [.int (nI (((P + 1) - x)))]) (rest := [.long (zL (b)), .long ((zL (a) * zL (((clsN P D (x)) : Nat) : Int)))]) ⟨hx, hb, hml, hown, hts⟩ (c_X1_classOf l dd ⟨o1, o2, hD1.1, hD1.2, hix⟩ (by omega) (by omega)) (cwV 1 hts gX1_sum_X1_classOf rfl rfl rfl (by decide +kernel) ⟨Nat.le_of_ble_eq_true rfl, Nat.le_of_ble_eq_true rfl⟩) hK hP hD hS hA hX hK 0 1 rfl rfl rfl rfl hl.1 rfl (Nat.le_of_ble_eq_true rfl) ⟨Nat.zero_le _, Nat.zero_le _⟩ dX1_sum_48 (fun r u H locs hw hP hD hS => ?_)
          try dsimp only at hw
          subst hw
          refine lv_i2l (pc := 51) (v := zL (((clsN P D (((P + 1) - x))) : Nat) : Int)) hx hb dX1_sum_51 (zL_nI (by omega)) ?_
          refine lv_lmul (pc := 52) hx hb dX1_sum_52 ?_
          refine lv_ladd (pc := 53) hx hb dX1_sum_53 ?_
          refine tq_l (y := zL (a * ((clsN P D x : Nat) : Int) + b * ((clsN P D (P + 1 - x) : Nat) : Int))) (by rw [zL_mul, zL_mul, zL_add]) ?_
          refine lv_lstore (pc := 54) (lv' := [(5, .long (zL (a * ((clsN P D x : Nat) : Int) + b * ((clsN P D (P + 1 - x) : Nat) : Int)))), (0, .ref (ad 0)), (1, .int (zI (h))), (2, .int (zI (a))), (3, .int (zI (b))), (4, .int (nI (x)))]) hx hb dX1_sum_54 hl (by decide) rfl (fun ls hl => ?_)
          refine lv_aload_n (pc := 56) hx hb dX1_sum_56 rfl (lv_at hl 1 rfl) ?_
          refine va_get (pc := 57) (D := dd) (ci := 1) (v := .ref (ad 4)) (C := RX1) (T := TX1) (N := 11) hx hb hts hin hown hK hP 0 rfl rfl 7 (by decide) (hts (.fieldLink RX1 20 "TurningSumsModel" "work" "[J") (by decide +kernel)) (fun _ h9 => h9) rfl dX1_sum_57 ?_
          refine lv_lload (pc := 60) hx hb dX1_sum_60 (lv_at hl 0 rfl) ?_
          refine lv_aload_n (pc := 62) hx hb dX1_sum_62 rfl (lv_at hl 1 rfl) ?_
          refine va_get (pc := 63) (D := dd) (ci := 1) (v := .int (nI (D))) (C := RX1) (T := TX1) (N := 11) hx hb hts hin hown hK hP 0 rfl rfl 2 (by decide) (hts (.fieldLink RX1 52 "TurningSumsModel" "d" "I") (by decide +kernel)) (fun _ h9 => h9) rfl dX1_sum_63 ?_
          refine CTi_S0 (pc := 66) am_no_ok (As := [.long (zL (a * ((clsN P D x : Nat) : Int) + b * ((clsN P D (P + 1 - x) : Nat) : Int))), .int (nI (D))]) (rest := [.ref (ad 4)]) ⟨hx, hb, hml, hown, hts⟩ (c_X1_rem l dd (rngE har hbr (by omega) (by omega)) (by omega) (by omega)) (va_cwS 2 hts gX1_sum_X1_rem rfl rfl rfl (by decide +kernel) ⟨Nat.le_of_ble_eq_true rfl, Nat.le_of_ble_eq_true rfl⟩) hK hP hD hS hA hX rfl hl.1 rfl (Nat.le_of_ble_eq_true rfl) ⟨Nat.zero_le _, Nat.zero_le _⟩ dX1_sum_66 (fun r u H locs hw hP hD hS => ?_)
          try dsimp only at hw
          subst hw
          refine tq_i (y := nI ((sumE P D a b x))) (rfl) ?_
          refine lv_dup2_11 (pc := 69) hx hb dX1_sum_69 rfl rfl ?_
          refine nv_lald (pc := 70) hx hb hK hP 4 1 rfl rfl (i := (sumE P D a b x)) (by omega) (by decide) (v := (w2) ((sumE P D a b x))) (rfl) dX1_sum_70 ?_
          refine lv_lconst (pc := 71) (v := zL 1) hx hb dX1_sum_71 (by decide) ?_
          refine lv_ladd (pc := 72) hx hb dX1_sum_72 ?_
          refine nv_last (pc := 73) hx hb hK hP hD hS 4 1 rfl rfl (by omega) (by decide) (ws' := (wM ad cI cL (P) ((rootN P)) (D) ((phN D)) (ix) (ho) (re) ((vp_updL (w2) ((sumE P D a b x)) (((w2) ((sumE P D a b x)) + zL 1)))) (tu) (wa) (nx))) rfl dX1_sum_73 (fun H locs hP hD hS => ?_)
          refine lv_iinc (pc := 74) (v := nI ((x + 1))) (lv' := [(4, .int (nI ((x + 1)))), (5, .long (zL (a * ((clsN P D x : Nat) : Int) + b * ((clsN P D (P + 1 - x) : Nat) : Int)))), (0, .ref (ad 0)), (1, .int (zI (h))), (2, .int (zI (a))), (3, .int (zI (b)))]) hx hb dX1_sum_74 hl (k := 5) rfl (nI_inc _) (by decide) rfl (fun ls hl => ?_)
          refine lv_goto (pc := 77) (tgt := 17) hx hb dX1_sum_77 (by decide) ?_
          exact ih_17 ((x + 1)) ((vp_updL (w2) ((sumE P D a b x)) (((w2) ((sumE P D a b x)) + zL 1)))) (by omega) (by omega) (fun j z => by rw [Lf_add (by omega), hL2 j z, sumV_s hx9.1]) _ _ _ hP hD hS (lv_sub hl [2, 3, 4, 5, 0] rfl)
    exact L17 _ (2) (wk11) (Nat.lt_succ_self _) (by omega) (fun j z => by rw [sumV_2]; exact Lf_zero (fun m a => hw11 m a)) _ _ _ hP hD hS (lv_sub hl [1, 2, 3, 4, 0] rfl)
  · skip
    refine lv_bipush (pc := 7) (v := zI (-2)) hx hb dX1_sum_7 (by decide) ?_
    exact hret _ _ _ _ _ (wk, ho) (Or.inl ⟨h4, rfl, rfl⟩) hP hD hS dX1_sum_9
set_option maxHeartbeats 4000000 in
set_option maxRecDepth 100000 in
theorem c_X1_unit (l : Launch) (dd : va_G) {ad : Nat → Nat} {cI cL cQ : ClassId} {hv : Nat → Nat → Int32} {P : Nat} {D : Nat} {ix : Nat → Int32} {ho : Nat → Int64} {re : Nat → Int32} {wk : Nat → Int64} {tu : Nat → Int64} {wa : Nat → Int64} {nx : Nat → Int64} {h : Int} {q9 : Int} {k9 : Int} (hhr : -2147483648 ≤ h ∧ h < 2147483648) (hqr : -2147483648 ≤ q9 ∧ q9 < 2147483648) (hkr : -2147483648 ≤ k9 ∧ k9 < 2147483648) (hP1 : okP P) (hD1 : 1 ≤ D ∧ D ≤ 12) (hre : ∀ i, i < 13 → re i = zI (relM D i)) (hL : okL D hv ho) : CTi l yX1_unit wsX1_unit ({ frames := 2, cells := 0, slots := 0, locals := 47 } : Room) dd (tysA cI cL cQ) (am_no) [.ref (ad 0), .int (zI (h)), .int (zI (q9)), .int (zI (k9))] (wM ad cI cL (P) ((rootN P)) (D) ((phN D)) (ix) (ho) (re) (wk) (tu) (wa) (nx)) (fun (r : Int32) (u : (Nat → Int64) × (Nat → Int64)) => (¬ (0 ≤ h ∧ h < 6) ∧ r = zI (-2) ∧ u.2 = ho) ∨ ((0 ≤ h ∧ h < 6) ∧ ¬ (-1000 ≤ q9 ∧ q9 ≤ 1000) ∧ r = zI (-3) ∧ u.2 = ho) ∨ ((0 ≤ h ∧ h < 6) ∧ (-1000 ≤ q9 ∧ q9 ≤ 1000) ∧ ((inR D (unV D q9 k9) ∧ r = nI 1 ∧ okL D (stR hv h.toNat (unV D q9 k9)) u.2) ∨ (¬ inR D (unV D q9 k9) ∧ r = zI (-5) ∧ u.2 = ho)))) (fun (u : (Nat → Int64) × (Nat → Int64)) => (wM ad cI cL (P) ((rootN P)) (D) ((phN D)) (ix) (u.2) (re) (u.1) (tu) (wa) (nx))) := by
  refine CTi_of (cc := cX1_unit) (maxL := 4) (by decide +kernel) rfl (Nat.le_of_ble_eq_true rfl) ?_
  intro p e s m args below meth c A Q ls H locs hx hb hts hown hml hP hK hD hS hA hX hl hret
  have hin : ∀ w ∈ wsX10, w ∈ wsX1_unit := by decide +kernel
  have hl : lv_has ls 4 [(0, .ref (ad 0)), (1, .int (zI (h))), (2, .int (zI (q9))), (3, .int (zI (k9)))] := hl
  obtain ⟨o1, o2, o3, o4, o5, o6⟩ := id hP1
  have hph := ph_rng D (by omega) hD1.1
  have hm := fmN_lt k9 (show 0 < D by omega)
  refine lv_iload_n (pc := 0) hx hb dX1_unit_0 rfl (lv_at hl 1 rfl) ?_
  refine CTi_S0 (pc := 1) am_no_ok (As := [.int (zI (h))]) (rest := []) ⟨hx, hb, hml, hown, hts⟩ (c_X1_isHold l dd (by omega)) (va_cwS 1 hts gX1_unit_X1_isHold rfl rfl rfl (by decide +kernel) ⟨Nat.le_of_ble_eq_true rfl, Nat.le_of_ble_eq_true rfl⟩) hK hP hD hS hA hX rfl hl.1 rfl (Nat.le_of_ble_eq_true rfl) ⟨Nat.zero_le _, Nat.zero_le _⟩ dX1_unit_1 (fun r u H locs hw hP hD hS => ?_)
  try dsimp only at hw
  subst hw
  refine bv_if_ne (pc := 4) (tgt := 10) hx hb dX1_unit_4 (by decide) (fun h4 => ?_) (fun h4 => ?_)
  · skip
    refine lv_iload_n (pc := 10) hx hb dX1_unit_10 rfl (lv_at hl 2 rfl) ?_
    refine lv_i2l (pc := 11) (v := zL (q9)) hx hb dX1_unit_11 (zL_zI (by omega) (by omega)) ?_
    refine tq_ldc2 (pc := 12) (k := (-1000)) hx hb hown (hts (.constantLong RX1 92 (-1000)) (by decide +kernel)) dX1_unit_12 ?_
    refine tq_ldc2 (pc := 15) (k := (1000)) hx hb hown (hts (.constantLong RX1 94 (1000)) (by decide +kernel)) dX1_unit_15 ?_
    refine CTi_S0 (pc := 18) am_no_ok (As := [.long (zL (q9)), .long (zL (-1000)), .long (zL (1000))]) (rest := []) ⟨hx, hb, hml, hown, hts⟩ (c_X1_in l dd ) (va_cwS 3 hts gX1_unit_X1_in rfl rfl rfl (by decide +kernel) ⟨Nat.le_of_ble_eq_true rfl, Nat.le_of_ble_eq_true rfl⟩) hK hP hD hS hA hX rfl hl.1 rfl (Nat.le_of_ble_eq_true rfl) ⟨Nat.zero_le _, Nat.zero_le _⟩ dX1_unit_18 (fun r u H locs hw hP hD hS => ?_)
    try dsimp only at hw
    subst hw
    refine bv_if_ne (pc := 21) (tgt := 27) hx hb dX1_unit_21 (by decide) (fun h21 => ?_) (fun h21 => ?_)
    · skip
      rw [zL_le (by omega) (by omega), zL_le (by omega) (by omega)] at h21
      refine lv_aload_n (pc := 27) hx hb dX1_unit_27 rfl (lv_at hl 0 rfl) ?_
      refine CTv_Vw (pc := 28) am_no_ok (As := []) (rest := []) ⟨hx, hb, hml, hown, hts⟩ (c_X1_empty l dd ) (cwV 0 hts gX1_unit_X1_empty rfl rfl rfl (by decide +kernel) ⟨Nat.le_of_ble_eq_true rfl, Nat.le_of_ble_eq_true rfl⟩) hK hP hD hS hA hX hK 0 1 rfl rfl rfl rfl hl.1 rfl (Nat.le_of_ble_eq_true rfl) ⟨Nat.zero_le _, Nat.zero_le _⟩ dX1_unit_28 (fun u H locs hw hP hD hS => ?_)
      try dsimp only at hw
      obtain ⟨wk28, e9⟩ : ∃ z, z = u := ⟨_, rfl⟩
      rw [← e9] at hw hP hD
      have hw28 := hw
      have hP : va_P dd vwCl (wM ad cI cL (P) ((rootN P)) (D) ((phN D)) (ix) (ho) (re) (wk28) (tu) (wa) (nx)) H := hP
      have hD : va_D A (wM ad cI cL (P) ((rootN P)) (D) ((phN D)) (ix) (ho) (re) (wk28) (tu) (wa) (nx)) := hD
      refine lv_aload_n (pc := 31) hx hb dX1_unit_31 rfl (lv_at hl 0 rfl) ?_
      refine va_get (pc := 32) (D := dd) (ci := 1) (v := .ref (ad 4)) (C := RX1) (T := TX1) (N := 11) hx hb hts hin hown hK hP 0 rfl rfl 7 (by decide) (hts (.fieldLink RX1 20 "TurningSumsModel" "work" "[J") (by decide +kernel)) (fun _ h9 => h9) rfl dX1_unit_32 ?_
      refine lv_iload_n (pc := 35) hx hb dX1_unit_35 rfl (lv_at hl 3 rfl) ?_
      refine lv_i2l (pc := 36) (v := zL (k9)) hx hb dX1_unit_36 (zL_zI (by omega) (by omega)) ?_
      refine lv_aload_n (pc := 37) hx hb dX1_unit_37 rfl (lv_at hl 0 rfl) ?_
      refine va_get (pc := 38) (D := dd) (ci := 1) (v := .int (nI (D))) (C := RX1) (T := TX1) (N := 11) hx hb hts hin hown hK hP 0 rfl rfl 2 (by decide) (hts (.fieldLink RX1 52 "TurningSumsModel" "d" "I") (by decide +kernel)) (fun _ h9 => h9) rfl dX1_unit_38 ?_
      refine CTi_S0 (pc := 41) am_no_ok (As := [.long (zL (k9)), .int (nI (D))]) (rest := [.ref (ad 4)]) ⟨hx, hb, hml, hown, hts⟩ (c_X1_rem l dd (by omega) (by omega) (by omega)) (va_cwS 2 hts gX1_unit_X1_rem rfl rfl rfl (by decide +kernel) ⟨Nat.le_of_ble_eq_true rfl, Nat.le_of_ble_eq_true rfl⟩) hK hP hD hS hA hX rfl hl.1 rfl (Nat.le_of_ble_eq_true rfl) ⟨Nat.zero_le _, Nat.zero_le _⟩ dX1_unit_41 (fun r u H locs hw hP hD hS => ?_)
      try dsimp only at hw
      subst hw
      refine lv_iload_n (pc := 44) hx hb dX1_unit_44 rfl (lv_at hl 2 rfl) ?_
      refine lv_i2l (pc := 45) (v := zL (q9)) hx hb dX1_unit_45 (zL_zI (by omega) (by omega)) ?_
      refine nv_last (pc := 46) hx hb hK hP hD hS 4 1 rfl rfl (by omega) (by decide) (ws' := (wM ad cI cL (P) ((rootN P)) (D) ((phN D)) (ix) (ho) (re) ((vp_updL (wk28) ((fmN ((k9)) (D))) (zL (q9)))) (tu) (wa) (nx))) rfl dX1_unit_46 (fun H locs hP hD hS => ?_)
      refine lv_aload_n (pc := 47) hx hb dX1_unit_47 rfl (lv_at hl 0 rfl) ?_
      refine CTv_Vw (pc := 48) am_no_ok (As := []) (rest := []) ⟨hx, hb, hml, hown, hts⟩ (c_X1_reduce l dd hD1 hre) (cwV 0 hts gX1_unit_X1_reduce rfl rfl rfl (by decide +kernel) ⟨Nat.le_of_ble_eq_true rfl, Nat.le_of_ble_eq_true rfl⟩) hK hP hD hS hA hX hK 0 1 rfl rfl rfl rfl hl.1 rfl (Nat.le_of_ble_eq_true rfl) ⟨Nat.zero_le _, Nat.zero_le _⟩ dX1_unit_48 (fun u H locs hw hP hD hS => ?_)
      try dsimp only at hw
      obtain ⟨wk48, e9⟩ : ∃ z, z = u := ⟨_, rfl⟩
      rw [← e9] at hw hP hD
      have hw48 := hw
      have hP : va_P dd vwCl (wM ad cI cL (P) ((rootN P)) (D) ((phN D)) (ix) (ho) (re) (wk48) (tu) (wa) (nx)) H := hP
      have hD : va_D A (wM ad cI cL (P) ((rootN P)) (D) ((phN D)) (ix) (ho) (re) (wk48) (tu) (wa) (nx)) := hD
      refine lv_aload_n (pc := 51) hx hb dX1_unit_51 rfl (lv_at hl 0 rfl) ?_
      refine lv_iload_n (pc := 52) hx hb dX1_unit_52 rfl (lv_at hl 1 rfl) ?_
      refine tq_i (pc := 53) (y := nI ((h).toNat)) (zI_toNat (by omega)) ?_
      refine CTi_Vw (pc := 53) am_no_ok (As := [.int (nI ((h).toNat))]) (rest := []) ⟨hx, hb, hml, hown, hts⟩ (c_X1_lay l dd (unV D q9 k9) hD1 (by omega) (fun j z => (hw48 j z).trans (Lf_set (fun m a => hw28 m a) (by omega))) hL) (cwV 1 hts gX1_unit_X1_lay rfl rfl rfl (by decide +kernel) ⟨Nat.le_of_ble_eq_true rfl, Nat.le_of_ble_eq_true rfl⟩) hK hP hD hS hA hX hK 0 1 rfl rfl rfl rfl hl.1 rfl (Nat.le_of_ble_eq_true rfl) ⟨Nat.zero_le _, Nat.zero_le _⟩ dX1_unit_53 (fun r u H locs hw hP hD hS => ?_)
      try dsimp only at hw
      obtain ⟨ho53, e9⟩ : ∃ z, z = u := ⟨_, rfl⟩
      rw [← e9] at hw hP hD
      have hw53 := hw
      have hP : va_P dd vwCl (wM ad cI cL (P) ((rootN P)) (D) ((phN D)) (ix) (ho53) (re) (wk48) (tu) (wa) (nx)) H := hP
      have hD : va_D A (wM ad cI cL (P) ((rootN P)) (D) ((phN D)) (ix) (ho53) (re) (wk48) (tu) (wa) (nx)) := hD
      exact hret _ _ _ _ _ (wk48, ho53) (Or.inr (Or.inr ⟨h4, by omega, hw53⟩)) hP hD hS dX1_unit_56
    · skip
      rw [zL_le (by omega) (by omega), zL_le (by omega) (by omega)] at h21
      refine lv_bipush (pc := 24) (v := zI (-3)) hx hb dX1_unit_24 (by decide) ?_
      exact hret _ _ _ _ _ (wk, ho) (Or.inr (Or.inl ⟨h4, by omega, rfl, rfl⟩)) hP hD hS dX1_unit_26
  · skip
    refine lv_bipush (pc := 7) (v := zI (-2)) hx hb dX1_unit_7 (by decide) ?_
    exact hret _ _ _ _ _ (wk, ho) (Or.inl ⟨h4, rfl, rfl⟩) hP hD hS dX1_unit_9
set_option maxHeartbeats 4000000 in
set_option maxRecDepth 100000 in
theorem c_X1_times_h (l : Launch) (dd : va_G) {ad : Nat → Nat} {cI cL cQ : ClassId} (aV bV : Nat → Int64) {P : Nat} {D : Nat} {ix : Nat → Int32} {ho : Nat → Int64} {re : Nat → Int32} {wk : Nat → Int64} {tu : Nat → Int64} {wa : Nat → Int64} {nx : Nat → Int64} {h1 : Nat} {fr : Nat} (hD1 : 1 ≤ D ∧ D ≤ 12) (hre : ∀ i, i < 13 → re i = zI (relM D i)) (hh1 : h1 < 6) (hfr : fr + 12 ≤ 72) (haa : ∀ i, i < phN D → ho (12 * h1 + i) = aV i) (hbb : ∀ k, k < phN D → ho (fr + k) = bV k) : CTv l yX1_times wsX1_times ({ frames := 1, cells := 0, slots := 0, locals := 24 } : Room) dd (tysA cI cL cQ) (am_no) [.ref (ad 0), .int (nI (h1)), .ref (ad 2), .int (nI (fr))] (wM ad cI cL (P) ((rootN P)) (D) ((phN D)) (ix) (ho) (re) (wk) (tu) (wa) (nx)) (fun (u : Nat → Int64) => ∀ j, j < phN D → u j = tmV D aV bV (phN D) j) (fun (u : Nat → Int64) => (wM ad cI cL (P) ((rootN P)) (D) ((phN D)) (ix) (ho) (re) (u) (tu) (wa) (nx))) := by
  refine CTv_of (cc := cX1_times) (maxL := 6) (by decide +kernel) rfl (Nat.le_of_ble_eq_true rfl) ?_
  intro p e s m args below meth c A Q ls H locs hx hb hts hown hml hP hK hD hS hA hX hl hret
  have hin : ∀ w ∈ wsX10, w ∈ wsX1_times := by decide +kernel
  have hl : lv_has ls 6 [(0, .ref (ad 0)), (1, .int (nI (h1))), (2, .ref (ad 2)), (3, .int (nI (fr)))] := hl
  have hph := ph_rng D (by omega) hD1.1
  refine lv_aload_n (pc := 0) hx hb dX1_times_0 rfl (lv_at hl 0 rfl) ?_
  refine CTv_Vw (pc := 1) am_no_ok (As := []) (rest := []) ⟨hx, hb, hml, hown, hts⟩ (c_X1_empty l dd ) (cwV 0 hts gX1_times_X1_empty rfl rfl rfl (by decide +kernel) ⟨Nat.le_of_ble_eq_true rfl, Nat.le_of_ble_eq_true rfl⟩) hK hP hD hS hA hX hK 0 1 rfl rfl rfl rfl hl.1 rfl (Nat.le_of_ble_eq_true rfl) ⟨Nat.zero_le _, Nat.zero_le _⟩ dX1_times_1 (fun u H locs hw hP hD hS => ?_)
  try dsimp only at hw
  obtain ⟨wk1, e9⟩ : ∃ z, z = u := ⟨_, rfl⟩
  rw [← e9] at hw hP hD
  have hw1 := hw
  have hP : va_P dd vwCl (wM ad cI cL (P) ((rootN P)) (D) ((phN D)) (ix) (ho) (re) (wk1) (tu) (wa) (nx)) H := hP
  have hD : va_D A (wM ad cI cL (P) ((rootN P)) (D) ((phN D)) (ix) (ho) (re) (wk1) (tu) (wa) (nx)) := hD
  refine nv_iconst (pc := 4) (k := 0) hx hb dX1_times_4 rfl ?_
  refine lv_istore (pc := 5) (lv' := [(4, .int (nI (0))), (0, .ref (ad 0)), (1, .int (nI (h1))), (2, .ref (ad 2)), (3, .int (nI (fr)))]) hx hb dX1_times_5 hl (by decide) rfl (fun ls hl => ?_)
  have L7 : ∀ (n9_7 : Nat), ∀ (i : Nat) (w1 : Nat → Int64), phN D + 1 - i < n9_7 → (i ≤ phN D) → (∀ j, j < phN D → Lf D j w1 24 = tmV D aV bV i j) → ∀ (H : Heap) (locs : List Loc) (ls : Array Slot), va_P dd vwCl (wM ad cI cL (P) ((rootN P)) (D) ((phN D)) (ix) (ho) (re) (w1) (tu) (wa) (nx)) H → va_D A (wM ad cI cL (P) ((rootN P)) (D) ((phN D)) (ix) (ho) (re) (w1) (tu) (wa) (nx)) → va_S A s.heap H locs → lv_has ls 6 [(0, .ref (ad 0)), (1, .int (nI (h1))), (2, .ref (ad 2)), (3, .int (nI (fr))), (4, .int (nI (i)))] → W p l e ({ frames := 1, cells := 0, slots := 0, locals := 24 } : Room) s m args below meth c H locs 0 0 Q (F0 m 7 ls []) := by
    intro n9_7
    induction n9_7 with
    | zero => intro i w1 hm; exact absurd hm (Nat.not_lt_zero _)
    | succ n9_7 ih_7 =>
      intro i w1 hm_7 hi hL1 H locs ls hP hD hS hl
      refine lv_iload (pc := 7) hx hb dX1_times_7 (lv_at hl 4 rfl) ?_
      refine lv_aload_n (pc := 9) hx hb dX1_times_9 rfl (lv_at hl 0 rfl) ?_
      refine va_get (pc := 10) (D := dd) (ci := 1) (v := .int (nI ((phN D)))) (C := RX1) (T := TX1) (N := 11) hx hb hts hin hown hK hP 0 rfl rfl 3 (by decide) (hts (.fieldLink RX1 55 "TurningSumsModel" "phi" "I") (by decide +kernel)) (fun _ h9 => h9) rfl dX1_times_10 ?_
      refine nv_icmp_ge (pc := 13) (tgt := 72) hx hb (a := i) (b := (phN D)) (by omega) (by omega) dX1_times_13 (by decide) (fun h13 => ?_) (fun h13 => ?_)
      · skip
        refine lv_aload_n (pc := 72) hx hb dX1_times_72 rfl (lv_at hl 0 rfl) ?_
        refine CTv_Vw (pc := 73) am_no_ok (As := []) (rest := []) ⟨hx, hb, hml, hown, hts⟩ (c_X1_reduce l dd hD1 hre) (cwV 0 hts gX1_times_X1_reduce rfl rfl rfl (by decide +kernel) ⟨Nat.le_of_ble_eq_true rfl, Nat.le_of_ble_eq_true rfl⟩) hK hP hD hS hA hX hK 0 1 rfl rfl rfl rfl hl.1 rfl (Nat.le_of_ble_eq_true rfl) ⟨Nat.zero_le _, Nat.zero_le _⟩ dX1_times_73 (fun u H locs hw hP hD hS => ?_)
        try dsimp only at hw
        obtain ⟨wk73, e9⟩ : ∃ z, z = u := ⟨_, rfl⟩
        rw [← e9] at hw hP hD
        have hw73 := hw
        have hP : va_P dd vwCl (wM ad cI cL (P) ((rootN P)) (D) ((phN D)) (ix) (ho) (re) (wk73) (tu) (wa) (nx)) H := hP
        have hD : va_D A (wM ad cI cL (P) ((rootN P)) (D) ((phN D)) (ix) (ho) (re) (wk73) (tu) (wa) (nx)) := hD
        exact hret _ _ _ _ (wk73) (fun j z => (hw73 j z).trans (by rw [hL1 j z, show i = phN D by omega])) hP hD hS dX1_times_76
      · skip
        refine nv_iconst (pc := 16) (k := 0) hx hb dX1_times_16 rfl ?_
        refine lv_istore (pc := 17) (lv' := [(5, .int (nI (0))), (0, .ref (ad 0)), (1, .int (nI (h1))), (2, .ref (ad 2)), (3, .int (nI (fr))), (4, .int (nI (i)))]) hx hb dX1_times_17 hl (by decide) rfl (fun ls hl => ?_)
        have L19 : ∀ (n9_19 : Nat), ∀ (k : Nat) (w2 : Nat → Int64), phN D + 1 - k < n9_19 → (k ≤ phN D) → (∀ j, j < phN D → Lf D j w2 24 = tmV D aV bV i j + rmV D aV bV i k j) → ∀ (H : Heap) (locs : List Loc) (ls : Array Slot), va_P dd vwCl (wM ad cI cL (P) ((rootN P)) (D) ((phN D)) (ix) (ho) (re) (w2) (tu) (wa) (nx)) H → va_D A (wM ad cI cL (P) ((rootN P)) (D) ((phN D)) (ix) (ho) (re) (w2) (tu) (wa) (nx)) → va_S A s.heap H locs → lv_has ls 6 [(0, .ref (ad 0)), (1, .int (nI (h1))), (2, .ref (ad 2)), (3, .int (nI (fr))), (4, .int (nI (i))), (5, .int (nI (k)))] → W p l e ({ frames := 1, cells := 0, slots := 0, locals := 24 } : Room) s m args below meth c H locs 0 0 Q (F0 m 19 ls []) := by
          intro n9_19
          induction n9_19 with
          | zero => intro k w2 hm; exact absurd hm (Nat.not_lt_zero _)
          | succ n9_19 ih_19 =>
            intro k w2 hm_19 hk hL2 H locs ls hP hD hS hl
            refine lv_iload (pc := 19) hx hb dX1_times_19 (lv_at hl 5 rfl) ?_
            refine lv_aload_n (pc := 21) hx hb dX1_times_21 rfl (lv_at hl 0 rfl) ?_
            refine va_get (pc := 22) (D := dd) (ci := 1) (v := .int (nI ((phN D)))) (C := RX1) (T := TX1) (N := 11) hx hb hts hin hown hK hP 0 rfl rfl 3 (by decide) (hts (.fieldLink RX1 55 "TurningSumsModel" "phi" "I") (by decide +kernel)) (fun _ h9 => h9) rfl dX1_times_22 ?_
            refine nv_icmp_ge (pc := 25) (tgt := 66) hx hb (a := k) (b := (phN D)) (by omega) (by omega) dX1_times_25 (by decide) (fun h25 => ?_) (fun h25 => ?_)
            · skip
              refine lv_iinc (pc := 66) (v := nI ((i + 1))) (lv' := [(4, .int (nI ((i + 1)))), (0, .ref (ad 0)), (1, .int (nI (h1))), (2, .ref (ad 2)), (3, .int (nI (fr))), (5, .int (nI (k)))]) hx hb dX1_times_66 hl (k := 4) rfl (nI_inc _) (by decide) rfl (fun ls hl => ?_)
              refine lv_goto (pc := 69) (tgt := 7) hx hb dX1_times_69 (by decide) ?_
              exact ih_7 ((i + 1)) (w2) (by omega) (by omega) (fun j z => (hL2 j z).trans (by rw [show k = phN D by omega]; rfl)) _ _ _ hP hD hS (lv_sub hl [1, 2, 3, 4, 0] rfl)
            · skip
              refine lv_aload_n (pc := 28) hx hb dX1_times_28 rfl (lv_at hl 0 rfl) ?_
              refine va_get (pc := 29) (D := dd) (ci := 1) (v := .ref (ad 4)) (C := RX1) (T := TX1) (N := 11) hx hb hts hin hown hK hP 0 rfl rfl 7 (by decide) (hts (.fieldLink RX1 20 "TurningSumsModel" "work" "[J") (by decide +kernel)) (fun _ h9 => h9) rfl dX1_times_29 ?_
              refine lv_iload (pc := 32) hx hb dX1_times_32 (lv_at hl 4 rfl) ?_
              refine lv_iload (pc := 34) hx hb dX1_times_34 (lv_at hl 5 rfl) ?_
              refine nv_iadd (pc := 36) hx hb dX1_times_36 ?_
              refine lv_dup2_11 (pc := 37) hx hb dX1_times_37 rfl rfl ?_
              refine nv_lald (pc := 38) hx hb hK hP 4 1 rfl rfl (i := (i + k)) (by omega) (by decide) (v := (w2) ((i + k))) (rfl) dX1_times_38 ?_
              refine lv_aload_n (pc := 39) hx hb dX1_times_39 rfl (lv_at hl 0 rfl) ?_
              refine va_get (pc := 40) (D := dd) (ci := 1) (v := .ref (ad 2)) (C := RX1) (T := TX1) (N := 11) hx hb hts hin hown hK hP 0 rfl rfl 5 (by decide) (hts (.fieldLink RX1 13 "TurningSumsModel" "hold" "[J") (by decide +kernel)) (fun _ h9 => h9) rfl dX1_times_40 ?_
              refine nv_bipush (pc := 43) (k := 12) hx hb dX1_times_43 rfl (by decide) ?_
              refine lv_iload_n (pc := 45) hx hb dX1_times_45 rfl (lv_at hl 1 rfl) ?_
              refine nv_imul (pc := 46) hx hb dX1_times_46 ?_
              refine lv_iload (pc := 47) hx hb dX1_times_47 (lv_at hl 4 rfl) ?_
              refine nv_iadd (pc := 49) hx hb dX1_times_49 ?_
              refine nv_lald (pc := 50) hx hb hK hP 2 1 rfl rfl (i := ((12 * h1) + i)) (by omega) (by decide) (v := (aV i)) (haa _ (by omega)) dX1_times_50 ?_
              refine lv_aload_n (pc := 51) hx hb dX1_times_51 rfl (lv_at hl 2 rfl) ?_
              refine lv_iload_n (pc := 52) hx hb dX1_times_52 rfl (lv_at hl 3 rfl) ?_
              refine lv_iload (pc := 53) hx hb dX1_times_53 (lv_at hl 5 rfl) ?_
              refine nv_iadd (pc := 55) hx hb dX1_times_55 ?_
              refine nv_lald (pc := 56) hx hb hK hP 2 1 rfl rfl (i := (fr + k)) (by omega) (by decide) (v := (bV k)) (hbb _ (by omega)) dX1_times_56 ?_
              refine lv_lmul (pc := 57) hx hb dX1_times_57 ?_
              refine lv_ladd (pc := 58) hx hb dX1_times_58 ?_
              refine nv_last (pc := 59) hx hb hK hP hD hS 4 1 rfl rfl (by omega) (by decide) (ws' := (wM ad cI cL (P) ((rootN P)) (D) ((phN D)) (ix) (ho) (re) ((vp_updL (w2) ((i + k)) (((w2) ((i + k)) + ((aV i) * (bV k)))))) (tu) (wa) (nx))) rfl dX1_times_59 (fun H locs hP hD hS => ?_)
              refine lv_iinc (pc := 60) (v := nI ((k + 1))) (lv' := [(5, .int (nI ((k + 1)))), (0, .ref (ad 0)), (1, .int (nI (h1))), (2, .ref (ad 2)), (3, .int (nI (fr))), (4, .int (nI (i)))]) hx hb dX1_times_60 hl (k := 5) rfl (nI_inc _) (by decide) rfl (fun ls hl => ?_)
              refine lv_goto (pc := 63) (tgt := 19) hx hb dX1_times_63 (by decide) ?_
              exact ih_19 ((k + 1)) ((vp_updL (w2) ((i + k)) (((w2) ((i + k)) + ((aV i) * (bV k)))))) (by omega) (by omega) (fun j z => by rw [Lf_add (by omega), hL2 j z, Int64.add_assoc]; rfl) _ _ _ hP hD hS (lv_sub hl [1, 2, 3, 4, 5, 0] rfl)
        exact L19 _ (0) (w1) (Nat.lt_succ_self _) (by omega) (fun j z => by rw [hL1 j z]; exact (Int64.add_zero _).symm) _ _ _ hP hD hS (lv_sub hl [1, 2, 3, 4, 5, 0] rfl)
  exact L7 _ (0) (wk1) (Nat.lt_succ_self _) (by omega) (fun j z => Lf_zero (fun m a => hw1 m a)) _ _ _ hP hD hS (lv_sub hl [1, 2, 3, 4, 0] rfl)
set_option maxHeartbeats 4000000 in
set_option maxRecDepth 100000 in
theorem c_X1_times_t (l : Launch) (dd : va_G) {ad : Nat → Nat} {cI cL cQ : ClassId} (aV bV : Nat → Int64) {P : Nat} {D : Nat} {ix : Nat → Int32} {ho : Nat → Int64} {re : Nat → Int32} {wk : Nat → Int64} {tu : Nat → Int64} {wa : Nat → Int64} {nx : Nat → Int64} {h1 : Nat} {fr : Nat} (hD1 : 1 ≤ D ∧ D ≤ 12) (hre : ∀ i, i < 13 → re i = zI (relM D i)) (hh1 : h1 < 6) (hfr : fr + 12 ≤ 24) (haa : ∀ i, i < phN D → ho (12 * h1 + i) = aV i) (hbb : ∀ k, k < phN D → tu (fr + k) = bV k) : CTv l yX1_times wsX1_times ({ frames := 1, cells := 0, slots := 0, locals := 24 } : Room) dd (tysA cI cL cQ) (am_no) [.ref (ad 0), .int (nI (h1)), .ref (ad 5), .int (nI (fr))] (wM ad cI cL (P) ((rootN P)) (D) ((phN D)) (ix) (ho) (re) (wk) (tu) (wa) (nx)) (fun (u : Nat → Int64) => ∀ j, j < phN D → u j = tmV D aV bV (phN D) j) (fun (u : Nat → Int64) => (wM ad cI cL (P) ((rootN P)) (D) ((phN D)) (ix) (ho) (re) (u) (tu) (wa) (nx))) := by
  refine CTv_of (cc := cX1_times) (maxL := 6) (by decide +kernel) rfl (Nat.le_of_ble_eq_true rfl) ?_
  intro p e s m args below meth c A Q ls H locs hx hb hts hown hml hP hK hD hS hA hX hl hret
  have hin : ∀ w ∈ wsX10, w ∈ wsX1_times := by decide +kernel
  have hl : lv_has ls 6 [(0, .ref (ad 0)), (1, .int (nI (h1))), (2, .ref (ad 5)), (3, .int (nI (fr)))] := hl
  have hph := ph_rng D (by omega) hD1.1
  refine lv_aload_n (pc := 0) hx hb dX1_times_0 rfl (lv_at hl 0 rfl) ?_
  refine CTv_Vw (pc := 1) am_no_ok (As := []) (rest := []) ⟨hx, hb, hml, hown, hts⟩ (c_X1_empty l dd ) (cwV 0 hts gX1_times_X1_empty rfl rfl rfl (by decide +kernel) ⟨Nat.le_of_ble_eq_true rfl, Nat.le_of_ble_eq_true rfl⟩) hK hP hD hS hA hX hK 0 1 rfl rfl rfl rfl hl.1 rfl (Nat.le_of_ble_eq_true rfl) ⟨Nat.zero_le _, Nat.zero_le _⟩ dX1_times_1 (fun u H locs hw hP hD hS => ?_)
  try dsimp only at hw
  obtain ⟨wk1, e9⟩ : ∃ z, z = u := ⟨_, rfl⟩
  rw [← e9] at hw hP hD
  have hw1 := hw
  have hP : va_P dd vwCl (wM ad cI cL (P) ((rootN P)) (D) ((phN D)) (ix) (ho) (re) (wk1) (tu) (wa) (nx)) H := hP
  have hD : va_D A (wM ad cI cL (P) ((rootN P)) (D) ((phN D)) (ix) (ho) (re) (wk1) (tu) (wa) (nx)) := hD
  refine nv_iconst (pc := 4) (k := 0) hx hb dX1_times_4 rfl ?_
  refine lv_istore (pc := 5) (lv' := [(4, .int (nI (0))), (0, .ref (ad 0)), (1, .int (nI (h1))), (2, .ref (ad 5)), (3, .int (nI (fr)))]) hx hb dX1_times_5 hl (by decide) rfl (fun ls hl => ?_)
  have L7 : ∀ (n9_7 : Nat), ∀ (i : Nat) (w1 : Nat → Int64), phN D + 1 - i < n9_7 → (i ≤ phN D) → (∀ j, j < phN D → Lf D j w1 24 = tmV D aV bV i j) → ∀ (H : Heap) (locs : List Loc) (ls : Array Slot), va_P dd vwCl (wM ad cI cL (P) ((rootN P)) (D) ((phN D)) (ix) (ho) (re) (w1) (tu) (wa) (nx)) H → va_D A (wM ad cI cL (P) ((rootN P)) (D) ((phN D)) (ix) (ho) (re) (w1) (tu) (wa) (nx)) → va_S A s.heap H locs → lv_has ls 6 [(0, .ref (ad 0)), (1, .int (nI (h1))), (2, .ref (ad 5)), (3, .int (nI (fr))), (4, .int (nI (i)))] → W p l e ({ frames := 1, cells := 0, slots := 0, locals := 24 } : Room) s m args below meth c H locs 0 0 Q (F0 m 7 ls []) := by
    intro n9_7
    induction n9_7 with
    | zero => intro i w1 hm; exact absurd hm (Nat.not_lt_zero _)
    | succ n9_7 ih_7 =>
      intro i w1 hm_7 hi hL1 H locs ls hP hD hS hl
      refine lv_iload (pc := 7) hx hb dX1_times_7 (lv_at hl 4 rfl) ?_
      refine lv_aload_n (pc := 9) hx hb dX1_times_9 rfl (lv_at hl 0 rfl) ?_
      refine va_get (pc := 10) (D := dd) (ci := 1) (v := .int (nI ((phN D)))) (C := RX1) (T := TX1) (N := 11) hx hb hts hin hown hK hP 0 rfl rfl 3 (by decide) (hts (.fieldLink RX1 55 "TurningSumsModel" "phi" "I") (by decide +kernel)) (fun _ h9 => h9) rfl dX1_times_10 ?_
      refine nv_icmp_ge (pc := 13) (tgt := 72) hx hb (a := i) (b := (phN D)) (by omega) (by omega) dX1_times_13 (by decide) (fun h13 => ?_) (fun h13 => ?_)
      · skip
        refine lv_aload_n (pc := 72) hx hb dX1_times_72 rfl (lv_at hl 0 rfl) ?_
        refine CTv_Vw (pc := 73) am_no_ok (As := []) (rest := []) ⟨hx, hb, hml, hown, hts⟩ (c_X1_reduce l dd hD1 hre) (cwV 0 hts gX1_times_X1_reduce rfl rfl rfl (by decide +kernel) ⟨Nat.le_of_ble_eq_true rfl, Nat.le_of_ble_eq_true rfl⟩) hK hP hD hS hA hX hK 0 1 rfl rfl rfl rfl hl.1 rfl (Nat.le_of_ble_eq_true rfl) ⟨Nat.zero_le _, Nat.zero_le _⟩ dX1_times_73 (fun u H locs hw hP hD hS => ?_)
        try dsimp only at hw
        obtain ⟨wk73, e9⟩ : ∃ z, z = u := ⟨_, rfl⟩
        rw [← e9] at hw hP hD
        have hw73 := hw
        have hP : va_P dd vwCl (wM ad cI cL (P) ((rootN P)) (D) ((phN D)) (ix) (ho) (re) (wk73) (tu) (wa) (nx)) H := hP
        have hD : va_D A (wM ad cI cL (P) ((rootN P)) (D) ((phN D)) (ix) (ho) (re) (wk73) (tu) (wa) (nx)) := hD
        exact hret _ _ _ _ (wk73) (fun j z => (hw73 j z).trans (by rw [hL1 j z, show i = phN D by omega])) hP hD hS dX1_times_76
      · skip
        refine nv_iconst (pc := 16) (k := 0) hx hb dX1_times_16 rfl ?_
        refine lv_istore (pc := 17) (lv' := [(5, .int (nI (0))), (0, .ref (ad 0)), (1, .int (nI (h1))), (2, .ref (ad 5)), (3, .int (nI (fr))), (4, .int (nI (i)))]) hx hb dX1_times_17 hl (by decide) rfl (fun ls hl => ?_)
        have L19 : ∀ (n9_19 : Nat), ∀ (k : Nat) (w2 : Nat → Int64), phN D + 1 - k < n9_19 → (k ≤ phN D) → (∀ j, j < phN D → Lf D j w2 24 = tmV D aV bV i j + rmV D aV bV i k j) → ∀ (H : Heap) (locs : List Loc) (ls : Array Slot), va_P dd vwCl (wM ad cI cL (P) ((rootN P)) (D) ((phN D)) (ix) (ho) (re) (w2) (tu) (wa) (nx)) H → va_D A (wM ad cI cL (P) ((rootN P)) (D) ((phN D)) (ix) (ho) (re) (w2) (tu) (wa) (nx)) → va_S A s.heap H locs → lv_has ls 6 [(0, .ref (ad 0)), (1, .int (nI (h1))), (2, .ref (ad 5)), (3, .int (nI (fr))), (4, .int (nI (i))), (5, .int (nI (k)))] → W p l e ({ frames := 1, cells := 0, slots := 0, locals := 24 } : Room) s m args below meth c H locs 0 0 Q (F0 m 19 ls []) := by
          intro n9_19
          induction n9_19 with
          | zero => intro k w2 hm; exact absurd hm (Nat.not_lt_zero _)
          | succ n9_19 ih_19 =>
            intro k w2 hm_19 hk hL2 H locs ls hP hD hS hl
            refine lv_iload (pc := 19) hx hb dX1_times_19 (lv_at hl 5 rfl) ?_
            refine lv_aload_n (pc := 21) hx hb dX1_times_21 rfl (lv_at hl 0 rfl) ?_
            refine va_get (pc := 22) (D := dd) (ci := 1) (v := .int (nI ((phN D)))) (C := RX1) (T := TX1) (N := 11) hx hb hts hin hown hK hP 0 rfl rfl 3 (by decide) (hts (.fieldLink RX1 55 "TurningSumsModel" "phi" "I") (by decide +kernel)) (fun _ h9 => h9) rfl dX1_times_22 ?_
            refine nv_icmp_ge (pc := 25) (tgt := 66) hx hb (a := k) (b := (phN D)) (by omega) (by omega) dX1_times_25 (by decide) (fun h25 => ?_) (fun h25 => ?_)
            · skip
              refine lv_iinc (pc := 66) (v := nI ((i + 1))) (lv' := [(4, .int (nI ((i + 1)))), (0, .ref (ad 0)), (1, .int (nI (h1))), (2, .ref (ad 5)), (3, .int (nI (fr))), (5, .int (nI (k)))]) hx hb dX1_times_66 hl (k := 4) rfl (nI_inc _) (by decide) rfl (fun ls hl => ?_)
              refine lv_goto (pc := 69) (tgt := 7) hx hb dX1_times_69 (by decide) ?_
              exact ih_7 ((i + 1)) (w2) (by omega) (by omega) (fun j z => (hL2 j z).trans (by rw [show k = phN D by omega]; rfl)) _ _ _ hP hD hS (lv_sub hl [1, 2, 3, 4, 0] rfl)
            · skip
              refine lv_aload_n (pc := 28) hx hb dX1_times_28 rfl (lv_at hl 0 rfl) ?_
              refine va_get (pc := 29) (D := dd) (ci := 1) (v := .ref (ad 4)) (C := RX1) (T := TX1) (N := 11) hx hb hts hin hown hK hP 0 rfl rfl 7 (by decide) (hts (.fieldLink RX1 20 "TurningSumsModel" "work" "[J") (by decide +kernel)) (fun _ h9 => h9) rfl dX1_times_29 ?_
              refine lv_iload (pc := 32) hx hb dX1_times_32 (lv_at hl 4 rfl) ?_
              refine lv_iload (pc := 34) hx hb dX1_times_34 (lv_at hl 5 rfl) ?_
              refine nv_iadd (pc := 36) hx hb dX1_times_36 ?_
              refine lv_dup2_11 (pc := 37) hx hb dX1_times_37 rfl rfl ?_
              refine nv_lald (pc := 38) hx hb hK hP 4 1 rfl rfl (i := (i + k)) (by omega) (by decide) (v := (w2) ((i + k))) (rfl) dX1_times_38 ?_
              refine lv_aload_n (pc := 39) hx hb dX1_times_39 rfl (lv_at hl 0 rfl) ?_
              refine va_get (pc := 40) (D := dd) (ci := 1) (v := .ref (ad 2)) (C := RX1) (T := TX1) (N := 11) hx hb hts hin hown hK hP 0 rfl rfl 5 (by decide) (hts (.fieldLink RX1 13 "TurningSumsModel" "hold" "[J") (by decide +kernel)) (fun _ h9 => h9) rfl dX1_times_40 ?_
              refine nv_bipush (pc := 43) (k := 12) hx hb dX1_times_43 rfl (by decide) ?_
              refine lv_iload_n (pc := 45) hx hb dX1_times_45 rfl (lv_at hl 1 rfl) ?_
              refine nv_imul (pc := 46) hx hb dX1_times_46 ?_
              refine lv_iload (pc := 47) hx hb dX1_times_47 (lv_at hl 4 rfl) ?_
              refine nv_iadd (pc := 49) hx hb dX1_times_49 ?_
              refine nv_lald (pc := 50) hx hb hK hP 2 1 rfl rfl (i := ((12 * h1) + i)) (by omega) (by decide) (v := (aV i)) (haa _ (by omega)) dX1_times_50 ?_
              refine lv_aload_n (pc := 51) hx hb dX1_times_51 rfl (lv_at hl 2 rfl) ?_
              refine lv_iload_n (pc := 52) hx hb dX1_times_52 rfl (lv_at hl 3 rfl) ?_
              refine lv_iload (pc := 53) hx hb dX1_times_53 (lv_at hl 5 rfl) ?_
              refine nv_iadd (pc := 55) hx hb dX1_times_55 ?_
              refine nv_lald (pc := 56) hx hb hK hP 5 1 rfl rfl (i := (fr + k)) (by omega) (by decide) (v := (bV k)) (hbb _ (by omega)) dX1_times_56 ?_
              refine lv_lmul (pc := 57) hx hb dX1_times_57 ?_
              refine lv_ladd (pc := 58) hx hb dX1_times_58 ?_
              refine nv_last (pc := 59) hx hb hK hP hD hS 4 1 rfl rfl (by omega) (by decide) (ws' := (wM ad cI cL (P) ((rootN P)) (D) ((phN D)) (ix) (ho) (re) ((vp_updL (w2) ((i + k)) (((w2) ((i + k)) + ((aV i) * (bV k)))))) (tu) (wa) (nx))) rfl dX1_times_59 (fun H locs hP hD hS => ?_)
              refine lv_iinc (pc := 60) (v := nI ((k + 1))) (lv' := [(5, .int (nI ((k + 1)))), (0, .ref (ad 0)), (1, .int (nI (h1))), (2, .ref (ad 5)), (3, .int (nI (fr))), (4, .int (nI (i)))]) hx hb dX1_times_60 hl (k := 5) rfl (nI_inc _) (by decide) rfl (fun ls hl => ?_)
              refine lv_goto (pc := 63) (tgt := 19) hx hb dX1_times_63 (by decide) ?_
              exact ih_19 ((k + 1)) ((vp_updL (w2) ((i + k)) (((w2) ((i + k)) + ((aV i) * (bV k)))))) (by omega) (by omega) (fun j z => by rw [Lf_add (by omega), hL2 j z, Int64.add_assoc]; rfl) _ _ _ hP hD hS (lv_sub hl [1, 2, 3, 4, 5, 0] rfl)
        exact L19 _ (0) (w1) (Nat.lt_succ_self _) (by omega) (fun j z => by rw [hL1 j z]; exact (Int64.add_zero _).symm) _ _ _ hP hD hS (lv_sub hl [1, 2, 3, 4, 5, 0] rfl)
  exact L7 _ (0) (wk1) (Nat.lt_succ_self _) (by omega) (fun j z => Lf_zero (fun m a => hw1 m a)) _ _ _ hP hD hS (lv_sub hl [1, 2, 3, 4, 0] rfl)
set_option maxHeartbeats 4000000 in
set_option maxRecDepth 100000 in
theorem c_X1_join (l : Launch) (dd : va_G) {ad : Nat → Nat} {cI cL cQ : ClassId} {hv : Nat → Nat → Int32} {P : Nat} {D : Nat} {ix : Nat → Int32} {ho : Nat → Int64} {re : Nat → Int32} {wk : Nat → Int64} {tu : Nat → Int64} {wa : Nat → Int64} {nx : Nat → Int64} {h : Int} {way : Int} {o1 : Int} {o2 : Int} (hhr : -2147483648 ≤ h ∧ h < 2147483648) (hwr : -2147483648 ≤ way ∧ way < 2147483648) (h1r : -2147483648 ≤ o1 ∧ o1 < 2147483648) (h2r : -2147483648 ≤ o2 ∧ o2 < 2147483648) (hP1 : okP P) (hD1 : 1 ≤ D ∧ D ≤ 12) (hre : ∀ i, i < 13 → re i = zI (relM D i)) (hL : okL D hv ho) : CTi l yX1_join wsX1_join ({ frames := 2, cells := 0, slots := 0, locals := 49 } : Room) dd (tysA cI cL cQ) (am_no) [.ref (ad 0), .int (zI (h)), .int (zI (way)), .int (zI (o1)), .int (zI (o2))] (wM ad cI cL (P) ((rootN P)) (D) ((phN D)) (ix) (ho) (re) (wk) (tu) (wa) (nx)) (fun (r : Int32) (u : (Nat → Int64) × (Nat → Int64)) => (¬ ((0 ≤ h ∧ h < 6) ∧ (0 ≤ o1 ∧ o1 < 6) ∧ (0 ≤ o2 ∧ o2 < 6)) ∧ r = zI (-2) ∧ u.2 = ho) ∨ (((0 ≤ h ∧ h < 6) ∧ (0 ≤ o1 ∧ o1 < 6) ∧ (0 ≤ o2 ∧ o2 < 6)) ∧ ¬ (0 ≤ way ∧ way ≤ 2) ∧ r = zI (-3) ∧ u.2 = ho) ∨ (((0 ≤ h ∧ h < 6) ∧ (0 ≤ o1 ∧ o1 < 6) ∧ (0 ≤ o2 ∧ o2 < 6)) ∧ (0 ≤ way ∧ way ≤ 2) ∧ ((inR D ((fun j => if way = 2 then mlV D (hlV hv o1.toNat) (hlV hv o2.toNat) 1 (phN D) j else adV way (hlV hv o1.toNat) (hlV hv o2.toNat) j)) ∧ r = nI 1 ∧ okL D (stR hv h.toNat ((fun j => if way = 2 then mlV D (hlV hv o1.toNat) (hlV hv o2.toNat) 1 (phN D) j else adV way (hlV hv o1.toNat) (hlV hv o2.toNat) j))) u.2) ∨ (¬ inR D ((fun j => if way = 2 then mlV D (hlV hv o1.toNat) (hlV hv o2.toNat) 1 (phN D) j else adV way (hlV hv o1.toNat) (hlV hv o2.toNat) j)) ∧ r = zI (-5) ∧ u.2 = ho)))) (fun (u : (Nat → Int64) × (Nat → Int64)) => (wM ad cI cL (P) ((rootN P)) (D) ((phN D)) (ix) (u.2) (re) (u.1) (tu) (wa) (nx))) := by
  refine CTi_of (cc := cX1_join) (maxL := 6) (by decide +kernel) rfl (Nat.le_of_ble_eq_true rfl) ?_
  intro p e s m args below meth c A Q ls H locs hx hb hts hown hml hP hK hD hS hA hX hl hret
  have hin : ∀ w ∈ wsX10, w ∈ wsX1_join := by decide +kernel
  have hl : lv_has ls 6 [(0, .ref (ad 0)), (1, .int (zI (h))), (2, .int (zI (way))), (3, .int (zI (o1))), (4, .int (zI (o2)))] := hl
  obtain ⟨p1, p2, p3, p4, p5, p6⟩ := id hP1
  have hph := ph_rng D (by omega) hD1.1
  refine lv_iload_n (pc := 0) hx hb dX1_join_0 rfl (lv_at hl 1 rfl) ?_
  refine CTi_S0 (pc := 1) am_no_ok (As := [.int (zI (h))]) (rest := []) ⟨hx, hb, hml, hown, hts⟩ (c_X1_isHold l dd (by omega)) (va_cwS 1 hts gX1_join_X1_isHold rfl rfl rfl (by decide +kernel) ⟨Nat.le_of_ble_eq_true rfl, Nat.le_of_ble_eq_true rfl⟩) hK hP hD hS hA hX rfl hl.1 rfl (Nat.le_of_ble_eq_true rfl) ⟨Nat.zero_le _, Nat.zero_le _⟩ dX1_join_1 (fun r u H locs hw hP hD hS => ?_)
  try dsimp only at hw
  subst hw
  refine bv_if_eq (pc := 4) (tgt := 22) hx hb dX1_join_4 (by decide) (fun h4 => ?_) (fun h4 => ?_)
  · skip
    refine lv_bipush (pc := 22) (v := zI (-2)) hx hb dX1_join_22 (by decide) ?_
    exact hret _ _ _ _ _ (wk, ho) (Or.inl ⟨by omega, rfl, rfl⟩) hP hD hS dX1_join_24
  · skip
    refine lv_iload_n (pc := 7) hx hb dX1_join_7 rfl (lv_at hl 3 rfl) ?_
    refine CTi_S0 (pc := 8) am_no_ok (As := [.int (zI (o1))]) (rest := []) ⟨hx, hb, hml, hown, hts⟩ (c_X1_isHold l dd (by omega)) (va_cwS 1 hts gX1_join_X1_isHold rfl rfl rfl (by decide +kernel) ⟨Nat.le_of_ble_eq_true rfl, Nat.le_of_ble_eq_true rfl⟩) hK hP hD hS hA hX rfl hl.1 rfl (Nat.le_of_ble_eq_true rfl) ⟨Nat.zero_le _, Nat.zero_le _⟩ dX1_join_8 (fun r u H locs hw hP hD hS => ?_)
    try dsimp only at hw
    subst hw
    refine bv_if_eq (pc := 11) (tgt := 22) hx hb dX1_join_11 (by decide) (fun h11 => ?_) (fun h11 => ?_)
    · skip
      refine lv_bipush (pc := 22) (v := zI (-2)) hx hb dX1_join_22 (by decide) ?_
      exact hret _ _ _ _ _ (wk, ho) (Or.inl ⟨by omega, rfl, rfl⟩) hP hD hS dX1_join_24
    · skip
      refine lv_iload (pc := 14) hx hb dX1_join_14 (lv_at hl 4 rfl) ?_
      refine CTi_S0 (pc := 16) am_no_ok (As := [.int (zI (o2))]) (rest := []) ⟨hx, hb, hml, hown, hts⟩ (c_X1_isHold l dd (by omega)) (va_cwS 1 hts gX1_join_X1_isHold rfl rfl rfl (by decide +kernel) ⟨Nat.le_of_ble_eq_true rfl, Nat.le_of_ble_eq_true rfl⟩) hK hP hD hS hA hX rfl hl.1 rfl (Nat.le_of_ble_eq_true rfl) ⟨Nat.zero_le _, Nat.zero_le _⟩ dX1_join_16 (fun r u H locs hw hP hD hS => ?_)
      try dsimp only at hw
      subst hw
      refine bv_if_ne (pc := 19) (tgt := 25) hx hb dX1_join_19 (by decide) (fun h19 => ?_) (fun h19 => ?_)
      · skip
        refine lv_iload_n (pc := 25) hx hb dX1_join_25 rfl (lv_at hl 2 rfl) ?_
        refine lv_i2l (pc := 26) (v := zL (way)) hx hb dX1_join_26 (zL_zI (by omega) (by omega)) ?_
        refine lv_lconst (pc := 27) (v := zL 0) hx hb dX1_join_27 (by decide) ?_
        refine tq_ldc2 (pc := 28) (k := (2)) hx hb hown (hts (.constantLong RX1 96 (2)) (by decide +kernel)) dX1_join_28 ?_
        refine CTi_S0 (pc := 31) am_no_ok (As := [.long (zL (way)), .long (zL 0), .long (zL (2))]) (rest := []) ⟨hx, hb, hml, hown, hts⟩ (c_X1_in l dd ) (va_cwS 3 hts gX1_join_X1_in rfl rfl rfl (by decide +kernel) ⟨Nat.le_of_ble_eq_true rfl, Nat.le_of_ble_eq_true rfl⟩) hK hP hD hS hA hX rfl hl.1 rfl (Nat.le_of_ble_eq_true rfl) ⟨Nat.zero_le _, Nat.zero_le _⟩ dX1_join_31 (fun r u H locs hw hP hD hS => ?_)
        try dsimp only at hw
        subst hw
        refine bv_if_ne (pc := 34) (tgt := 40) hx hb dX1_join_34 (by decide) (fun h34 => ?_) (fun h34 => ?_)
        · skip
          rw [zL_le (by omega) (by omega), zL_le (by omega) (by omega)] at h34
          refine lv_iload_n (pc := 40) hx hb dX1_join_40 rfl (lv_at hl 2 rfl) ?_
          refine nv_iconst (pc := 41) (k := 2) hx hb dX1_join_41 rfl ?_
          refine zv_2 (pc := 42) (a := ((2 : Nat) : Int)) (b := way) ((nI_zI _)) (rfl) ?_
          refine zv_icmp_ne (pc := 42) (tgt := 62) hx hb (by omega) (by omega) dX1_join_42 (by decide) (fun h42 => ?_) (fun h42 => ?_)
          · skip
            refine lv_aload_n (pc := 62) hx hb dX1_join_62 rfl (lv_at hl 0 rfl) ?_
            refine CTv_Vw (pc := 63) am_no_ok (As := []) (rest := []) ⟨hx, hb, hml, hown, hts⟩ (c_X1_empty l dd ) (cwV 0 hts gX1_join_X1_empty rfl rfl rfl (by decide +kernel) ⟨Nat.le_of_ble_eq_true rfl, Nat.le_of_ble_eq_true rfl⟩) hK hP hD hS hA hX hK 0 1 rfl rfl rfl rfl hl.1 rfl (Nat.le_of_ble_eq_true rfl) ⟨Nat.zero_le _, Nat.zero_le _⟩ dX1_join_63 (fun u H locs hw hP hD hS => ?_)
            try dsimp only at hw
            obtain ⟨wk63, e9⟩ : ∃ z, z = u := ⟨_, rfl⟩
            rw [← e9] at hw hP hD
            have hw63 := hw
            have hP : va_P dd vwCl (wM ad cI cL (P) ((rootN P)) (D) ((phN D)) (ix) (ho) (re) (wk63) (tu) (wa) (nx)) H := hP
            have hD : va_D A (wM ad cI cL (P) ((rootN P)) (D) ((phN D)) (ix) (ho) (re) (wk63) (tu) (wa) (nx)) := hD
            refine nv_iconst (pc := 66) (k := 0) hx hb dX1_join_66 rfl ?_
            refine lv_istore (pc := 67) (lv' := [(5, .int (nI (0))), (0, .ref (ad 0)), (1, .int (zI (h))), (2, .int (zI (way))), (3, .int (zI (o1))), (4, .int (zI (o2)))]) hx hb dX1_join_67 hl (by decide) rfl (fun ls hl => ?_)
            have L69 : ∀ (n9_69 : Nat), ∀ (i : Nat) (w2 : Nat → Int64), phN D + 1 - i < n9_69 → (i ≤ phN D) → (∀ m, m < i → w2 m = adV way (hlV hv o1.toNat) (hlV hv o2.toNat) m) → ∀ (H : Heap) (locs : List Loc) (ls : Array Slot), va_P dd vwCl (wM ad cI cL (P) ((rootN P)) (D) ((phN D)) (ix) (ho) (re) (w2) (tu) (wa) (nx)) H → va_D A (wM ad cI cL (P) ((rootN P)) (D) ((phN D)) (ix) (ho) (re) (w2) (tu) (wa) (nx)) → va_S A s.heap H locs → lv_has ls 6 [(0, .ref (ad 0)), (1, .int (zI (h))), (2, .int (zI (way))), (3, .int (zI (o1))), (4, .int (zI (o2))), (5, .int (nI (i)))] → W p l e ({ frames := 2, cells := 0, slots := 0, locals := 49 } : Room) s m args below meth c H locs 0 0 Q (F0 m 69 ls []) := by
              intro n9_69
              induction n9_69 with
              | zero => intro i w2 hm; exact absurd hm (Nat.not_lt_zero _)
              | succ n9_69 ih_69 =>
                intro i w2 hm_69 hi hw2 H locs ls hP hD hS hl
                refine lv_iload (pc := 69) hx hb dX1_join_69 (lv_at hl 5 rfl) ?_
                refine lv_aload_n (pc := 71) hx hb dX1_join_71 rfl (lv_at hl 0 rfl) ?_
                refine va_get (pc := 72) (D := dd) (ci := 1) (v := .int (nI ((phN D)))) (C := RX1) (T := TX1) (N := 11) hx hb hts hin hown hK hP 0 rfl rfl 3 (by decide) (hts (.fieldLink RX1 55 "TurningSumsModel" "phi" "I") (by decide +kernel)) (fun _ h9 => h9) rfl dX1_join_72 ?_
                refine nv_icmp_ge (pc := 75) (tgt := 150) hx hb (a := i) (b := (phN D)) (by omega) (by omega) dX1_join_75 (by decide) (fun h75 => ?_) (fun h75 => ?_)
                · skip
                  refine lv_aload_n (pc := 150) hx hb dX1_join_150 rfl (lv_at hl 0 rfl) ?_
                  refine lv_iload_n (pc := 151) hx hb dX1_join_151 rfl (lv_at hl 1 rfl) ?_
                  refine tq_i (pc := 152) (y := nI ((h).toNat)) (zI_toNat (by omega)) ?_
                  refine CTi_Vw (pc := 152) am_no_ok (As := [.int (nI ((h).toNat))]) (rest := []) ⟨hx, hb, hml, hown, hts⟩ (c_X1_lay l dd (fun j => if way = 2 then mlV D (hlV hv o1.toNat) (hlV hv o2.toNat) 1 (phN D) j else adV way (hlV hv o1.toNat) (hlV hv o2.toNat) j) hD1 (by omega) (fun j z => (hw2 j (by omega)).trans (if_neg (by omega)).symm) hL) (cwV 1 hts gX1_join_X1_lay rfl rfl rfl (by decide +kernel) ⟨Nat.le_of_ble_eq_true rfl, Nat.le_of_ble_eq_true rfl⟩) hK hP hD hS hA hX hK 0 1 rfl rfl rfl rfl hl.1 rfl (Nat.le_of_ble_eq_true rfl) ⟨Nat.zero_le _, Nat.zero_le _⟩ dX1_join_152 (fun r u H locs hw hP hD hS => ?_)
                  try dsimp only at hw
                  obtain ⟨ho152, e9⟩ : ∃ z, z = u := ⟨_, rfl⟩
                  rw [← e9] at hw hP hD
                  have hw152 := hw
                  have hP : va_P dd vwCl (wM ad cI cL (P) ((rootN P)) (D) ((phN D)) (ix) (ho152) (re) (w2) (tu) (wa) (nx)) H := hP
                  have hD : va_D A (wM ad cI cL (P) ((rootN P)) (D) ((phN D)) (ix) (ho152) (re) (w2) (tu) (wa) (nx)) := hD
                  exact hret _ _ _ _ _ (w2, ho152) (Or.inr (Or.inr ⟨by omega, by omega, hw152⟩)) hP hD hS dX1_join_155
                · skip
                  refine lv_aload_n (pc := 78) hx hb dX1_join_78 rfl (lv_at hl 0 rfl) ?_
                  refine va_get (pc := 79) (D := dd) (ci := 1) (v := .ref (ad 4)) (C := RX1) (T := TX1) (N := 11) hx hb hts hin hown hK hP 0 rfl rfl 7 (by decide) (hts (.fieldLink RX1 20 "TurningSumsModel" "work" "[J") (by decide +kernel)) (fun _ h9 => h9) rfl dX1_join_79 ?_
                  refine lv_iload (pc := 82) hx hb dX1_join_82 (lv_at hl 5 rfl) ?_
                  refine lv_iload_n (pc := 84) hx hb dX1_join_84 rfl (lv_at hl 2 rfl) ?_
                  refine zv_if_ne (pc := 85) (tgt := 117) hx hb (by omega) dX1_join_85 (by decide) (fun h85 => ?_) (fun h85 => ?_)
                  · skip
                    refine lv_aload_n (pc := 117) hx hb dX1_join_117 rfl (lv_at hl 0 rfl) ?_
                    refine va_get (pc := 118) (D := dd) (ci := 1) (v := .ref (ad 2)) (C := RX1) (T := TX1) (N := 11) hx hb hts hin hown hK hP 0 rfl rfl 5 (by decide) (hts (.fieldLink RX1 13 "TurningSumsModel" "hold" "[J") (by decide +kernel)) (fun _ h9 => h9) rfl dX1_join_118 ?_
                    refine nv_bipush (pc := 121) (k := 12) hx hb dX1_join_121 rfl (by decide) ?_
                    refine lv_iload_n (pc := 123) hx hb dX1_join_123 rfl (lv_at hl 3 rfl) ?_
                    refine tq_i (y := nI (o1.toNat)) (zI_toNat (by omega)) ?_
                    refine nv_imul (pc := 124) hx hb dX1_join_124 ?_
                    refine lv_iload (pc := 125) hx hb dX1_join_125 (lv_at hl 5 rfl) ?_
                    refine nv_iadd (pc := 127) hx hb dX1_join_127 ?_
                    refine nv_lald (pc := 128) hx hb hK hP 2 1 rfl rfl (i := ((12 * o1.toNat) + i)) (by omega) (by decide) (v := (hlV hv o1.toNat i)) (okL_row hD1 hL (by omega) i (by omega)) dX1_join_128 ?_
                    refine lv_aload_n (pc := 129) hx hb dX1_join_129 rfl (lv_at hl 0 rfl) ?_
                    refine va_get (pc := 130) (D := dd) (ci := 1) (v := .ref (ad 2)) (C := RX1) (T := TX1) (N := 11) hx hb hts hin hown hK hP 0 rfl rfl 5 (by decide) (hts (.fieldLink RX1 13 "TurningSumsModel" "hold" "[J") (by decide +kernel)) (fun _ h9 => h9) rfl dX1_join_130 ?_
                    refine nv_bipush (pc := 133) (k := 12) hx hb dX1_join_133 rfl (by decide) ?_
                    refine lv_iload (pc := 135) hx hb dX1_join_135 (lv_at hl 4 rfl) ?_
                    refine tq_i (y := nI (o2.toNat)) (zI_toNat (by omega)) ?_
                    refine nv_imul (pc := 137) hx hb dX1_join_137 ?_
                    refine lv_iload (pc := 138) hx hb dX1_join_138 (lv_at hl 5 rfl) ?_
                    refine nv_iadd (pc := 140) hx hb dX1_join_140 ?_
                    refine nv_lald (pc := 141) hx hb hK hP 2 1 rfl rfl (i := ((12 * o2.toNat) + i)) (by omega) (by decide) (v := (hlV hv o2.toNat i)) (okL_row hD1 hL (by omega) i (by omega)) dX1_join_141 ?_
                    refine lv_lsub (pc := 142) hx hb dX1_join_142 ?_
                    refine nv_last (pc := 143) hx hb hK hP hD hS 4 1 rfl rfl (by omega) (by decide) (ws' := (wM ad cI cL (P) ((rootN P)) (D) ((phN D)) (ix) (ho) (re) ((vp_updL (w2) (i) (((hlV hv o1.toNat i) - (hlV hv o2.toNat i))))) (tu) (wa) (nx))) rfl dX1_join_143 (fun H locs hP hD hS => ?_)
                    refine lv_iinc (pc := 144) (v := nI ((i + 1))) (lv' := [(5, .int (nI ((i + 1)))), (0, .ref (ad 0)), (1, .int (zI (h))), (2, .int (zI (way))), (3, .int (zI (o1))), (4, .int (zI (o2)))]) hx hb dX1_join_144 hl (k := 5) rfl (nI_inc _) (by decide) rfl (fun ls hl => ?_)
                    refine lv_goto (pc := 147) (tgt := 69) hx hb dX1_join_147 (by decide) ?_
                    exact ih_69 ((i + 1)) ((vp_updL (w2) (i) (((hlV hv o1.toNat i) - (hlV hv o2.toNat i))))) (by omega) (by omega) (ad_m (if_neg h85).symm hw2) _ _ _ hP hD hS (lv_sub hl [1, 2, 3, 4, 5, 0] rfl)
                  · skip
                    refine lv_aload_n (pc := 88) hx hb dX1_join_88 rfl (lv_at hl 0 rfl) ?_
                    refine va_get (pc := 89) (D := dd) (ci := 1) (v := .ref (ad 2)) (C := RX1) (T := TX1) (N := 11) hx hb hts hin hown hK hP 0 rfl rfl 5 (by decide) (hts (.fieldLink RX1 13 "TurningSumsModel" "hold" "[J") (by decide +kernel)) (fun _ h9 => h9) rfl dX1_join_89 ?_
                    refine nv_bipush (pc := 92) (k := 12) hx hb dX1_join_92 rfl (by decide) ?_
                    refine lv_iload_n (pc := 94) hx hb dX1_join_94 rfl (lv_at hl 3 rfl) ?_
                    refine tq_i (y := nI (o1.toNat)) (zI_toNat (by omega)) ?_
                    refine nv_imul (pc := 95) hx hb dX1_join_95 ?_
                    refine lv_iload (pc := 96) hx hb dX1_join_96 (lv_at hl 5 rfl) ?_
                    refine nv_iadd (pc := 98) hx hb dX1_join_98 ?_
                    refine nv_lald (pc := 99) hx hb hK hP 2 1 rfl rfl (i := ((12 * o1.toNat) + i)) (by omega) (by decide) (v := (hlV hv o1.toNat i)) (okL_row hD1 hL (by omega) i (by omega)) dX1_join_99 ?_
                    refine lv_aload_n (pc := 100) hx hb dX1_join_100 rfl (lv_at hl 0 rfl) ?_
                    refine va_get (pc := 101) (D := dd) (ci := 1) (v := .ref (ad 2)) (C := RX1) (T := TX1) (N := 11) hx hb hts hin hown hK hP 0 rfl rfl 5 (by decide) (hts (.fieldLink RX1 13 "TurningSumsModel" "hold" "[J") (by decide +kernel)) (fun _ h9 => h9) rfl dX1_join_101 ?_
                    refine nv_bipush (pc := 104) (k := 12) hx hb dX1_join_104 rfl (by decide) ?_
                    refine lv_iload (pc := 106) hx hb dX1_join_106 (lv_at hl 4 rfl) ?_
                    refine tq_i (y := nI (o2.toNat)) (zI_toNat (by omega)) ?_
                    refine nv_imul (pc := 108) hx hb dX1_join_108 ?_
                    refine lv_iload (pc := 109) hx hb dX1_join_109 (lv_at hl 5 rfl) ?_
                    refine nv_iadd (pc := 111) hx hb dX1_join_111 ?_
                    refine nv_lald (pc := 112) hx hb hK hP 2 1 rfl rfl (i := ((12 * o2.toNat) + i)) (by omega) (by decide) (v := (hlV hv o2.toNat i)) (okL_row hD1 hL (by omega) i (by omega)) dX1_join_112 ?_
                    refine lv_ladd (pc := 113) hx hb dX1_join_113 ?_
                    refine lv_goto (pc := 114) (tgt := 143) hx hb dX1_join_114 (by decide) ?_
                    refine nv_last (pc := 143) hx hb hK hP hD hS 4 1 rfl rfl (by omega) (by decide) (ws' := (wM ad cI cL (P) ((rootN P)) (D) ((phN D)) (ix) (ho) (re) ((vp_updL (w2) (i) (((hlV hv o1.toNat i) + (hlV hv o2.toNat i))))) (tu) (wa) (nx))) rfl dX1_join_143 (fun H locs hP hD hS => ?_)
                    refine lv_iinc (pc := 144) (v := nI ((i + 1))) (lv' := [(5, .int (nI ((i + 1)))), (0, .ref (ad 0)), (1, .int (zI (h))), (2, .int (zI (way))), (3, .int (zI (o1))), (4, .int (zI (o2)))]) hx hb dX1_join_144 hl (k := 5) rfl (nI_inc _) (by decide) rfl (fun ls hl => ?_)
                    refine lv_goto (pc := 147) (tgt := 69) hx hb dX1_join_147 (by decide) ?_
                    exact ih_69 ((i + 1)) ((vp_updL (w2) (i) (((hlV hv o1.toNat i) + (hlV hv o2.toNat i))))) (by omega) (by omega) (ad_m (if_pos h85).symm hw2) _ _ _ hP hD hS (lv_sub hl [1, 2, 3, 4, 5, 0] rfl)
            exact L69 _ (0) (wk63) (Nat.lt_succ_self _) (by omega) (fun m z => by omega) _ _ _ hP hD hS (lv_sub hl [1, 2, 3, 4, 5, 0] rfl)
          · skip
            refine lv_aload_n (pc := 45) hx hb dX1_join_45 rfl (lv_at hl 0 rfl) ?_
            refine lv_iload_n (pc := 46) hx hb dX1_join_46 rfl (lv_at hl 3 rfl) ?_
            refine lv_aload_n (pc := 47) hx hb dX1_join_47 rfl (lv_at hl 0 rfl) ?_
            refine va_get (pc := 48) (D := dd) (ci := 1) (v := .ref (ad 2)) (C := RX1) (T := TX1) (N := 11) hx hb hts hin hown hK hP 0 rfl rfl 5 (by decide) (hts (.fieldLink RX1 13 "TurningSumsModel" "hold" "[J") (by decide +kernel)) (fun _ h9 => h9) rfl dX1_join_48 ?_
            refine nv_bipush (pc := 51) (k := 12) hx hb dX1_join_51 rfl (by decide) ?_
            refine lv_iload (pc := 53) hx hb dX1_join_53 (lv_at hl 4 rfl) ?_
            refine tq_i (y := nI (o2.toNat)) (zI_toNat (by omega)) ?_
            refine nv_imul (pc := 55) hx hb dX1_join_55 ?_
            refine tq_i3 (pc := 56) (y := nI ((o1).toNat)) (zI_toNat (by omega)) ?_
            refine CTv_Vw (pc := 56) am_no_ok (As := [.int (nI ((o1).toNat)), .ref (ad 2), .int (nI ((12 * o2.toNat)))]) (rest := []) ⟨hx, hb, hml, hown, hts⟩ (c_X1_times_h l dd (hlV hv o1.toNat) (hlV hv o2.toNat) hD1 hre (by omega) (by omega) (okL_row hD1 hL (by omega)) (okL_row hD1 hL (by omega))) (cwV 3 hts gX1_join_X1_times rfl rfl rfl (by decide +kernel) ⟨Nat.le_of_ble_eq_true rfl, Nat.le_of_ble_eq_true rfl⟩) hK hP hD hS hA hX hK 0 1 rfl rfl rfl rfl hl.1 rfl (Nat.le_of_ble_eq_true rfl) ⟨Nat.zero_le _, Nat.zero_le _⟩ dX1_join_56 (fun u H locs hw hP hD hS => ?_)
            try dsimp only at hw
            obtain ⟨wk56, e9⟩ : ∃ z, z = u := ⟨_, rfl⟩
            rw [← e9] at hw hP hD
            have hw56 := hw
            have hP : va_P dd vwCl (wM ad cI cL (P) ((rootN P)) (D) ((phN D)) (ix) (ho) (re) (wk56) (tu) (wa) (nx)) H := hP
            have hD : va_D A (wM ad cI cL (P) ((rootN P)) (D) ((phN D)) (ix) (ho) (re) (wk56) (tu) (wa) (nx)) := hD
            refine lv_goto (pc := 59) (tgt := 150) hx hb dX1_join_59 (by decide) ?_
            refine lv_aload_n (pc := 150) hx hb dX1_join_150 rfl (lv_at hl 0 rfl) ?_
            refine lv_iload_n (pc := 151) hx hb dX1_join_151 rfl (lv_at hl 1 rfl) ?_
            refine tq_i (pc := 152) (y := nI ((h).toNat)) (zI_toNat (by omega)) ?_
            refine CTi_Vw (pc := 152) am_no_ok (As := [.int (nI ((h).toNat))]) (rest := []) ⟨hx, hb, hml, hown, hts⟩ (c_X1_lay l dd (fun j => if way = 2 then mlV D (hlV hv o1.toNat) (hlV hv o2.toNat) 1 (phN D) j else adV way (hlV hv o1.toNat) (hlV hv o2.toNat) j) hD1 (by omega) (fun j z => ((hw56 j z).trans (ml_tm hD1 z)).trans (if_pos (by omega)).symm) hL) (cwV 1 hts gX1_join_X1_lay rfl rfl rfl (by decide +kernel) ⟨Nat.le_of_ble_eq_true rfl, Nat.le_of_ble_eq_true rfl⟩) hK hP hD hS hA hX hK 0 1 rfl rfl rfl rfl hl.1 rfl (Nat.le_of_ble_eq_true rfl) ⟨Nat.zero_le _, Nat.zero_le _⟩ dX1_join_152 (fun r u H locs hw hP hD hS => ?_)
            try dsimp only at hw
            obtain ⟨ho152, e9⟩ : ∃ z, z = u := ⟨_, rfl⟩
            rw [← e9] at hw hP hD
            have hw152 := hw
            have hP : va_P dd vwCl (wM ad cI cL (P) ((rootN P)) (D) ((phN D)) (ix) (ho152) (re) (wk56) (tu) (wa) (nx)) H := hP
            have hD : va_D A (wM ad cI cL (P) ((rootN P)) (D) ((phN D)) (ix) (ho152) (re) (wk56) (tu) (wa) (nx)) := hD
            exact hret _ _ _ _ _ (wk56, ho152) (Or.inr (Or.inr ⟨by omega, by omega, hw152⟩)) hP hD hS dX1_join_155
        · skip
          rw [zL_le (by omega) (by omega), zL_le (by omega) (by omega)] at h34
          refine lv_bipush (pc := 37) (v := zI (-3)) hx hb dX1_join_37 (by decide) ?_
          exact hret _ _ _ _ _ (wk, ho) (Or.inr (Or.inl ⟨by omega, by omega, rfl, rfl⟩)) hP hD hS dX1_join_39
      · skip
        refine lv_bipush (pc := 22) (v := zI (-2)) hx hb dX1_join_22 (by decide) ?_
        exact hret _ _ _ _ _ (wk, ho) (Or.inl ⟨by omega, rfl, rfl⟩) hP hD hS dX1_join_24
set_option maxHeartbeats 4000000 in
set_option maxRecDepth 100000 in
theorem c_X1_turnOver (l : Launch) (dd : va_G) {ad : Nat → Nat} {cI cL cQ : ClassId} (aV : Nat → Int64) {P : Nat} {D : Nat} {ix : Nat → Int32} {ho : Nat → Int64} {re : Nat → Int32} {wk : Nat → Int64} {tu : Nat → Int64} {wa : Nat → Int64} {nx : Nat → Int64} {h1 : Nat} {t : Int} (htr : -2147483648 ≤ t ∧ t < 2147483648) (hD1 : 1 ≤ D ∧ D ≤ 12) (hre : ∀ i, i < 13 → re i = zI (relM D i)) (hh1 : h1 < 6) (haa : ∀ i, i < phN D → ho (12 * h1 + i) = aV i) : CTv l yX1_turnOver wsX1_turnOver ({ frames := 1, cells := 0, slots := 0, locals := 24 } : Room) dd (tysA cI cL cQ) (am_no) [.ref (ad 0), .int (nI (h1)), .int (zI (t))] (wM ad cI cL (P) ((rootN P)) (D) ((phN D)) (ix) (ho) (re) (wk) (tu) (wa) (nx)) (fun (u : Nat → Int64) => ∀ j, j < phN D → u j = tnV D aV t (phN D) j) (fun (u : Nat → Int64) => (wM ad cI cL (P) ((rootN P)) (D) ((phN D)) (ix) (ho) (re) (u) (tu) (wa) (nx))) := by
  refine CTv_of (cc := cX1_turnOver) (maxL := 4) (by decide +kernel) rfl (Nat.le_of_ble_eq_true rfl) ?_
  intro p e s m args below meth c A Q ls H locs hx hb hts hown hml hP hK hD hS hA hX hl hret
  have hin : ∀ w ∈ wsX10, w ∈ wsX1_turnOver := by decide +kernel
  have hl : lv_has ls 4 [(0, .ref (ad 0)), (1, .int (nI (h1))), (2, .int (zI (t)))] := hl
  have hph := ph_rng D (by omega) hD1.1
  refine lv_aload_n (pc := 0) hx hb dX1_turnOver_0 rfl (lv_at hl 0 rfl) ?_
  refine CTv_Vw (pc := 1) am_no_ok (As := []) (rest := []) ⟨hx, hb, hml, hown, hts⟩ (c_X1_empty l dd ) (cwV 0 hts gX1_turnOver_X1_empty rfl rfl rfl (by decide +kernel) ⟨Nat.le_of_ble_eq_true rfl, Nat.le_of_ble_eq_true rfl⟩) hK hP hD hS hA hX hK 0 1 rfl rfl rfl rfl hl.1 rfl (Nat.le_of_ble_eq_true rfl) ⟨Nat.zero_le _, Nat.zero_le _⟩ dX1_turnOver_1 (fun u H locs hw hP hD hS => ?_)
  try dsimp only at hw
  obtain ⟨wk1, e9⟩ : ∃ z, z = u := ⟨_, rfl⟩
  rw [← e9] at hw hP hD
  have hw1 := hw
  have hP : va_P dd vwCl (wM ad cI cL (P) ((rootN P)) (D) ((phN D)) (ix) (ho) (re) (wk1) (tu) (wa) (nx)) H := hP
  have hD : va_D A (wM ad cI cL (P) ((rootN P)) (D) ((phN D)) (ix) (ho) (re) (wk1) (tu) (wa) (nx)) := hD
  refine nv_iconst (pc := 4) (k := 0) hx hb dX1_turnOver_4 rfl ?_
  refine lv_istore_n (pc := 5) (lv' := [(3, .int (nI (0))), (0, .ref (ad 0)), (1, .int (nI (h1))), (2, .int (zI (t)))]) hx hb dX1_turnOver_5 rfl hl (by decide) rfl (fun ls hl => ?_)
  have L6 : ∀ (n9_6 : Nat), ∀ (i : Nat) (w2 : Nat → Int64), phN D + 1 - i < n9_6 → (i ≤ phN D) → (∀ j, j < phN D → Lf D j w2 24 = tnV D aV t i j) → ∀ (H : Heap) (locs : List Loc) (ls : Array Slot), va_P dd vwCl (wM ad cI cL (P) ((rootN P)) (D) ((phN D)) (ix) (ho) (re) (w2) (tu) (wa) (nx)) H → va_D A (wM ad cI cL (P) ((rootN P)) (D) ((phN D)) (ix) (ho) (re) (w2) (tu) (wa) (nx)) → va_S A s.heap H locs → lv_has ls 4 [(0, .ref (ad 0)), (1, .int (nI (h1))), (2, .int (zI (t))), (3, .int (nI (i)))] → W p l e ({ frames := 1, cells := 0, slots := 0, locals := 24 } : Room) s m args below meth c H locs 0 0 Q (F0 m 6 ls []) := by
    intro n9_6
    induction n9_6 with
    | zero => intro i w2 hm; exact absurd hm (Nat.not_lt_zero _)
    | succ n9_6 ih_6 =>
      intro i w2 hm_6 hi hL2 H locs ls hP hD hS hl
      have hm := fmN_lt ((i : Int) * t) (show 0 < D by omega)
      refine lv_iload_n (pc := 6) hx hb dX1_turnOver_6 rfl (lv_at hl 3 rfl) ?_
      refine lv_aload_n (pc := 7) hx hb dX1_turnOver_7 rfl (lv_at hl 0 rfl) ?_
      refine va_get (pc := 8) (D := dd) (ci := 1) (v := .int (nI ((phN D)))) (C := RX1) (T := TX1) (N := 11) hx hb hts hin hown hK hP 0 rfl rfl 3 (by decide) (hts (.fieldLink RX1 55 "TurningSumsModel" "phi" "I") (by decide +kernel)) (fun _ h9 => h9) rfl dX1_turnOver_8 ?_
      refine nv_icmp_ge (pc := 11) (tgt := 51) hx hb (a := i) (b := (phN D)) (by omega) (by omega) dX1_turnOver_11 (by decide) (fun h11 => ?_) (fun h11 => ?_)
      · skip
        refine lv_aload_n (pc := 51) hx hb dX1_turnOver_51 rfl (lv_at hl 0 rfl) ?_
        refine CTv_Vw (pc := 52) am_no_ok (As := []) (rest := []) ⟨hx, hb, hml, hown, hts⟩ (c_X1_reduce l dd hD1 hre) (cwV 0 hts gX1_turnOver_X1_reduce rfl rfl rfl (by decide +kernel) ⟨Nat.le_of_ble_eq_true rfl, Nat.le_of_ble_eq_true rfl⟩) hK hP hD hS hA hX hK 0 1 rfl rfl rfl rfl hl.1 rfl (Nat.le_of_ble_eq_true rfl) ⟨Nat.zero_le _, Nat.zero_le _⟩ dX1_turnOver_52 (fun u H locs hw hP hD hS => ?_)
        try dsimp only at hw
        obtain ⟨wk52, e9⟩ : ∃ z, z = u := ⟨_, rfl⟩
        rw [← e9] at hw hP hD
        have hw52 := hw
        have hP : va_P dd vwCl (wM ad cI cL (P) ((rootN P)) (D) ((phN D)) (ix) (ho) (re) (wk52) (tu) (wa) (nx)) H := hP
        have hD : va_D A (wM ad cI cL (P) ((rootN P)) (D) ((phN D)) (ix) (ho) (re) (wk52) (tu) (wa) (nx)) := hD
        exact hret _ _ _ _ (wk52) (fun j z => (hw52 j z).trans (by rw [hL2 j z, show i = phN D by omega])) hP hD hS dX1_turnOver_55
      · skip
        refine lv_aload_n (pc := 14) hx hb dX1_turnOver_14 rfl (lv_at hl 0 rfl) ?_
        refine va_get (pc := 15) (D := dd) (ci := 1) (v := .ref (ad 4)) (C := RX1) (T := TX1) (N := 11) hx hb hts hin hown hK hP 0 rfl rfl 7 (by decide) (hts (.fieldLink RX1 20 "TurningSumsModel" "work" "[J") (by decide +kernel)) (fun _ h9 => h9) rfl dX1_turnOver_15 ?_
        refine lv_iload_n (pc := 18) hx hb dX1_turnOver_18 rfl (lv_at hl 3 rfl) ?_
        refine lv_i2l (pc := 19) (v := zL ((i : Nat) : Int)) hx hb dX1_turnOver_19 (zL_nI (by omega)) ?_
        refine lv_iload_n (pc := 20) hx hb dX1_turnOver_20 rfl (lv_at hl 2 rfl) ?_
        refine lv_i2l (pc := 21) (v := zL (t)) hx hb dX1_turnOver_21 (zL_zI (by omega) (by omega)) ?_
        refine lv_lmul (pc := 22) hx hb dX1_turnOver_22 ?_
        refine tq_l (y := zL ((i : Int) * t)) (zL_mul _ _) ?_
        refine lv_aload_n (pc := 23) hx hb dX1_turnOver_23 rfl (lv_at hl 0 rfl) ?_
        refine va_get (pc := 24) (D := dd) (ci := 1) (v := .int (nI (D))) (C := RX1) (T := TX1) (N := 11) hx hb hts hin hown hK hP 0 rfl rfl 2 (by decide) (hts (.fieldLink RX1 52 "TurningSumsModel" "d" "I") (by decide +kernel)) (fun _ h9 => h9) rfl dX1_turnOver_24 ?_
        refine CTi_S0 (pc := 27) am_no_ok (As := [.long (zL ((i : Int) * t)), .int (nI (D))]) (rest := [.ref (ad 4)]) ⟨hx, hb, hml, hown, hts⟩ (c_X1_rem l dd (rngT htr (by omega)) (by omega) (by omega)) (va_cwS 2 hts gX1_turnOver_X1_rem rfl rfl rfl (by decide +kernel) ⟨Nat.le_of_ble_eq_true rfl, Nat.le_of_ble_eq_true rfl⟩) hK hP hD hS hA hX rfl hl.1 rfl (Nat.le_of_ble_eq_true rfl) ⟨Nat.zero_le _, Nat.zero_le _⟩ dX1_turnOver_27 (fun r u H locs hw hP hD hS => ?_)
        try dsimp only at hw
        subst hw
        refine lv_dup2_11 (pc := 30) hx hb dX1_turnOver_30 rfl rfl ?_
        refine nv_lald (pc := 31) hx hb hK hP 4 1 rfl rfl (i := (fmN (((i : Int) * t)) (D))) (by omega) (by decide) (v := (w2) ((fmN (((i : Int) * t)) (D)))) (rfl) dX1_turnOver_31 ?_
        refine lv_aload_n (pc := 32) hx hb dX1_turnOver_32 rfl (lv_at hl 0 rfl) ?_
        refine va_get (pc := 33) (D := dd) (ci := 1) (v := .ref (ad 2)) (C := RX1) (T := TX1) (N := 11) hx hb hts hin hown hK hP 0 rfl rfl 5 (by decide) (hts (.fieldLink RX1 13 "TurningSumsModel" "hold" "[J") (by decide +kernel)) (fun _ h9 => h9) rfl dX1_turnOver_33 ?_
        refine nv_bipush (pc := 36) (k := 12) hx hb dX1_turnOver_36 rfl (by decide) ?_
        refine lv_iload_n (pc := 38) hx hb dX1_turnOver_38 rfl (lv_at hl 1 rfl) ?_
        refine nv_imul (pc := 39) hx hb dX1_turnOver_39 ?_
        refine lv_iload_n (pc := 40) hx hb dX1_turnOver_40 rfl (lv_at hl 3 rfl) ?_
        refine nv_iadd (pc := 41) hx hb dX1_turnOver_41 ?_
        refine nv_lald (pc := 42) hx hb hK hP 2 1 rfl rfl (i := ((12 * h1) + i)) (by omega) (by decide) (v := (aV i)) (haa _ (by omega)) dX1_turnOver_42 ?_
        refine lv_ladd (pc := 43) hx hb dX1_turnOver_43 ?_
        refine nv_last (pc := 44) hx hb hK hP hD hS 4 1 rfl rfl (by omega) (by decide) (ws' := (wM ad cI cL (P) ((rootN P)) (D) ((phN D)) (ix) (ho) (re) ((vp_updL (w2) ((fmN (((i : Int) * t)) (D))) (((w2) ((fmN (((i : Int) * t)) (D))) + (aV i))))) (tu) (wa) (nx))) rfl dX1_turnOver_44 (fun H locs hP hD hS => ?_)
        refine lv_iinc (pc := 45) (v := nI ((i + 1))) (lv' := [(3, .int (nI ((i + 1)))), (0, .ref (ad 0)), (1, .int (nI (h1))), (2, .int (zI (t)))]) hx hb dX1_turnOver_45 hl (k := 3) rfl (nI_inc _) (by decide) rfl (fun ls hl => ?_)
        refine lv_goto (pc := 48) (tgt := 6) hx hb dX1_turnOver_48 (by decide) ?_
        exact ih_6 ((i + 1)) ((vp_updL (w2) ((fmN (((i : Int) * t)) (D))) (((w2) ((fmN (((i : Int) * t)) (D))) + (aV i))))) (by omega) (by omega) (fun j z => by rw [Lf_add (by omega), hL2 j z]; rfl) _ _ _ hP hD hS (lv_sub hl [1, 2, 3, 0] rfl)
  exact L6 _ (0) (wk1) (Nat.lt_succ_self _) (by omega) (fun j z => Lf_zero (fun m a => hw1 m a)) _ _ _ hP hD hS (lv_sub hl [1, 2, 3, 0] rfl)
set_option maxHeartbeats 4000000 in
set_option maxRecDepth 100000 in
theorem c_X1_turn (l : Launch) (dd : va_G) {ad : Nat → Nat} {cI cL cQ : ClassId} {hv : Nat → Nat → Int32} {P : Nat} {D : Nat} {ix : Nat → Int32} {ho : Nat → Int64} {re : Nat → Int32} {wk : Nat → Int64} {tu : Nat → Int64} {wa : Nat → Int64} {nx : Nat → Int64} {h : Int} {o : Int} {t : Int} (hhr : -2147483648 ≤ h ∧ h < 2147483648) (hor : -2147483648 ≤ o ∧ o < 2147483648) (htr : -2147483648 ≤ t ∧ t < 2147483648) (hP1 : okP P) (hD1 : 1 ≤ D ∧ D ≤ 12) (hre : ∀ i, i < 13 → re i = zI (relM D i)) (hL : okL D hv ho) : CTi l yX1_turn wsX1_turn ({ frames := 2, cells := 0, slots := 0, locals := 47 } : Room) dd (tysA cI cL cQ) (am_no) [.ref (ad 0), .int (zI (h)), .int (zI (o)), .int (zI (t))] (wM ad cI cL (P) ((rootN P)) (D) ((phN D)) (ix) (ho) (re) (wk) (tu) (wa) (nx)) (fun (r : Int32) (u : (Nat → Int64) × (Nat → Int64)) => (¬ ((0 ≤ h ∧ h < 6) ∧ (0 ≤ o ∧ o < 6)) ∧ r = zI (-2) ∧ u.2 = ho) ∨ (((0 ≤ h ∧ h < 6) ∧ (0 ≤ o ∧ o < 6)) ∧ coN D t = false ∧ r = zI (-3) ∧ u.2 = ho) ∨ (((0 ≤ h ∧ h < 6) ∧ (0 ≤ o ∧ o < 6)) ∧ coN D t = true ∧ ((inR D (fun j => tnV D (hlV hv o.toNat) t (phN D) j) ∧ r = nI 1 ∧ okL D (stR hv h.toNat (fun j => tnV D (hlV hv o.toNat) t (phN D) j)) u.2) ∨ (¬ inR D (fun j => tnV D (hlV hv o.toNat) t (phN D) j) ∧ r = zI (-5) ∧ u.2 = ho)))) (fun (u : (Nat → Int64) × (Nat → Int64)) => (wM ad cI cL (P) ((rootN P)) (D) ((phN D)) (ix) (u.2) (re) (u.1) (tu) (wa) (nx))) := by
  refine CTi_of (cc := cX1_turn) (maxL := 4) (by decide +kernel) rfl (Nat.le_of_ble_eq_true rfl) ?_
  intro p e s m args below meth c A Q ls H locs hx hb hts hown hml hP hK hD hS hA hX hl hret
  have hin : ∀ w ∈ wsX10, w ∈ wsX1_turn := by decide +kernel
  have hl : lv_has ls 4 [(0, .ref (ad 0)), (1, .int (zI (h))), (2, .int (zI (o))), (3, .int (zI (t)))] := hl
  obtain ⟨o1, o2, o3, o4, o5, o6⟩ := id hP1
  have hph := ph_rng D (by omega) hD1.1
  have hf := fmN_lt t (show 0 < D by omega)
  have hgc := Nat.le_of_dvd (by omega) (Nat.gcd_dvd_right (fmN t D) D)
  refine lv_iload_n (pc := 0) hx hb dX1_turn_0 rfl (lv_at hl 1 rfl) ?_
  refine CTi_S0 (pc := 1) am_no_ok (As := [.int (zI (h))]) (rest := []) ⟨hx, hb, hml, hown, hts⟩ (c_X1_isHold l dd (by omega)) (va_cwS 1 hts gX1_turn_X1_isHold rfl rfl rfl (by decide +kernel) ⟨Nat.le_of_ble_eq_true rfl, Nat.le_of_ble_eq_true rfl⟩) hK hP hD hS hA hX rfl hl.1 rfl (Nat.le_of_ble_eq_true rfl) ⟨Nat.zero_le _, Nat.zero_le _⟩ dX1_turn_1 (fun r u H locs hw hP hD hS => ?_)
  try dsimp only at hw
  subst hw
  refine bv_if_eq (pc := 4) (tgt := 14) hx hb dX1_turn_4 (by decide) (fun h4 => ?_) (fun h4 => ?_)
  · skip
    refine lv_bipush (pc := 14) (v := zI (-2)) hx hb dX1_turn_14 (by decide) ?_
    exact hret _ _ _ _ _ (wk, ho) (Or.inl ⟨by omega, rfl, rfl⟩) hP hD hS dX1_turn_16
  · skip
    refine lv_iload_n (pc := 7) hx hb dX1_turn_7 rfl (lv_at hl 2 rfl) ?_
    refine CTi_S0 (pc := 8) am_no_ok (As := [.int (zI (o))]) (rest := []) ⟨hx, hb, hml, hown, hts⟩ (c_X1_isHold l dd (by omega)) (va_cwS 1 hts gX1_turn_X1_isHold rfl rfl rfl (by decide +kernel) ⟨Nat.le_of_ble_eq_true rfl, Nat.le_of_ble_eq_true rfl⟩) hK hP hD hS hA hX rfl hl.1 rfl (Nat.le_of_ble_eq_true rfl) ⟨Nat.zero_le _, Nat.zero_le _⟩ dX1_turn_8 (fun r u H locs hw hP hD hS => ?_)
    try dsimp only at hw
    subst hw
    refine bv_if_ne (pc := 11) (tgt := 17) hx hb dX1_turn_11 (by decide) (fun h11 => ?_) (fun h11 => ?_)
    · skip
      refine lv_iload_n (pc := 17) hx hb dX1_turn_17 rfl (lv_at hl 3 rfl) ?_
      refine lv_i2l (pc := 18) (v := zL (t)) hx hb dX1_turn_18 (zL_zI (by omega) (by omega)) ?_
      refine lv_aload_n (pc := 19) hx hb dX1_turn_19 rfl (lv_at hl 0 rfl) ?_
      refine va_get (pc := 20) (D := dd) (ci := 1) (v := .int (nI (D))) (C := RX1) (T := TX1) (N := 11) hx hb hts hin hown hK hP 0 rfl rfl 2 (by decide) (hts (.fieldLink RX1 52 "TurningSumsModel" "d" "I") (by decide +kernel)) (fun _ h9 => h9) rfl dX1_turn_20 ?_
      refine CTi_S0 (pc := 23) am_no_ok (As := [.long (zL (t)), .int (nI (D))]) (rest := []) ⟨hx, hb, hml, hown, hts⟩ (c_X1_rem l dd (by omega) (by omega) (by omega)) (va_cwS 2 hts gX1_turn_X1_rem rfl rfl rfl (by decide +kernel) ⟨Nat.le_of_ble_eq_true rfl, Nat.le_of_ble_eq_true rfl⟩) hK hP hD hS hA hX rfl hl.1 rfl (Nat.le_of_ble_eq_true rfl) ⟨Nat.zero_le _, Nat.zero_le _⟩ dX1_turn_23 (fun r u H locs hw hP hD hS => ?_)
      try dsimp only at hw
      subst hw
      refine lv_aload_n (pc := 26) hx hb dX1_turn_26 rfl (lv_at hl 0 rfl) ?_
      refine va_get (pc := 27) (D := dd) (ci := 1) (v := .int (nI (D))) (C := RX1) (T := TX1) (N := 11) hx hb hts hin hown hK hP 0 rfl rfl 2 (by decide) (hts (.fieldLink RX1 52 "TurningSumsModel" "d" "I") (by decide +kernel)) (fun _ h9 => h9) rfl dX1_turn_27 ?_
      refine CTi_S0 (pc := 30) am_no_ok (As := [.int (nI ((fmN ((t)) (D)))), .int (nI (D))]) (rest := []) ⟨hx, hb, hml, hown, hts⟩ (c_X1_common l dd (by omega) (by omega)) (va_cwS 2 hts gX1_turn_X1_common rfl rfl rfl (by decide +kernel) ⟨Nat.le_of_ble_eq_true rfl, Nat.le_of_ble_eq_true rfl⟩) hK hP hD hS hA hX rfl hl.1 rfl (Nat.le_of_ble_eq_true rfl) ⟨Nat.zero_le _, Nat.zero_le _⟩ dX1_turn_30 (fun r u H locs hw hP hD hS => ?_)
      try dsimp only at hw
      subst hw
      refine nv_iconst (pc := 33) (k := 1) hx hb dX1_turn_33 rfl ?_
      refine nv_icmp_eq (pc := 34) (tgt := 40) hx hb (a := (Nat.gcd ((fmN ((t)) (D))) (D))) (b := 1) (by omega) (by omega) dX1_turn_34 (by decide) (fun h34 => ?_) (fun h34 => ?_)
      · skip
        refine lv_aload_n (pc := 40) hx hb dX1_turn_40 rfl (lv_at hl 0 rfl) ?_
        refine lv_iload_n (pc := 41) hx hb dX1_turn_41 rfl (lv_at hl 2 rfl) ?_
        refine lv_iload_n (pc := 42) hx hb dX1_turn_42 rfl (lv_at hl 3 rfl) ?_
        refine tq_i2 (pc := 43) (y := nI ((o).toNat)) (zI_toNat (by omega)) ?_
        refine CTv_Vw (pc := 43) am_no_ok (As := [.int (nI ((o).toNat)), .int (zI (t))]) (rest := []) ⟨hx, hb, hml, hown, hts⟩ (c_X1_turnOver l dd (hlV hv o.toNat) htr hD1 hre (by omega) (okL_row hD1 hL (by omega))) (cwV 2 hts gX1_turn_X1_turnOver rfl rfl rfl (by decide +kernel) ⟨Nat.le_of_ble_eq_true rfl, Nat.le_of_ble_eq_true rfl⟩) hK hP hD hS hA hX hK 0 1 rfl rfl rfl rfl hl.1 rfl (Nat.le_of_ble_eq_true rfl) ⟨Nat.zero_le _, Nat.zero_le _⟩ dX1_turn_43 (fun u H locs hw hP hD hS => ?_)
        try dsimp only at hw
        obtain ⟨wk43, e9⟩ : ∃ z, z = u := ⟨_, rfl⟩
        rw [← e9] at hw hP hD
        have hw43 := hw
        have hP : va_P dd vwCl (wM ad cI cL (P) ((rootN P)) (D) ((phN D)) (ix) (ho) (re) (wk43) (tu) (wa) (nx)) H := hP
        have hD : va_D A (wM ad cI cL (P) ((rootN P)) (D) ((phN D)) (ix) (ho) (re) (wk43) (tu) (wa) (nx)) := hD
        refine lv_aload_n (pc := 46) hx hb dX1_turn_46 rfl (lv_at hl 0 rfl) ?_
        refine lv_iload_n (pc := 47) hx hb dX1_turn_47 rfl (lv_at hl 1 rfl) ?_
        refine tq_i (pc := 48) (y := nI ((h).toNat)) (zI_toNat (by omega)) ?_
        refine CTi_Vw (pc := 48) am_no_ok (As := [.int (nI ((h).toNat))]) (rest := []) ⟨hx, hb, hml, hown, hts⟩ (c_X1_lay l dd (fun j => tnV D (hlV hv o.toNat) t (phN D) j) hD1 (by omega) (fun j z => hw43 j z) hL) (cwV 1 hts gX1_turn_X1_lay rfl rfl rfl (by decide +kernel) ⟨Nat.le_of_ble_eq_true rfl, Nat.le_of_ble_eq_true rfl⟩) hK hP hD hS hA hX hK 0 1 rfl rfl rfl rfl hl.1 rfl (Nat.le_of_ble_eq_true rfl) ⟨Nat.zero_le _, Nat.zero_le _⟩ dX1_turn_48 (fun r u H locs hw hP hD hS => ?_)
        try dsimp only at hw
        obtain ⟨ho48, e9⟩ : ∃ z, z = u := ⟨_, rfl⟩
        rw [← e9] at hw hP hD
        have hw48 := hw
        have hP : va_P dd vwCl (wM ad cI cL (P) ((rootN P)) (D) ((phN D)) (ix) (ho48) (re) (wk43) (tu) (wa) (nx)) H := hP
        have hD : va_D A (wM ad cI cL (P) ((rootN P)) (D) ((phN D)) (ix) (ho48) (re) (wk43) (tu) (wa) (nx)) := hD
        exact hret _ _ _ _ _ (wk43, ho48) (Or.inr (Or.inr ⟨by omega, by unfold coN; simpa using h34, hw48⟩)) hP hD hS dX1_turn_51
      · skip
        refine lv_bipush (pc := 37) (v := zI (-3)) hx hb dX1_turn_37 (by decide) ?_
        exact hret _ _ _ _ _ (wk, ho) (Or.inr (Or.inl ⟨by omega, by unfold coN; simpa using h34, rfl, rfl⟩)) hP hD hS dX1_turn_39
    · skip
      refine lv_bipush (pc := 14) (v := zI (-2)) hx hb dX1_turn_14 (by decide) ?_
      exact hret _ _ _ _ _ (wk, ho) (Or.inl ⟨by omega, rfl, rfl⟩) hP hD hS dX1_turn_16
set_option maxHeartbeats 4000000 in
set_option maxRecDepth 100000 in
theorem c_X1_size (l : Launch) (dd : va_G) {ad : Nat → Nat} {cI cL cQ : ClassId} {hv : Nat → Nat → Int32} {P : Nat} {D : Nat} {ix : Nat → Int32} {ho : Nat → Int64} {re : Nat → Int32} {wk : Nat → Int64} {tu : Nat → Int64} {wa : Nat → Int64} {nx : Nat → Int64} {h : Int} (hhr : -2147483648 ≤ h ∧ h < 2147483648) (hP1 : okP P) (hD1 : 1 ≤ D ∧ D ≤ 12) (hre : ∀ i, i < 13 → re i = zI (relM D i)) (hL : okL D hv ho) : CTl l yX1_size wsX1_size ({ frames := 2, cells := 0, slots := 0, locals := 49 } : Room) dd (tysA cI cL cQ) (am_no) [.ref (ad 0), .int (zI (h))] (wM ad cI cL (P) ((rootN P)) (D) ((phN D)) (ix) (ho) (re) (wk) (tu) (wa) (nx)) (fun (r : Int64) (u : (Nat → Int64) × (Nat → Int64)) => (¬ (0 ≤ h ∧ h < 6) ∧ r = zL (-9223372036854775808)) ∨ ((0 ≤ h ∧ h < 6) ∧ (∃ j, 1 ≤ j ∧ j < phN D ∧ (fun j => mlV D (hlV hv h.toNat) (hlV hv h.toNat) (D - 1) (phN D) j) j ≠ 0) ∧ r = zL (-9223372036854775808)) ∨ ((0 ≤ h ∧ h < 6) ∧ (∀ j, 1 ≤ j → j < phN D → (fun j => mlV D (hlV hv h.toNat) (hlV hv h.toNat) (D - 1) (phN D) j) j = 0) ∧ r = (fun j => mlV D (hlV hv h.toNat) (hlV hv h.toNat) (D - 1) (phN D) j) 0)) (fun (u : (Nat → Int64) × (Nat → Int64)) => (wM ad cI cL (P) ((rootN P)) (D) ((phN D)) (ix) (ho) (re) (u.1) (u.2) (wa) (nx))) := by
  refine CTl_of (cc := cX1_size) (maxL := 4) (by decide +kernel) rfl (Nat.le_of_ble_eq_true rfl) ?_
  intro p e s m args below meth c A Q ls H locs hx hb hts hown hml hP hK hD hS hA hX hl hret
  have hin : ∀ w ∈ wsX10, w ∈ wsX1_size := by decide +kernel
  have hl : lv_has ls 4 [(0, .ref (ad 0)), (1, .int (zI (h)))] := hl
  obtain ⟨o1, o2, o3, o4, o5, o6⟩ := id hP1
  have hph := ph_rng D (by omega) hD1.1
  refine lv_iload_n (pc := 0) hx hb dX1_size_0 rfl (lv_at hl 1 rfl) ?_
  refine CTi_S0 (pc := 1) am_no_ok (As := [.int (zI (h))]) (rest := []) ⟨hx, hb, hml, hown, hts⟩ (c_X1_isHold l dd (by omega)) (va_cwS 1 hts gX1_size_X1_isHold rfl rfl rfl (by decide +kernel) ⟨Nat.le_of_ble_eq_true rfl, Nat.le_of_ble_eq_true rfl⟩) hK hP hD hS hA hX rfl hl.1 rfl (Nat.le_of_ble_eq_true rfl) ⟨Nat.zero_le _, Nat.zero_le _⟩ dX1_size_1 (fun r u H locs hw hP hD hS => ?_)
  try dsimp only at hw
  subst hw
  refine bv_if_ne (pc := 4) (tgt := 11) hx hb dX1_size_4 (by decide) (fun h4 => ?_) (fun h4 => ?_)
  · skip
    refine lv_aload_n (pc := 11) hx hb dX1_size_11 rfl (lv_at hl 0 rfl) ?_
    refine lv_iload_n (pc := 12) hx hb dX1_size_12 rfl (lv_at hl 1 rfl) ?_
    refine lv_aload_n (pc := 13) hx hb dX1_size_13 rfl (lv_at hl 0 rfl) ?_
    refine va_get (pc := 14) (D := dd) (ci := 1) (v := .int (nI (D))) (C := RX1) (T := TX1) (N := 11) hx hb hts hin hown hK hP 0 rfl rfl 2 (by decide) (hts (.fieldLink RX1 52 "TurningSumsModel" "d" "I") (by decide +kernel)) (fun _ h9 => h9) rfl dX1_size_14 ?_
    refine nv_iconst (pc := 17) (k := 1) hx hb dX1_size_17 rfl ?_
    refine nv_icmp_ne (pc := 18) (tgt := 25) hx hb (a := D) (b := 1) (by omega) (by omega) dX1_size_18 (by decide) (fun h18 => ?_) (fun h18 => ?_)
    · skip
      refine lv_aload_n (pc := 25) hx hb dX1_size_25 rfl (lv_at hl 0 rfl) ?_
      refine va_get (pc := 26) (D := dd) (ci := 1) (v := .int (nI (D))) (C := RX1) (T := TX1) (N := 11) hx hb hts hin hown hK hP 0 rfl rfl 2 (by decide) (hts (.fieldLink RX1 52 "TurningSumsModel" "d" "I") (by decide +kernel)) (fun _ h9 => h9) rfl dX1_size_26 ?_
      refine nv_iconst (pc := 29) (k := 1) hx hb dX1_size_29 rfl ?_
      refine nv_isub (pc := 30) hx hb (by omega) dX1_size_30 ?_
      refine tq_i2 (pc := 31) (y := nI ((h).toNat)) (zI_toNat (by omega)) ?_
      refine tq_i (pc := 31) (y := zI ((((D - 1) : Nat) : Int))) ((nI_zI _)) ?_
      refine CTv_Vw (pc := 31) am_no_ok (As := [.int (nI ((h).toNat)), .int (zI ((((D - 1) : Nat) : Int)))]) (rest := []) ⟨hx, hb, hml, hown, hts⟩ (c_X1_turnOver l dd (hlV hv h.toNat) (by omega) hD1 hre (by omega) (okL_row hD1 hL (by omega))) (cwV 2 hts gX1_size_X1_turnOver rfl rfl rfl (by decide +kernel) ⟨Nat.le_of_ble_eq_true rfl, Nat.le_of_ble_eq_true rfl⟩) hK hP hD hS hA hX hK 0 1 rfl rfl rfl rfl hl.1 rfl (Nat.le_of_ble_eq_true rfl) ⟨Nat.zero_le _, Nat.zero_le _⟩ dX1_size_31 (fun u H locs hw hP hD hS => ?_)
      try dsimp only at hw
      obtain ⟨wk31, e9⟩ : ∃ z, z = u := ⟨_, rfl⟩
      rw [← e9] at hw hP hD
      have hw31 := hw
      have hP : va_P dd vwCl (wM ad cI cL (P) ((rootN P)) (D) ((phN D)) (ix) (ho) (re) (wk31) (tu) (wa) (nx)) H := hP
      have hD : va_D A (wM ad cI cL (P) ((rootN P)) (D) ((phN D)) (ix) (ho) (re) (wk31) (tu) (wa) (nx)) := hD
      refine nv_iconst (pc := 34) (k := 0) hx hb dX1_size_34 rfl ?_
      refine lv_istore_n (pc := 35) (lv' := [(2, .int (nI (0))), (0, .ref (ad 0)), (1, .int (zI (h)))]) hx hb dX1_size_35 rfl hl (by decide) rfl (fun ls hl => ?_)
      have L36 : ∀ (n9_36 : Nat), ∀ (k : Nat) (tuv : Nat → Int64), 25 - k < n9_36 → (k ≤ 24) → (∀ q, q < k → tuv q = wk31 q) → ∀ (H : Heap) (locs : List Loc) (ls : Array Slot), va_P dd vwCl (wM ad cI cL (P) ((rootN P)) (D) ((phN D)) (ix) (ho) (re) (wk31) (tuv) (wa) (nx)) H → va_D A (wM ad cI cL (P) ((rootN P)) (D) ((phN D)) (ix) (ho) (re) (wk31) (tuv) (wa) (nx)) → va_S A s.heap H locs → lv_has ls 4 [(0, .ref (ad 0)), (1, .int (zI (h))), (2, .int (nI (k)))] → W p l e ({ frames := 2, cells := 0, slots := 0, locals := 49 } : Room) s m args below meth c H locs 0 0 Q (F0 m 36 ls []) := by
        intro n9_36
        induction n9_36 with
        | zero => intro k tuv hm; exact absurd hm (Nat.not_lt_zero _)
        | succ n9_36 ih_36 =>
          intro k tuv hm_36 hk ht9 H locs ls hP hD hS hl
          refine lv_iload_n (pc := 36) hx hb dX1_size_36 rfl (lv_at hl 2 rfl) ?_
          refine nv_bipush (pc := 37) (k := 24) hx hb dX1_size_37 rfl (by decide) ?_
          refine nv_icmp_ge (pc := 39) (tgt := 60) hx hb (a := k) (b := 24) (by omega) (by omega) dX1_size_39 (by decide) (fun h39 => ?_) (fun h39 => ?_)
          · skip
            refine lv_aload_n (pc := 60) hx hb dX1_size_60 rfl (lv_at hl 0 rfl) ?_
            refine lv_iload_n (pc := 61) hx hb dX1_size_61 rfl (lv_at hl 1 rfl) ?_
            refine lv_aload_n (pc := 62) hx hb dX1_size_62 rfl (lv_at hl 0 rfl) ?_
            refine va_get (pc := 63) (D := dd) (ci := 1) (v := .ref (ad 5)) (C := RX1) (T := TX1) (N := 11) hx hb hts hin hown hK hP 0 rfl rfl 8 (by decide) (hts (.fieldLink RX1 23 "TurningSumsModel" "turned" "[J") (by decide +kernel)) (fun _ h9 => h9) rfl dX1_size_63 ?_
            refine nv_iconst (pc := 66) (k := 0) hx hb dX1_size_66 rfl ?_
            refine tq_i3 (pc := 67) (y := nI ((h).toNat)) (zI_toNat (by omega)) ?_
            refine CTv_Vw (pc := 67) am_no_ok (As := [.int (nI ((h).toNat)), .ref (ad 5), .int (nI (0))]) (rest := []) ⟨hx, hb, hml, hown, hts⟩ (c_X1_times_t l dd (hlV hv h.toNat) (fun m => tnV D (hlV hv h.toNat) ((((D - 1) : Nat) : Int)) (phN D) m) hD1 hre (by omega) (by omega) (okL_row hD1 hL (by omega)) (fun m z => by rw [Nat.zero_add]; exact (ht9 m (by omega)).trans (hw31 m z))) (cwV 3 hts gX1_size_X1_times rfl rfl rfl (by decide +kernel) ⟨Nat.le_of_ble_eq_true rfl, Nat.le_of_ble_eq_true rfl⟩) hK hP hD hS hA hX hK 0 1 rfl rfl rfl rfl hl.1 rfl (Nat.le_of_ble_eq_true rfl) ⟨Nat.zero_le _, Nat.zero_le _⟩ dX1_size_67 (fun u H locs hw hP hD hS => ?_)
            try dsimp only at hw
            obtain ⟨wk67, e9⟩ : ∃ z, z = u := ⟨_, rfl⟩
            rw [← e9] at hw hP hD
            have hw67 := hw
            have hP : va_P dd vwCl (wM ad cI cL (P) ((rootN P)) (D) ((phN D)) (ix) (ho) (re) (wk67) (tuv) (wa) (nx)) H := hP
            have hD : va_D A (wM ad cI cL (P) ((rootN P)) (D) ((phN D)) (ix) (ho) (re) (wk67) (tuv) (wa) (nx)) := hD
            refine nv_iconst (pc := 70) (k := 1) hx hb dX1_size_70 rfl ?_
            refine lv_istore_n (pc := 71) (lv' := [(2, .int (nI (1))), (0, .ref (ad 0)), (1, .int (zI (h)))]) hx hb dX1_size_71 rfl hl (by decide) rfl (fun ls hl => ?_)
            refine nv_iconst (pc := 72) (k := 1) hx hb dX1_size_72 rfl ?_
            refine lv_istore_n (pc := 73) (lv' := [(3, .int (nI (1))), (2, .int (nI (1))), (0, .ref (ad 0)), (1, .int (zI (h)))]) hx hb dX1_size_73 rfl hl (by decide) rfl (fun ls hl => ?_)
            have hvw : ∀ j, j < phN D → wk67 j = (fun j => mlV D (hlV hv h.toNat) (hlV hv h.toNat) (D - 1) (phN D) j) j := fun j z => (hw67 j z).trans (sz_eq (T := (fun m => tnV D (hlV hv h.toNat) ((((D - 1) : Nat) : Int)) (phN D) m)) hD1 z (fun q w => sz_t) (fun m w => rfl))
            have L74 : ∀ (n9_74 : Nat), ∀ (i : Nat) (b : Nat), phN D + 1 - i < n9_74 → (1 ≤ i ∧ (i ≤ phN D ∨ i = 1)) → ((b = 1 ∧ ∀ q, 1 ≤ q → q < i → (fun j => mlV D (hlV hv h.toNat) (hlV hv h.toNat) (D - 1) (phN D) j) q = 0) ∨ (b = 0 ∧ ∃ q, 1 ≤ q ∧ q < phN D ∧ (fun j => mlV D (hlV hv h.toNat) (hlV hv h.toNat) (D - 1) (phN D) j) q ≠ 0)) → ∀ (H : Heap) (locs : List Loc) (ls : Array Slot), va_P dd vwCl (wM ad cI cL (P) ((rootN P)) (D) ((phN D)) (ix) (ho) (re) (wk67) (tuv) (wa) (nx)) H → va_D A (wM ad cI cL (P) ((rootN P)) (D) ((phN D)) (ix) (ho) (re) (wk67) (tuv) (wa) (nx)) → va_S A s.heap H locs → lv_has ls 4 [(0, .ref (ad 0)), (1, .int (zI (h))), (2, .int (nI (b))), (3, .int (nI (i)))] → W p l e ({ frames := 2, cells := 0, slots := 0, locals := 49 } : Room) s m args below meth c H locs 0 0 Q (F0 m 74 ls []) := by
              intro n9_74
              induction n9_74 with
              | zero => intro i b hm; exact absurd hm (Nat.not_lt_zero _)
              | succ n9_74 ih_74 =>
                intro i b hm_74 hi hb9 H locs ls hP hD hS hl
                refine lv_iload_n (pc := 74) hx hb dX1_size_74 rfl (lv_at hl 3 rfl) ?_
                refine lv_aload_n (pc := 75) hx hb dX1_size_75 rfl (lv_at hl 0 rfl) ?_
                refine va_get (pc := 76) (D := dd) (ci := 1) (v := .int (nI ((phN D)))) (C := RX1) (T := TX1) (N := 11) hx hb hts hin hown hK hP 0 rfl rfl 3 (by decide) (hts (.fieldLink RX1 55 "TurningSumsModel" "phi" "I") (by decide +kernel)) (fun _ h9 => h9) rfl dX1_size_76 ?_
                refine nv_icmp_ge (pc := 79) (tgt := 109) hx hb (a := i) (b := (phN D)) (by omega) (by omega) dX1_size_79 (by decide) (fun h79 => ?_) (fun h79 => ?_)
                · skip
                  refine lv_iload_n (pc := 109) hx hb dX1_size_109 rfl (lv_at hl 2 rfl) ?_
                  refine nv_if_eq (pc := 110) (tgt := 122) hx hb (a := b) (by omega) dX1_size_110 (by decide) (fun h110 => ?_) (fun h110 => ?_)
                  · skip
                    refine tq_ldc2 (pc := 122) (k := (-9223372036854775808)) hx hb hown (hts (.constantLong RX1 107 (-9223372036854775808)) (by decide +kernel)) dX1_size_122 ?_
                    exact hret _ _ _ _ _ (wk67, tuv) (Or.inr (Or.inl ⟨h4, by rcases hb9 with z | z; omega; exact z.2, rfl⟩)) hP hD hS dX1_size_125
                  · skip
                    refine lv_aload_n (pc := 113) hx hb dX1_size_113 rfl (lv_at hl 0 rfl) ?_
                    refine va_get (pc := 114) (D := dd) (ci := 1) (v := .ref (ad 4)) (C := RX1) (T := TX1) (N := 11) hx hb hts hin hown hK hP 0 rfl rfl 7 (by decide) (hts (.fieldLink RX1 20 "TurningSumsModel" "work" "[J") (by decide +kernel)) (fun _ h9 => h9) rfl dX1_size_114 ?_
                    refine nv_iconst (pc := 117) (k := 0) hx hb dX1_size_117 rfl ?_
                    refine nv_lald (pc := 118) hx hb hK hP 4 1 rfl rfl (i := 0) (by omega) (by decide) (v := ((fun j => mlV D (hlV hv h.toNat) (hlV hv h.toNat) (D - 1) (phN D) j) 0)) (hvw _ (by omega)) dX1_size_118 ?_
                    refine lv_goto (pc := 119) (tgt := 125) hx hb dX1_size_119 (by decide) ?_
                    exact hret _ _ _ _ _ (wk67, tuv) (Or.inr (Or.inr ⟨h4, by rcases hb9 with z | z; exact fun j y w => z.2 j y (by omega); omega, rfl⟩)) hP hD hS dX1_size_125
                · skip
                  refine lv_iload_n (pc := 82) hx hb dX1_size_82 rfl (lv_at hl 2 rfl) ?_
                  refine nv_if_eq (pc := 83) (tgt := 101) hx hb (a := b) (by omega) dX1_size_83 (by decide) (fun h83 => ?_) (fun h83 => ?_)
                  · skip
                    refine nv_iconst (pc := 101) (k := 0) hx hb dX1_size_101 rfl ?_
                    refine lv_istore_n (pc := 102) (lv' := [(2, .int (nI (0))), (0, .ref (ad 0)), (1, .int (zI (h))), (3, .int (nI (i)))]) hx hb dX1_size_102 rfl hl (by decide) rfl (fun ls hl => ?_)
                    refine lv_iinc (pc := 103) (v := nI ((i + 1))) (lv' := [(3, .int (nI ((i + 1)))), (2, .int (nI (0))), (0, .ref (ad 0)), (1, .int (zI (h)))]) hx hb dX1_size_103 hl (k := 3) rfl (nI_inc _) (by decide) rfl (fun ls hl => ?_)
                    refine lv_goto (pc := 106) (tgt := 74) hx hb dX1_size_106 (by decide) ?_
                    exact ih_74 ((i + 1)) (0) (by omega) (by omega) (by rcases hb9 with z | z; omega; exact Or.inr ⟨rfl, z.2⟩) _ _ _ hP hD hS (lv_sub hl [2, 3, 1, 0] rfl)
                  · skip
                    refine lv_aload_n (pc := 86) hx hb dX1_size_86 rfl (lv_at hl 0 rfl) ?_
                    refine va_get (pc := 87) (D := dd) (ci := 1) (v := .ref (ad 4)) (C := RX1) (T := TX1) (N := 11) hx hb hts hin hown hK hP 0 rfl rfl 7 (by decide) (hts (.fieldLink RX1 20 "TurningSumsModel" "work" "[J") (by decide +kernel)) (fun _ h9 => h9) rfl dX1_size_87 ?_
                    refine lv_iload_n (pc := 90) hx hb dX1_size_90 rfl (lv_at hl 3 rfl) ?_
                    refine nv_lald (pc := 91) hx hb hK hP 4 1 rfl rfl (i := i) (by omega) (by decide) (v := ((fun j => mlV D (hlV hv h.toNat) (hlV hv h.toNat) (D - 1) (phN D) j) i)) (hvw _ (by omega)) dX1_size_91 ?_
                    refine lv_lconst (pc := 92) (v := zL 0) hx hb dX1_size_92 (by decide) ?_
                    refine W.lcmp (pc := 93) hx hb dX1_size_93 ?_
                    refine cv_if_ne (pc := 94) (tgt := 101) hx hb dX1_size_94 (by decide) (fun h94 => ?_) (fun h94 => ?_)
                    · skip
                      refine nv_iconst (pc := 101) (k := 0) hx hb dX1_size_101 rfl ?_
                      refine lv_istore_n (pc := 102) (lv' := [(2, .int (nI (0))), (0, .ref (ad 0)), (1, .int (zI (h))), (3, .int (nI (i)))]) hx hb dX1_size_102 rfl hl (by decide) rfl (fun ls hl => ?_)
                      refine lv_iinc (pc := 103) (v := nI ((i + 1))) (lv' := [(3, .int (nI ((i + 1)))), (2, .int (nI (0))), (0, .ref (ad 0)), (1, .int (zI (h)))]) hx hb dX1_size_103 hl (k := 3) rfl (nI_inc _) (by decide) rfl (fun ls hl => ?_)
                      refine lv_goto (pc := 106) (tgt := 74) hx hb dX1_size_106 (by decide) ?_
                      exact ih_74 ((i + 1)) (0) (by omega) (by omega) (Or.inr ⟨rfl, i, hi.1, by omega, h94⟩) _ _ _ hP hD hS (lv_sub hl [2, 3, 1, 0] rfl)
                    · skip
                      refine nv_iconst (pc := 97) (k := 1) hx hb dX1_size_97 rfl ?_
                      refine lv_goto (pc := 98) (tgt := 102) hx hb dX1_size_98 (by decide) ?_
                      refine lv_istore_n (pc := 102) (lv' := [(2, .int (nI (1))), (0, .ref (ad 0)), (1, .int (zI (h))), (3, .int (nI (i)))]) hx hb dX1_size_102 rfl hl (by decide) rfl (fun ls hl => ?_)
                      refine lv_iinc (pc := 103) (v := nI ((i + 1))) (lv' := [(3, .int (nI ((i + 1)))), (2, .int (nI (1))), (0, .ref (ad 0)), (1, .int (zI (h)))]) hx hb dX1_size_103 hl (k := 3) rfl (nI_inc _) (by decide) rfl (fun ls hl => ?_)
                      refine lv_goto (pc := 106) (tgt := 74) hx hb dX1_size_106 (by decide) ?_
                      exact ih_74 ((i + 1)) (1) (by omega) (by omega) (by rcases hb9 with z | z; exact Or.inl ⟨rfl, fun q y w => (Nat.lt_or_ge q i).elim (fun e => z.2 q y e) (fun e => by have e2 : q = i := (by omega); subst e2; exact h94)⟩; omega) _ _ _ hP hD hS (lv_sub hl [2, 3, 1, 0] rfl)
            exact L74 _ (1) (1) (Nat.lt_succ_self _) (by omega) (Or.inl ⟨rfl, fun q z w => by omega⟩) _ _ _ hP hD hS (lv_sub hl [2, 3, 1, 0] rfl)
          · skip
            refine lv_aload_n (pc := 42) hx hb dX1_size_42 rfl (lv_at hl 0 rfl) ?_
            refine va_get (pc := 43) (D := dd) (ci := 1) (v := .ref (ad 5)) (C := RX1) (T := TX1) (N := 11) hx hb hts hin hown hK hP 0 rfl rfl 8 (by decide) (hts (.fieldLink RX1 23 "TurningSumsModel" "turned" "[J") (by decide +kernel)) (fun _ h9 => h9) rfl dX1_size_43 ?_
            refine lv_iload_n (pc := 46) hx hb dX1_size_46 rfl (lv_at hl 2 rfl) ?_
            refine lv_aload_n (pc := 47) hx hb dX1_size_47 rfl (lv_at hl 0 rfl) ?_
            refine va_get (pc := 48) (D := dd) (ci := 1) (v := .ref (ad 4)) (C := RX1) (T := TX1) (N := 11) hx hb hts hin hown hK hP 0 rfl rfl 7 (by decide) (hts (.fieldLink RX1 20 "TurningSumsModel" "work" "[J") (by decide +kernel)) (fun _ h9 => h9) rfl dX1_size_48 ?_
            refine lv_iload_n (pc := 51) hx hb dX1_size_51 rfl (lv_at hl 2 rfl) ?_
            refine nv_lald (pc := 52) hx hb hK hP 4 1 rfl rfl (i := k) (by omega) (by decide) (v := (wk31) (k)) (rfl) dX1_size_52 ?_
            refine nv_last (pc := 53) hx hb hK hP hD hS 5 1 rfl rfl (by omega) (by decide) (ws' := (wM ad cI cL (P) ((rootN P)) (D) ((phN D)) (ix) (ho) (re) (wk31) ((vp_updL (tuv) (k) ((wk31) (k)))) (wa) (nx))) rfl dX1_size_53 (fun H locs hP hD hS => ?_)
            refine lv_iinc (pc := 54) (v := nI ((k + 1))) (lv' := [(2, .int (nI ((k + 1)))), (0, .ref (ad 0)), (1, .int (zI (h)))]) hx hb dX1_size_54 hl (k := 2) rfl (nI_inc _) (by decide) rfl (fun ls hl => ?_)
            refine lv_goto (pc := 57) (tgt := 36) hx hb dX1_size_57 (by decide) ?_
            exact ih_36 ((k + 1)) ((vp_updL (tuv) (k) ((wk31) (k)))) (by omega) (by omega) (ad_m rfl ht9) _ _ _ hP hD hS (lv_sub hl [1, 2, 0] rfl)
      exact L36 _ (0) (tu) (Nat.lt_succ_self _) (by omega) (fun q z => by omega) _ _ _ hP hD hS (lv_sub hl [1, 2, 0] rfl)
    · skip
      refine nv_iconst (pc := 21) (k := 1) hx hb dX1_size_21 rfl ?_
      refine lv_goto (pc := 22) (tgt := 31) hx hb dX1_size_22 (by decide) ?_
      refine tq_i2 (pc := 31) (y := nI ((h).toNat)) (zI_toNat (by omega)) ?_
      refine tq_i (pc := 31) (y := zI (((1 : Nat) : Int))) ((nI_zI _)) ?_
      refine CTv_Vw (pc := 31) am_no_ok (As := [.int (nI ((h).toNat)), .int (zI (((1 : Nat) : Int)))]) (rest := []) ⟨hx, hb, hml, hown, hts⟩ (c_X1_turnOver l dd (hlV hv h.toNat) (by omega) hD1 hre (by omega) (okL_row hD1 hL (by omega))) (cwV 2 hts gX1_size_X1_turnOver rfl rfl rfl (by decide +kernel) ⟨Nat.le_of_ble_eq_true rfl, Nat.le_of_ble_eq_true rfl⟩) hK hP hD hS hA hX hK 0 1 rfl rfl rfl rfl hl.1 rfl (Nat.le_of_ble_eq_true rfl) ⟨Nat.zero_le _, Nat.zero_le _⟩ dX1_size_31 (fun u H locs hw hP hD hS => ?_)
      try dsimp only at hw
      obtain ⟨wk31, e9⟩ : ∃ z, z = u := ⟨_, rfl⟩
      rw [← e9] at hw hP hD
      have hw31 := hw
      have hP : va_P dd vwCl (wM ad cI cL (P) ((rootN P)) (D) ((phN D)) (ix) (ho) (re) (wk31) (tu) (wa) (nx)) H := hP
      have hD : va_D A (wM ad cI cL (P) ((rootN P)) (D) ((phN D)) (ix) (ho) (re) (wk31) (tu) (wa) (nx)) := hD
      refine nv_iconst (pc := 34) (k := 0) hx hb dX1_size_34 rfl ?_
      refine lv_istore_n (pc := 35) (lv' := [(2, .int (nI (0))), (0, .ref (ad 0)), (1, .int (zI (h)))]) hx hb dX1_size_35 rfl hl (by decide) rfl (fun ls hl => ?_)
      have L36 : ∀ (n9_36 : Nat), ∀ (k : Nat) (tuv : Nat → Int64), 25 - k < n9_36 → (k ≤ 24) → (∀ q, q < k → tuv q = wk31 q) → ∀ (H : Heap) (locs : List Loc) (ls : Array Slot), va_P dd vwCl (wM ad cI cL (P) ((rootN P)) (D) ((phN D)) (ix) (ho) (re) (wk31) (tuv) (wa) (nx)) H → va_D A (wM ad cI cL (P) ((rootN P)) (D) ((phN D)) (ix) (ho) (re) (wk31) (tuv) (wa) (nx)) → va_S A s.heap H locs → lv_has ls 4 [(0, .ref (ad 0)), (1, .int (zI (h))), (2, .int (nI (k)))] → W p l e ({ frames := 2, cells := 0, slots := 0, locals := 49 } : Room) s m args below meth c H locs 0 0 Q (F0 m 36 ls []) := by
        intro n9_36
        induction n9_36 with
        | zero => intro k tuv hm; exact absurd hm (Nat.not_lt_zero _)
        | succ n9_36 ih_36 =>
          intro k tuv hm_36 hk ht9 H locs ls hP hD hS hl
          refine lv_iload_n (pc := 36) hx hb dX1_size_36 rfl (lv_at hl 2 rfl) ?_
          refine nv_bipush (pc := 37) (k := 24) hx hb dX1_size_37 rfl (by decide) ?_
          refine nv_icmp_ge (pc := 39) (tgt := 60) hx hb (a := k) (b := 24) (by omega) (by omega) dX1_size_39 (by decide) (fun h39 => ?_) (fun h39 => ?_)
          · skip
            refine lv_aload_n (pc := 60) hx hb dX1_size_60 rfl (lv_at hl 0 rfl) ?_
            refine lv_iload_n (pc := 61) hx hb dX1_size_61 rfl (lv_at hl 1 rfl) ?_
            refine lv_aload_n (pc := 62) hx hb dX1_size_62 rfl (lv_at hl 0 rfl) ?_
            refine va_get (pc := 63) (D := dd) (ci := 1) (v := .ref (ad 5)) (C := RX1) (T := TX1) (N := 11) hx hb hts hin hown hK hP 0 rfl rfl 8 (by decide) (hts (.fieldLink RX1 23 "TurningSumsModel" "turned" "[J") (by decide +kernel)) (fun _ h9 => h9) rfl dX1_size_63 ?_
            refine nv_iconst (pc := 66) (k := 0) hx hb dX1_size_66 rfl ?_
            refine tq_i3 (pc := 67) (y := nI ((h).toNat)) (zI_toNat (by omega)) ?_
            refine CTv_Vw (pc := 67) am_no_ok (As := [.int (nI ((h).toNat)), .ref (ad 5), .int (nI (0))]) (rest := []) ⟨hx, hb, hml, hown, hts⟩ (c_X1_times_t l dd (hlV hv h.toNat) (fun m => tnV D (hlV hv h.toNat) (((1 : Nat) : Int)) (phN D) m) hD1 hre (by omega) (by omega) (okL_row hD1 hL (by omega)) (fun m z => by rw [Nat.zero_add]; exact (ht9 m (by omega)).trans (hw31 m z))) (cwV 3 hts gX1_size_X1_times rfl rfl rfl (by decide +kernel) ⟨Nat.le_of_ble_eq_true rfl, Nat.le_of_ble_eq_true rfl⟩) hK hP hD hS hA hX hK 0 1 rfl rfl rfl rfl hl.1 rfl (Nat.le_of_ble_eq_true rfl) ⟨Nat.zero_le _, Nat.zero_le _⟩ dX1_size_67 (fun u H locs hw hP hD hS => ?_)
            try dsimp only at hw
            obtain ⟨wk67, e9⟩ : ∃ z, z = u := ⟨_, rfl⟩
            rw [← e9] at hw hP hD
            have hw67 := hw
            have hP : va_P dd vwCl (wM ad cI cL (P) ((rootN P)) (D) ((phN D)) (ix) (ho) (re) (wk67) (tuv) (wa) (nx)) H := hP
            have hD : va_D A (wM ad cI cL (P) ((rootN P)) (D) ((phN D)) (ix) (ho) (re) (wk67) (tuv) (wa) (nx)) := hD
            refine nv_iconst (pc := 70) (k := 1) hx hb dX1_size_70 rfl ?_
            refine lv_istore_n (pc := 71) (lv' := [(2, .int (nI (1))), (0, .ref (ad 0)), (1, .int (zI (h)))]) hx hb dX1_size_71 rfl hl (by decide) rfl (fun ls hl => ?_)
            refine nv_iconst (pc := 72) (k := 1) hx hb dX1_size_72 rfl ?_
            refine lv_istore_n (pc := 73) (lv' := [(3, .int (nI (1))), (2, .int (nI (1))), (0, .ref (ad 0)), (1, .int (zI (h)))]) hx hb dX1_size_73 rfl hl (by decide) rfl (fun ls hl => ?_)
            have hvw : ∀ j, j < phN D → wk67 j = (fun j => mlV D (hlV hv h.toNat) (hlV hv h.toNat) (D - 1) (phN D) j) j := fun j z => (hw67 j z).trans (sz_eq (T := (fun m => tnV D (hlV hv h.toNat) (((1 : Nat) : Int)) (phN D) m)) hD1 z (fun q w => sz_t1 (by omega)) (fun m w => rfl))
            have L74 : ∀ (n9_74 : Nat), ∀ (i : Nat) (b : Nat), phN D + 1 - i < n9_74 → (1 ≤ i ∧ (i ≤ phN D ∨ i = 1)) → ((b = 1 ∧ ∀ q, 1 ≤ q → q < i → (fun j => mlV D (hlV hv h.toNat) (hlV hv h.toNat) (D - 1) (phN D) j) q = 0) ∨ (b = 0 ∧ ∃ q, 1 ≤ q ∧ q < phN D ∧ (fun j => mlV D (hlV hv h.toNat) (hlV hv h.toNat) (D - 1) (phN D) j) q ≠ 0)) → ∀ (H : Heap) (locs : List Loc) (ls : Array Slot), va_P dd vwCl (wM ad cI cL (P) ((rootN P)) (D) ((phN D)) (ix) (ho) (re) (wk67) (tuv) (wa) (nx)) H → va_D A (wM ad cI cL (P) ((rootN P)) (D) ((phN D)) (ix) (ho) (re) (wk67) (tuv) (wa) (nx)) → va_S A s.heap H locs → lv_has ls 4 [(0, .ref (ad 0)), (1, .int (zI (h))), (2, .int (nI (b))), (3, .int (nI (i)))] → W p l e ({ frames := 2, cells := 0, slots := 0, locals := 49 } : Room) s m args below meth c H locs 0 0 Q (F0 m 74 ls []) := by
              intro n9_74
              induction n9_74 with
              | zero => intro i b hm; exact absurd hm (Nat.not_lt_zero _)
              | succ n9_74 ih_74 =>
                intro i b hm_74 hi hb9 H locs ls hP hD hS hl
                refine lv_iload_n (pc := 74) hx hb dX1_size_74 rfl (lv_at hl 3 rfl) ?_
                refine lv_aload_n (pc := 75) hx hb dX1_size_75 rfl (lv_at hl 0 rfl) ?_
                refine va_get (pc := 76) (D := dd) (ci := 1) (v := .int (nI ((phN D)))) (C := RX1) (T := TX1) (N := 11) hx hb hts hin hown hK hP 0 rfl rfl 3 (by decide) (hts (.fieldLink RX1 55 "TurningSumsModel" "phi" "I") (by decide +kernel)) (fun _ h9 => h9) rfl dX1_size_76 ?_
                refine nv_icmp_ge (pc := 79) (tgt := 109) hx hb (a := i) (b := (phN D)) (by omega) (by omega) dX1_size_79 (by decide) (fun h79 => ?_) (fun h79 => ?_)
                · skip
                  refine lv_iload_n (pc := 109) hx hb dX1_size_109 rfl (lv_at hl 2 rfl) ?_
                  refine nv_if_eq (pc := 110) (tgt := 122) hx hb (a := b) (by omega) dX1_size_110 (by decide) (fun h110 => ?_) (fun h110 => ?_)
                  · skip
                    refine tq_ldc2 (pc := 122) (k := (-9223372036854775808)) hx hb hown (hts (.constantLong RX1 107 (-9223372036854775808)) (by decide +kernel)) dX1_size_122 ?_
                    exact hret _ _ _ _ _ (wk67, tuv) (Or.inr (Or.inl ⟨h4, by rcases hb9 with z | z; omega; exact z.2, rfl⟩)) hP hD hS dX1_size_125
                  · skip
                    refine lv_aload_n (pc := 113) hx hb dX1_size_113 rfl (lv_at hl 0 rfl) ?_
                    refine va_get (pc := 114) (D := dd) (ci := 1) (v := .ref (ad 4)) (C := RX1) (T := TX1) (N := 11) hx hb hts hin hown hK hP 0 rfl rfl 7 (by decide) (hts (.fieldLink RX1 20 "TurningSumsModel" "work" "[J") (by decide +kernel)) (fun _ h9 => h9) rfl dX1_size_114 ?_
                    refine nv_iconst (pc := 117) (k := 0) hx hb dX1_size_117 rfl ?_
                    refine nv_lald (pc := 118) hx hb hK hP 4 1 rfl rfl (i := 0) (by omega) (by decide) (v := ((fun j => mlV D (hlV hv h.toNat) (hlV hv h.toNat) (D - 1) (phN D) j) 0)) (hvw _ (by omega)) dX1_size_118 ?_
                    refine lv_goto (pc := 119) (tgt := 125) hx hb dX1_size_119 (by decide) ?_
                    exact hret _ _ _ _ _ (wk67, tuv) (Or.inr (Or.inr ⟨h4, by rcases hb9 with z | z; exact fun j y w => z.2 j y (by omega); omega, rfl⟩)) hP hD hS dX1_size_125
                · skip
                  refine lv_iload_n (pc := 82) hx hb dX1_size_82 rfl (lv_at hl 2 rfl) ?_
                  refine nv_if_eq (pc := 83) (tgt := 101) hx hb (a := b) (by omega) dX1_size_83 (by decide) (fun h83 => ?_) (fun h83 => ?_)
                  · skip
                    refine nv_iconst (pc := 101) (k := 0) hx hb dX1_size_101 rfl ?_
                    refine lv_istore_n (pc := 102) (lv' := [(2, .int (nI (0))), (0, .ref (ad 0)), (1, .int (zI (h))), (3, .int (nI (i)))]) hx hb dX1_size_102 rfl hl (by decide) rfl (fun ls hl => ?_)
                    refine lv_iinc (pc := 103) (v := nI ((i + 1))) (lv' := [(3, .int (nI ((i + 1)))), (2, .int (nI (0))), (0, .ref (ad 0)), (1, .int (zI (h)))]) hx hb dX1_size_103 hl (k := 3) rfl (nI_inc _) (by decide) rfl (fun ls hl => ?_)
                    refine lv_goto (pc := 106) (tgt := 74) hx hb dX1_size_106 (by decide) ?_
                    exact ih_74 ((i + 1)) (0) (by omega) (by omega) (by rcases hb9 with z | z; omega; exact Or.inr ⟨rfl, z.2⟩) _ _ _ hP hD hS (lv_sub hl [2, 3, 1, 0] rfl)
                  · skip
                    refine lv_aload_n (pc := 86) hx hb dX1_size_86 rfl (lv_at hl 0 rfl) ?_
                    refine va_get (pc := 87) (D := dd) (ci := 1) (v := .ref (ad 4)) (C := RX1) (T := TX1) (N := 11) hx hb hts hin hown hK hP 0 rfl rfl 7 (by decide) (hts (.fieldLink RX1 20 "TurningSumsModel" "work" "[J") (by decide +kernel)) (fun _ h9 => h9) rfl dX1_size_87 ?_
                    refine lv_iload_n (pc := 90) hx hb dX1_size_90 rfl (lv_at hl 3 rfl) ?_
                    refine nv_lald (pc := 91) hx hb hK hP 4 1 rfl rfl (i := i) (by omega) (by decide) (v := ((fun j => mlV D (hlV hv h.toNat) (hlV hv h.toNat) (D - 1) (phN D) j) i)) (hvw _ (by omega)) dX1_size_91 ?_
                    refine lv_lconst (pc := 92) (v := zL 0) hx hb dX1_size_92 (by decide) ?_
                    refine W.lcmp (pc := 93) hx hb dX1_size_93 ?_
                    refine cv_if_ne (pc := 94) (tgt := 101) hx hb dX1_size_94 (by decide) (fun h94 => ?_) (fun h94 => ?_)
                    · skip
                      refine nv_iconst (pc := 101) (k := 0) hx hb dX1_size_101 rfl ?_
                      refine lv_istore_n (pc := 102) (lv' := [(2, .int (nI (0))), (0, .ref (ad 0)), (1, .int (zI (h))), (3, .int (nI (i)))]) hx hb dX1_size_102 rfl hl (by decide) rfl (fun ls hl => ?_)
                      refine lv_iinc (pc := 103) (v := nI ((i + 1))) (lv' := [(3, .int (nI ((i + 1)))), (2, .int (nI (0))), (0, .ref (ad 0)), (1, .int (zI (h)))]) hx hb dX1_size_103 hl (k := 3) rfl (nI_inc _) (by decide) rfl (fun ls hl => ?_)
                      refine lv_goto (pc := 106) (tgt := 74) hx hb dX1_size_106 (by decide) ?_
                      exact ih_74 ((i + 1)) (0) (by omega) (by omega) (Or.inr ⟨rfl, i, hi.1, by omega, h94⟩) _ _ _ hP hD hS (lv_sub hl [2, 3, 1, 0] rfl)
                    · skip
                      refine nv_iconst (pc := 97) (k := 1) hx hb dX1_size_97 rfl ?_
                      refine lv_goto (pc := 98) (tgt := 102) hx hb dX1_size_98 (by decide) ?_
                      refine lv_istore_n (pc := 102) (lv' := [(2, .int (nI (1))), (0, .ref (ad 0)), (1, .int (zI (h))), (3, .int (nI (i)))]) hx hb dX1_size_102 rfl hl (by decide) rfl (fun ls hl => ?_)
                      refine lv_iinc (pc := 103) (v := nI ((i + 1))) (lv' := [(3, .int (nI ((i + 1)))), (2, .int (nI (1))), (0, .ref (ad 0)), (1, .int (zI (h)))]) hx hb dX1_size_103 hl (k := 3) rfl (nI_inc _) (by decide) rfl (fun ls hl => ?_)
                      refine lv_goto (pc := 106) (tgt := 74) hx hb dX1_size_106 (by decide) ?_
                      exact ih_74 ((i + 1)) (1) (by omega) (by omega) (by rcases hb9 with z | z; exact Or.inl ⟨rfl, fun q y w => (Nat.lt_or_ge q i).elim (fun e => z.2 q y e) (fun e => by have e2 : q = i := (by omega); subst e2; exact h94)⟩; omega) _ _ _ hP hD hS (lv_sub hl [2, 3, 1, 0] rfl)
            exact L74 _ (1) (1) (Nat.lt_succ_self _) (by omega) (Or.inl ⟨rfl, fun q z w => by omega⟩) _ _ _ hP hD hS (lv_sub hl [2, 3, 1, 0] rfl)
          · skip
            refine lv_aload_n (pc := 42) hx hb dX1_size_42 rfl (lv_at hl 0 rfl) ?_
            refine va_get (pc := 43) (D := dd) (ci := 1) (v := .ref (ad 5)) (C := RX1) (T := TX1) (N := 11) hx hb hts hin hown hK hP 0 rfl rfl 8 (by decide) (hts (.fieldLink RX1 23 "TurningSumsModel" "turned" "[J") (by decide +kernel)) (fun _ h9 => h9) rfl dX1_size_43 ?_
            refine lv_iload_n (pc := 46) hx hb dX1_size_46 rfl (lv_at hl 2 rfl) ?_
            refine lv_aload_n (pc := 47) hx hb dX1_size_47 rfl (lv_at hl 0 rfl) ?_
            refine va_get (pc := 48) (D := dd) (ci := 1) (v := .ref (ad 4)) (C := RX1) (T := TX1) (N := 11) hx hb hts hin hown hK hP 0 rfl rfl 7 (by decide) (hts (.fieldLink RX1 20 "TurningSumsModel" "work" "[J") (by decide +kernel)) (fun _ h9 => h9) rfl dX1_size_48 ?_
            refine lv_iload_n (pc := 51) hx hb dX1_size_51 rfl (lv_at hl 2 rfl) ?_
            refine nv_lald (pc := 52) hx hb hK hP 4 1 rfl rfl (i := k) (by omega) (by decide) (v := (wk31) (k)) (rfl) dX1_size_52 ?_
            refine nv_last (pc := 53) hx hb hK hP hD hS 5 1 rfl rfl (by omega) (by decide) (ws' := (wM ad cI cL (P) ((rootN P)) (D) ((phN D)) (ix) (ho) (re) (wk31) ((vp_updL (tuv) (k) ((wk31) (k)))) (wa) (nx))) rfl dX1_size_53 (fun H locs hP hD hS => ?_)
            refine lv_iinc (pc := 54) (v := nI ((k + 1))) (lv' := [(2, .int (nI ((k + 1)))), (0, .ref (ad 0)), (1, .int (zI (h)))]) hx hb dX1_size_54 hl (k := 2) rfl (nI_inc _) (by decide) rfl (fun ls hl => ?_)
            refine lv_goto (pc := 57) (tgt := 36) hx hb dX1_size_57 (by decide) ?_
            exact ih_36 ((k + 1)) ((vp_updL (tuv) (k) ((wk31) (k)))) (by omega) (by omega) (ad_m rfl ht9) _ _ _ hP hD hS (lv_sub hl [1, 2, 0] rfl)
      exact L36 _ (0) (tu) (Nat.lt_succ_self _) (by omega) (fun q z => by omega) _ _ _ hP hD hS (lv_sub hl [1, 2, 0] rfl)
  · skip
    refine tq_ldc2 (pc := 7) (k := (-9223372036854775808)) hx hb hown (hts (.constantLong RX1 107 (-9223372036854775808)) (by decide +kernel)) dX1_size_7 ?_
    exact hret _ _ _ _ _ (wk, tu) (Or.inl ⟨h4, rfl⟩) hP hD hS dX1_size_10
