set_option maxHeartbeats 4000000 in
set_option maxRecDepth 100000 in
theorem c_X0_prime (l : Launch) (dd : va_G) {ad : Nat → Nat} {cI cL cQ : ClassId} {tR : Nat}  {ix : Nat → Int32} {pw : Nat → Int32} {sg : Nat → Int32} {tm : Nat → Int32} {hd : Nat → Nat → Int32} {wk : Nat → Int64} {rc : Nat → Int64} {lc : Nat → Int64} {P : Nat} {D : Nat} {v : Int} (hv9 : -2147483648 ≤ v ∧ v < 2147483648) (hP1 : okP P) (hD1 : 1 ≤ D ∧ D ≤ 12) : CTi l yX0_prime wsX0_prime ({ frames := 3, cells := 0, slots := 0, locals := 68 } : Room) dd (tysA cI cL cQ) (rX tR) [.ref (ad 0), .int (zI (v))] (wC ad cI cL cQ (ix) (pw) (sg) (tm) (hd) (wk) (rc) (lc) (P) ((rootN P)) (D) ((phN D))) (fun (r : Int32) (u : (Nat × Nat × (Nat → Int32) × (Nat → Int32) × (Nat → Nat → Int32))) => (v.toNat ∈ prT ∧ r = nI (rootN v.toNat) ∧ u.1 = v.toNat ∧ u.2.1 = 2 ∧ okI v.toNat u.2.2.1 u.2.2.2.1 ∧ ∀ a, a < 6 → ∀ b, b < 10 → u.2.2.2.2 a b = nI 0) ∨ (v.toNat ∉ prT ∧ r = zI (-3) ∧ u = (P, D, ix, pw, hd))) (fun (u : (Nat × Nat × (Nat → Int32) × (Nat → Int32) × (Nat → Nat → Int32))) => (wC ad cI cL cQ (u.2.2.1) (u.2.2.2.1) (sg) (tm) (u.2.2.2.2) (wk) (rc) (lc) (u.1) ((rootN u.1)) (u.2.1) ((phN u.2.1)))) := by
  refine CTi_of (cc := cX0_prime) (maxL := 2) (by decide +kernel) rfl (Nat.le_of_ble_eq_true rfl) ?_
  intro p e s m args below meth c A Q ls H locs hx hb hts hown hml hP hK hD hS hA hX hl hret
  have hin : ∀ w ∈ wsX00, w ∈ wsX0_prime := by decide +kernel
  have hl : lv_has ls 2 [(0, .ref (ad 0)), (1, .int (zI (v)))] := hl
  obtain ⟨o1, o2, o3, o4, o5, o6⟩ := id hP1
  have hph := ph_rng D (by omega) hD1.1
  refine lv_iload_n (pc := 0) hx hb dX0_prime_0 rfl (lv_at hl 1 rfl) ?_
  refine nv_iconst (pc := 1) (k := 3) hx hb dX0_prime_1 rfl ?_
  refine zv_2 (pc := 2) (a := ((3 : Nat) : Int)) (b := v) ((nI_zI _)) (rfl) ?_
  refine zv_icmp_lt (pc := 2) (tgt := 19) hx hb (by omega) (by omega) dX0_prime_2 (by decide) (fun h2 => ?_) (fun h2 => ?_)
  · skip
    refine lv_bipush (pc := 19) (v := zI (-3)) hx hb dX0_prime_19 (by decide) ?_
    exact hret _ _ _ _ _ (P, D, ix, pw, hd) (Or.inr ⟨fun z => by have := okP_of _ z; unfold okP at this; omega, rfl, rfl⟩) hP hD hS dX0_prime_21
  · skip
    refine lv_iload_n (pc := 5) hx hb dX0_prime_5 rfl (lv_at hl 1 rfl) ?_
    refine nv_sipush (pc := 6) (k := 199) hx hb dX0_prime_6 rfl (by decide) ?_
    refine zv_2 (pc := 9) (a := ((199 : Nat) : Int)) (b := v) ((nI_zI _)) (rfl) ?_
    refine zv_icmp_gt (pc := 9) (tgt := 19) hx hb (by omega) (by omega) dX0_prime_9 (by decide) (fun h9 => ?_) (fun h9 => ?_)
    · skip
      refine lv_bipush (pc := 19) (v := zI (-3)) hx hb dX0_prime_19 (by decide) ?_
      exact hret _ _ _ _ _ (P, D, ix, pw, hd) (Or.inr ⟨fun z => by have := okP_of _ z; unfold okP at this; omega, rfl, rfl⟩) hP hD hS dX0_prime_21
    · skip
      refine lv_iload_n (pc := 12) hx hb dX0_prime_12 rfl (lv_at hl 1 rfl) ?_
      refine tq_i (pc := 13) (y := nI ((v).toNat)) (zI_toNat (by omega)) ?_
      refine CTi_S0 (pc := 13) am_no_ok (As := [.int (nI ((v).toNat))]) (rest := []) ⟨hx, hb, hml, hown, hts⟩ (c_X0_isPrime l dd (by omega) (by omega)) (va_cwS 1 hts gX0_prime_X0_isPrime rfl rfl rfl (by decide +kernel) ⟨Nat.le_of_ble_eq_true rfl, Nat.le_of_ble_eq_true rfl⟩) hK hP hD hS hA trivial rfl hl.1 rfl (Nat.le_of_ble_eq_true rfl) ⟨Nat.zero_le _, Nat.zero_le _⟩ dX0_prime_13 (fun r u H locs hw hP hD hS => ?_)
      try dsimp only at hw
      subst hw
      refine bv_if_ne (pc := 16) (tgt := 22) hx hb dX0_prime_16 (by decide) (fun h16 => ?_) (fun h16 => ?_)
      · skip
        refine lv_aload_n (pc := 22) hx hb dX0_prime_22 rfl (lv_at hl 0 rfl) ?_
        refine lv_iload_n (pc := 23) hx hb dX0_prime_23 rfl (lv_at hl 1 rfl) ?_
        refine tq_i (pc := 24) (y := nI ((v).toNat)) (zI_toNat (by omega)) ?_
        refine CTv_Vw (pc := 24) (rX_ok tR) (As := [.int (nI ((v).toNat))]) (rest := []) ⟨hx, hb, hml, hown, hts⟩ (c_X0_setPrime l dd (okP_of _ h16)) (cwV 1 hts gX0_prime_X0_setPrime rfl rfl rfl (by decide +kernel) ⟨Nat.le_of_ble_eq_true rfl, Nat.le_of_ble_eq_true rfl⟩) hK hP hD hS hA hX hK 0 0 rfl rfl rfl rfl hl.1 rfl (Nat.le_of_ble_eq_true rfl) ⟨Nat.zero_le _, Nat.zero_le _⟩ dX0_prime_24 (fun u H locs hw hP hD hS => ?_)
        try dsimp only at hw
        obtain ⟨ix24, pw24, hd24, e9⟩ : ∃ z z2 z3, (z, z2, z3) = u := ⟨_, _, _, rfl⟩
        rw [← e9] at hw hP hD
        have hw24 := hw
        have hP : va_P dd vwCl (wC ad cI cL cQ (ix24) (pw24) (sg) (tm) (hd24) (wk) (rc) (lc) ((v).toNat) ((rootN ((v).toNat))) (2) ((phN 2))) H := hP
        have hD : va_D A (wC ad cI cL cQ (ix24) (pw24) (sg) (tm) (hd24) (wk) (rc) (lc) ((v).toNat) ((rootN ((v).toNat))) (2) ((phN 2))) := hD
        refine lv_aload_n (pc := 27) hx hb dX0_prime_27 rfl (lv_at hl 0 rfl) ?_
        refine va_get (pc := 28) (D := dd) (ci := 0) (v := .int (nI ((rootN ((v).toNat))))) (C := RX0) (T := TX0) (N := 12) hx hb hts hin hown hK hP 0 rfl rfl 9 (by decide) (hts (.fieldLink RX0 45 "TurningSums" "root" "I") (by decide +kernel)) (fun _ h9 => h9) rfl dX0_prime_28 ?_
        exact hret _ _ _ _ _ ((v).toNat, 2, ix24, pw24, hd24) (Or.inl ⟨h16, rfl, rfl, rfl, hw24.1, hw24.2⟩) hP hD hS dX0_prime_31
      · skip
        refine lv_bipush (pc := 19) (v := zI (-3)) hx hb dX0_prime_19 (by decide) ?_
        exact hret _ _ _ _ _ (P, D, ix, pw, hd) (Or.inr ⟨h16, rfl, rfl⟩) hP hD hS dX0_prime_21
set_option maxHeartbeats 4000000 in
set_option maxRecDepth 100000 in
theorem c_X1_prime (l : Launch) (dd : va_G) {ad : Nat → Nat} {cI cL cQ : ClassId}  {P : Nat} {D : Nat} {ix : Nat → Int32} {ho : Nat → Int64} {re : Nat → Int32} {wk : Nat → Int64} {tu : Nat → Int64} {wa : Nat → Int64} {nx : Nat → Int64} {v : Int} (hv9 : -2147483648 ≤ v ∧ v < 2147483648) (hP1 : okP P) (hD1 : 1 ≤ D ∧ D ≤ 12) : CTi l yX1_prime wsX1_prime ({ frames := 3, cells := 0, slots := 0, locals := 69 } : Room) dd (tysA cI cL cQ) (am_no) [.ref (ad 0), .int (zI (v))] (wM ad cI cL (P) ((rootN P)) (D) ((phN D)) (ix) (ho) (re) (wk) (tu) (wa) (nx)) (fun (r : Int32) (u : (Nat × Nat × (Nat → Int32) × (Nat → Int64) × (Nat → Int32))) => (v.toNat ∈ prT ∧ r = nI (rootN v.toNat) ∧ u.1 = v.toNat ∧ u.2.1 = 2 ∧ (∀ y, 1 ≤ y → y < v.toNat → u.2.2.1 y = nI (ixN v.toNat y)) ∧ (∀ k, k < 72 → u.2.2.2.1 k = zL 0) ∧ ∀ i, i < 13 → u.2.2.2.2 i = zI (relM 2 i)) ∨ (v.toNat ∉ prT ∧ r = zI (-3) ∧ u = (P, D, ix, ho, re))) (fun (u : (Nat × Nat × (Nat → Int32) × (Nat → Int64) × (Nat → Int32))) => (wM ad cI cL (u.1) ((rootN u.1)) (u.2.1) ((phN u.2.1)) (u.2.2.1) (u.2.2.2.1) (u.2.2.2.2) (wk) (tu) (wa) (nx))) := by
  refine CTi_of (cc := cX1_prime) (maxL := 2) (by decide +kernel) rfl (Nat.le_of_ble_eq_true rfl) ?_
  intro p e s m args below meth c A Q ls H locs hx hb hts hown hml hP hK hD hS hA hX hl hret
  have hin : ∀ w ∈ wsX10, w ∈ wsX1_prime := by decide +kernel
  have hl : lv_has ls 2 [(0, .ref (ad 0)), (1, .int (zI (v)))] := hl
  obtain ⟨o1, o2, o3, o4, o5, o6⟩ := id hP1
  have hph := ph_rng D (by omega) hD1.1
  refine lv_iload_n (pc := 0) hx hb dX1_prime_0 rfl (lv_at hl 1 rfl) ?_
  refine CTi_S0 (pc := 1) am_no_ok (As := [.int (zI (v))]) (rest := []) ⟨hx, hb, hml, hown, hts⟩ (c_X1_isPrime l dd (by omega)) (va_cwS 1 hts gX1_prime_X1_isPrime rfl rfl rfl (by decide +kernel) ⟨Nat.le_of_ble_eq_true rfl, Nat.le_of_ble_eq_true rfl⟩) hK hP hD hS hA hX rfl hl.1 rfl (Nat.le_of_ble_eq_true rfl) ⟨Nat.zero_le _, Nat.zero_le _⟩ dX1_prime_1 (fun r u H locs hw hP hD hS => ?_)
  try dsimp only at hw
  subst hw
  refine bv_if_ne (pc := 4) (tgt := 10) hx hb dX1_prime_4 (by decide) (fun h4 => ?_) (fun h4 => ?_)
  · skip
    refine lv_aload_n (pc := 10) hx hb dX1_prime_10 rfl (lv_at hl 0 rfl) ?_
    refine lv_iload_n (pc := 11) hx hb dX1_prime_11 rfl (lv_at hl 1 rfl) ?_
    refine tq_i (pc := 12) (y := nI ((v).toNat)) (zI_toNat (by have := okP_of _ h4; unfold okP at this; omega)) ?_
    refine CTv_Vw (pc := 12) am_no_ok (As := [.int (nI ((v).toNat))]) (rest := []) ⟨hx, hb, hml, hown, hts⟩ (c_X1_begin l dd (okP_of _ h4)) (cwV 1 hts gX1_prime_X1_begin rfl rfl rfl (by decide +kernel) ⟨Nat.le_of_ble_eq_true rfl, Nat.le_of_ble_eq_true rfl⟩) hK hP hD hS hA hX hK 0 1 rfl rfl rfl rfl hl.1 rfl (Nat.le_of_ble_eq_true rfl) ⟨Nat.zero_le _, Nat.zero_le _⟩ dX1_prime_12 (fun u H locs hw hP hD hS => ?_)
    try dsimp only at hw
    obtain ⟨ix12, ho12, re12, e9⟩ : ∃ z z2 z3, (z, z2, z3) = u := ⟨_, _, _, rfl⟩
    rw [← e9] at hw hP hD
    have hw12 := hw
    have hP : va_P dd vwCl (wM ad cI cL ((v).toNat) ((rootN ((v).toNat))) (2) ((phN 2)) (ix12) (ho12) (re12) (wk) (tu) (wa) (nx)) H := hP
    have hD : va_D A (wM ad cI cL ((v).toNat) ((rootN ((v).toNat))) (2) ((phN 2)) (ix12) (ho12) (re12) (wk) (tu) (wa) (nx)) := hD
    refine lv_aload_n (pc := 15) hx hb dX1_prime_15 rfl (lv_at hl 0 rfl) ?_
    refine va_get (pc := 16) (D := dd) (ci := 1) (v := .int (nI ((rootN ((v).toNat))))) (C := RX1) (T := TX1) (N := 11) hx hb hts hin hown hK hP 0 rfl rfl 1 (by decide) (hts (.fieldLink RX1 46 "TurningSumsModel" "root" "I") (by decide +kernel)) (fun _ h9 => h9) rfl dX1_prime_16 ?_
    exact hret _ _ _ _ _ ((v).toNat, 2, ix12, ho12, re12) (Or.inl ⟨h4, rfl, rfl, rfl, hw12.1, hw12.2.1, hw12.2.2⟩) hP hD hS dX1_prime_19
  · skip
    refine lv_bipush (pc := 7) (v := zI (-3)) hx hb dX1_prime_7 (by decide) ?_
    exact hret _ _ _ _ _ (P, D, ix, ho, re) (Or.inr ⟨h4, rfl, rfl⟩) hP hD hS dX1_prime_9
set_option maxHeartbeats 4000000 in
set_option maxRecDepth 100000 in
theorem c_X0_degree (l : Launch) (dd : va_G) {ad : Nat → Nat} {cI cL cQ : ClassId} {tR : Nat}  {ix : Nat → Int32} {pw : Nat → Int32} {sg : Nat → Int32} {tm : Nat → Int32} {hd : Nat → Nat → Int32} {wk : Nat → Int64} {rc : Nat → Int64} {lc : Nat → Int64} {P : Nat} {D : Nat} {v : Int} (hv9 : -2147483648 ≤ v ∧ v < 2147483648) (hP1 : okP P) (hD1 : 1 ≤ D ∧ D ≤ 12) : CTi l yX0_degree wsX0_degree ({ frames := 2, cells := 0, slots := 0, locals := 45 } : Room) dd (tysA cI cL cQ) (rX tR) [.ref (ad 0), .int (zI (v))] (wC ad cI cL cQ (ix) (pw) (sg) (tm) (hd) (wk) (rc) (lc) (P) ((rootN P)) (D) ((phN D))) (fun (r : Int32) (u : (Nat × (Nat → Nat → Int32))) => ((1 ≤ v ∧ v ≤ 12 ∧ (P - 1) % v.toNat = 0) ∧ r = nI (phN v.toNat) ∧ u.1 = v.toNat ∧ ∀ a, a < 6 → ∀ b, b < 10 → u.2 a b = nI 0) ∨ (¬ (1 ≤ v ∧ v ≤ 12 ∧ (P - 1) % v.toNat = 0) ∧ r = zI (-3) ∧ u = (D, hd))) (fun (u : Nat × (Nat → Nat → Int32)) => (wC ad cI cL cQ (ix) (pw) (sg) (tm) (u.2) (wk) (rc) (lc) (P) ((rootN P)) (u.1) ((phN u.1)))) := by
  refine CTi_of (cc := cX0_degree) (maxL := 2) (by decide +kernel) rfl (Nat.le_of_ble_eq_true rfl) ?_
  intro p e s m args below meth c A Q ls H locs hx hb hts hown hml hP hK hD hS hA hX hl hret
  have hin : ∀ w ∈ wsX00, w ∈ wsX0_degree := by decide +kernel
  have hl : lv_has ls 2 [(0, .ref (ad 0)), (1, .int (zI (v)))] := hl
  obtain ⟨o1, o2, o3, o4, o5, o6⟩ := id hP1
  have hph := ph_rng D (by omega) hD1.1
  refine lv_iload_n (pc := 0) hx hb dX0_degree_0 rfl (lv_at hl 1 rfl) ?_
  refine nv_iconst (pc := 1) (k := 1) hx hb dX0_degree_1 rfl ?_
  refine zv_2 (pc := 2) (a := ((1 : Nat) : Int)) (b := v) ((nI_zI _)) (rfl) ?_
  refine zv_icmp_lt (pc := 2) (tgt := 22) hx hb (by omega) (by omega) dX0_degree_2 (by decide) (fun h2 => ?_) (fun h2 => ?_)
  · skip
    refine lv_bipush (pc := 22) (v := zI (-3)) hx hb dX0_degree_22 (by decide) ?_
    exact hret _ _ _ _ _ (D, hd) (Or.inr ⟨by omega, rfl, rfl⟩) hP hD hS dX0_degree_24
  · skip
    refine lv_iload_n (pc := 5) hx hb dX0_degree_5 rfl (lv_at hl 1 rfl) ?_
    refine nv_bipush (pc := 6) (k := 12) hx hb dX0_degree_6 rfl (by decide) ?_
    refine zv_2 (pc := 8) (a := ((12 : Nat) : Int)) (b := v) ((nI_zI _)) (rfl) ?_
    refine zv_icmp_gt (pc := 8) (tgt := 22) hx hb (by omega) (by omega) dX0_degree_8 (by decide) (fun h8 => ?_) (fun h8 => ?_)
    · skip
      refine lv_bipush (pc := 22) (v := zI (-3)) hx hb dX0_degree_22 (by decide) ?_
      exact hret _ _ _ _ _ (D, hd) (Or.inr ⟨by omega, rfl, rfl⟩) hP hD hS dX0_degree_24
    · skip
      refine lv_aload_n (pc := 11) hx hb dX0_degree_11 rfl (lv_at hl 0 rfl) ?_
      refine va_get (pc := 12) (D := dd) (ci := 0) (v := .int (nI (P))) (C := RX0) (T := TX0) (N := 12) hx hb hts hin hown hK hP 0 rfl rfl 8 (by decide) (hts (.fieldLink RX0 49 "TurningSums" "p" "I") (by decide +kernel)) (fun _ h9 => h9) rfl dX0_degree_12 ?_
      refine nv_iconst (pc := 15) (k := 1) hx hb dX0_degree_15 rfl ?_
      refine nv_isub (pc := 16) hx hb (by omega) dX0_degree_16 ?_
      refine lv_iload_n (pc := 17) hx hb dX0_degree_17 rfl (lv_at hl 1 rfl) ?_
      refine tq_i (y := nI (v.toNat)) (zI_toNat (by omega)) ?_
      refine nv_irem (pc := 18) hx hb (by omega) (by omega) (by omega) dX0_degree_18 ?_
      refine nv_if_eq (pc := 19) (tgt := 25) hx hb (a := ((P - 1) % v.toNat)) (Nat.lt_trans (Nat.mod_lt _ (by omega)) (by omega)) dX0_degree_19 (by decide) (fun h19 => ?_) (fun h19 => ?_)
      · skip
        refine lv_aload_n (pc := 25) hx hb dX0_degree_25 rfl (lv_at hl 0 rfl) ?_
        refine lv_iload_n (pc := 26) hx hb dX0_degree_26 rfl (lv_at hl 1 rfl) ?_
        refine tq_i (pc := 27) (y := nI ((v).toNat)) (zI_toNat (by omega)) ?_
        refine CTv_Vw (pc := 27) (rX_ok tR) (As := [.int (nI ((v).toNat))]) (rest := []) ⟨hx, hb, hml, hown, hts⟩ (c_X0_setDegree l dd (by omega) (by omega)) (cwV 1 hts gX0_degree_X0_setDegree rfl rfl rfl (by decide +kernel) ⟨Nat.le_of_ble_eq_true rfl, Nat.le_of_ble_eq_true rfl⟩) hK hP hD hS hA hX hK 0 0 rfl rfl rfl rfl hl.1 rfl (Nat.le_of_ble_eq_true rfl) ⟨Nat.zero_le _, Nat.zero_le _⟩ dX0_degree_27 (fun u H locs hw hP hD hS => ?_)
        try dsimp only at hw
        obtain ⟨hd27, e9⟩ : ∃ z, z = u := ⟨_, rfl⟩
        rw [← e9] at hw hP hD
        have hw27 := hw
        have hP : va_P dd vwCl (wC ad cI cL cQ (ix) (pw) (sg) (tm) (hd27) (wk) (rc) (lc) (P) ((rootN P)) ((v).toNat) ((phN ((v).toNat)))) H := hP
        have hD : va_D A (wC ad cI cL cQ (ix) (pw) (sg) (tm) (hd27) (wk) (rc) (lc) (P) ((rootN P)) ((v).toNat) ((phN ((v).toNat)))) := hD
        refine lv_aload_n (pc := 30) hx hb dX0_degree_30 rfl (lv_at hl 0 rfl) ?_
        refine va_get (pc := 31) (D := dd) (ci := 0) (v := .int (nI ((phN ((v).toNat))))) (C := RX0) (T := TX0) (N := 12) hx hb hts hin hown hK hP 0 rfl rfl 11 (by decide) (hts (.fieldLink RX0 55 "TurningSums" "phi" "I") (by decide +kernel)) (fun _ h9 => h9) rfl dX0_degree_31 ?_
        exact hret _ _ _ _ _ ((v).toNat, hd27) (Or.inl ⟨⟨by omega, by omega, h19⟩, rfl, rfl, hw27⟩) hP hD hS dX0_degree_34
      · skip
        refine lv_bipush (pc := 22) (v := zI (-3)) hx hb dX0_degree_22 (by decide) ?_
        exact hret _ _ _ _ _ (D, hd) (Or.inr ⟨fun z => h19 z.2.2, rfl, rfl⟩) hP hD hS dX0_degree_24
set_option maxHeartbeats 4000000 in
set_option maxRecDepth 100000 in
theorem c_X1_degree (l : Launch) (dd : va_G) {ad : Nat → Nat} {cI cL cQ : ClassId}  {P : Nat} {D : Nat} {ix : Nat → Int32} {ho : Nat → Int64} {re : Nat → Int32} {wk : Nat → Int64} {tu : Nat → Int64} {wa : Nat → Int64} {nx : Nat → Int64} {v : Int} (hv9 : -2147483648 ≤ v ∧ v < 2147483648) (hP1 : okP P) (hD1 : 1 ≤ D ∧ D ≤ 12) : CTi l yX1_degree wsX1_degree ({ frames := 2, cells := 0, slots := 0, locals := 46 } : Room) dd (tysA cI cL cQ) (am_no) [.ref (ad 0), .int (zI (v))] (wM ad cI cL (P) ((rootN P)) (D) ((phN D)) (ix) (ho) (re) (wk) (tu) (wa) (nx)) (fun (r : Int32) (u : (Nat × (Nat → Int64) × (Nat → Int32))) => ((1 ≤ v ∧ v ≤ 12 ∧ (P - 1) % v.toNat = 0) ∧ r = nI (phN v.toNat) ∧ u.1 = v.toNat ∧ (∀ k, k < 72 → u.2.1 k = zL 0) ∧ ∀ i, i < 13 → u.2.2 i = zI (relM v.toNat i)) ∨ (¬ (1 ≤ v ∧ v ≤ 12 ∧ (P - 1) % v.toNat = 0) ∧ r = zI (-3) ∧ u = (D, ho, re))) (fun (u : Nat × (Nat → Int64) × (Nat → Int32)) => (wM ad cI cL (P) ((rootN P)) (u.1) ((phN u.1)) (ix) (u.2.1) (u.2.2) (wk) (tu) (wa) (nx))) := by
  refine CTi_of (cc := cX1_degree) (maxL := 2) (by decide +kernel) rfl (Nat.le_of_ble_eq_true rfl) ?_
  intro p e s m args below meth c A Q ls H locs hx hb hts hown hml hP hK hD hS hA hX hl hret
  have hin : ∀ w ∈ wsX10, w ∈ wsX1_degree := by decide +kernel
  have hl : lv_has ls 2 [(0, .ref (ad 0)), (1, .int (zI (v)))] := hl
  obtain ⟨o1, o2, o3, o4, o5, o6⟩ := id hP1
  have hph := ph_rng D (by omega) hD1.1
  refine lv_iload_n (pc := 0) hx hb dX1_degree_0 rfl (lv_at hl 1 rfl) ?_
  refine lv_i2l (pc := 1) (v := zL (v)) hx hb dX1_degree_1 (zL_zI (by omega) (by omega)) ?_
  refine lv_lconst (pc := 2) (v := zL 1) hx hb dX1_degree_2 (by decide) ?_
  refine tq_ldc2 (pc := 3) (k := (12)) hx hb hown (hts (.constantLong RX1 66 (12)) (by decide +kernel)) dX1_degree_3 ?_
  refine CTi_S0 (pc := 6) am_no_ok (As := [.long (zL (v)), .long (zL 1), .long (zL (12))]) (rest := []) ⟨hx, hb, hml, hown, hts⟩ (c_X1_in l dd ) (va_cwS 3 hts gX1_degree_X1_in rfl rfl rfl (by decide +kernel) ⟨Nat.le_of_ble_eq_true rfl, Nat.le_of_ble_eq_true rfl⟩) hK hP hD hS hA hX rfl hl.1 rfl (Nat.le_of_ble_eq_true rfl) ⟨Nat.zero_le _, Nat.zero_le _⟩ dX1_degree_6 (fun r u H locs hw hP hD hS => ?_)
  try dsimp only at hw
  subst hw
  refine bv_if_eq (pc := 9) (tgt := 23) hx hb dX1_degree_9 (by decide) (fun h9 => ?_) (fun h9 => ?_)
  · skip
    rw [zL_le (by omega) (by omega), zL_le (by omega) (by omega)] at h9
    refine lv_bipush (pc := 23) (v := zI (-3)) hx hb dX1_degree_23 (by decide) ?_
    exact hret _ _ _ _ _ (D, ho, re) (Or.inr ⟨by omega, rfl, rfl⟩) hP hD hS dX1_degree_25
  · skip
    rw [zL_le (by omega) (by omega), zL_le (by omega) (by omega)] at h9
    refine lv_aload_n (pc := 12) hx hb dX1_degree_12 rfl (lv_at hl 0 rfl) ?_
    refine va_get (pc := 13) (D := dd) (ci := 1) (v := .int (nI (P))) (C := RX1) (T := TX1) (N := 11) hx hb hts hin hown hK hP 0 rfl rfl 0 (by decide) (hts (.fieldLink RX1 42 "TurningSumsModel" "p" "I") (by decide +kernel)) (fun _ h9 => h9) rfl dX1_degree_13 ?_
    refine nv_iconst (pc := 16) (k := 1) hx hb dX1_degree_16 rfl ?_
    refine nv_isub (pc := 17) hx hb (by omega) dX1_degree_17 ?_
    refine lv_iload_n (pc := 18) hx hb dX1_degree_18 rfl (lv_at hl 1 rfl) ?_
    refine tq_i (y := nI (v.toNat)) (zI_toNat (by omega)) ?_
    refine nv_irem (pc := 19) hx hb (by omega) (by omega) (by omega) dX1_degree_19 ?_
    refine nv_if_eq (pc := 20) (tgt := 26) hx hb (a := ((P - 1) % v.toNat)) (Nat.lt_trans (Nat.mod_lt _ (by omega)) (by omega)) dX1_degree_20 (by decide) (fun h20 => ?_) (fun h20 => ?_)
    · skip
      refine lv_aload_n (pc := 26) hx hb dX1_degree_26 rfl (lv_at hl 0 rfl) ?_
      refine lv_iload_n (pc := 27) hx hb dX1_degree_27 rfl (lv_at hl 1 rfl) ?_
      refine tq_i (pc := 28) (y := nI ((v).toNat)) (zI_toNat (by omega)) ?_
      refine CTv_Vw (pc := 28) am_no_ok (As := [.int (nI ((v).toNat))]) (rest := []) ⟨hx, hb, hml, hown, hts⟩ (c_X1_setDegree l dd (by omega) (by omega)) (cwV 1 hts gX1_degree_X1_setDegree rfl rfl rfl (by decide +kernel) ⟨Nat.le_of_ble_eq_true rfl, Nat.le_of_ble_eq_true rfl⟩) hK hP hD hS hA hX hK 0 1 rfl rfl rfl rfl hl.1 rfl (Nat.le_of_ble_eq_true rfl) ⟨Nat.zero_le _, Nat.zero_le _⟩ dX1_degree_28 (fun u H locs hw hP hD hS => ?_)
      try dsimp only at hw
      obtain ⟨ho28, re28, e9⟩ : ∃ z z2, (z, z2) = u := ⟨_, _, rfl⟩
      rw [← e9] at hw hP hD
      have hw28 := hw
      have hP : va_P dd vwCl (wM ad cI cL (P) ((rootN P)) ((v).toNat) ((phN ((v).toNat))) (ix) (ho28) (re28) (wk) (tu) (wa) (nx)) H := hP
      have hD : va_D A (wM ad cI cL (P) ((rootN P)) ((v).toNat) ((phN ((v).toNat))) (ix) (ho28) (re28) (wk) (tu) (wa) (nx)) := hD
      refine lv_aload_n (pc := 31) hx hb dX1_degree_31 rfl (lv_at hl 0 rfl) ?_
      refine va_get (pc := 32) (D := dd) (ci := 1) (v := .int (nI ((phN ((v).toNat))))) (C := RX1) (T := TX1) (N := 11) hx hb hts hin hown hK hP 0 rfl rfl 3 (by decide) (hts (.fieldLink RX1 55 "TurningSumsModel" "phi" "I") (by decide +kernel)) (fun _ h9 => h9) rfl dX1_degree_32 ?_
      exact hret _ _ _ _ _ ((v).toNat, ho28, re28) (Or.inl ⟨⟨by omega, by omega, h20⟩, rfl, rfl, hw28.1, hw28.2⟩) hP hD hS dX1_degree_35
    · skip
      refine lv_bipush (pc := 23) (v := zI (-3)) hx hb dX1_degree_23 (by decide) ?_
      exact hret _ _ _ _ _ (D, ho, re) (Or.inr ⟨fun z => h20 z.2.2, rfl, rfl⟩) hP hD hS dX1_degree_25
set_option maxHeartbeats 4000000 in
set_option maxRecDepth 100000 in
theorem c_X0_rest (l : Launch) (dd : va_G) {ad : Nat → Nat} {cI cL cQ : ClassId} {tR : Nat}  {ix : Nat → Int32} {pw : Nat → Int32} {sg : Nat → Int32} {tm : Nat → Int32} {hd : Nat → Nat → Int32} {wk : Nat → Int64} {rc : Nat → Int64} {lc : Nat → Int64} {P : Nat} {D : Nat} {x : Int} {what : Int} (hxr : -2147483648 ≤ x ∧ x < 2147483648) (hwr : -2147483648 ≤ what ∧ what < 2147483648) (hP1 : okP P) (hD1 : 1 ≤ D ∧ D ≤ 12) (hix : ∀ y, 1 ≤ y → y < P → ix y = nI (ixN P y)) : CTi l yX0_rest wsX0_rest ({ frames := 1, cells := 0, slots := 0, locals := 22 } : Room) dd (tysA cI cL cQ) (rX tR) [.ref (ad 0), .int (zI (x)), .int (zI (what))] (wC ad cI cL cQ (ix) (pw) (sg) (tm) (hd) (wk) (rc) (lc) (P) ((rootN P)) (D) ((phN D))) (fun (r : Int32) (u : Unit) => r = restS P D x what) (fun (_ : Unit) => (wC ad cI cL cQ (ix) (pw) (sg) (tm) (hd) (wk) (rc) (lc) (P) ((rootN P)) (D) ((phN D)))) := by
  refine CTi_of (cc := cX0_rest) (maxL := 4) (by decide +kernel) rfl (Nat.le_of_ble_eq_true rfl) ?_
  intro p e s m args below meth c A Q ls H locs hx hb hts hown hml hP hK hD hS hA hX hl hret
  have hin : ∀ w ∈ wsX00, w ∈ wsX0_rest := by decide +kernel
  have hl : lv_has ls 4 [(0, .ref (ad 0)), (1, .int (zI (x))), (2, .int (zI (what)))] := hl
  obtain ⟨o1, o2, o3, o4, o5, o6⟩ := id hP1
  have hph := ph_rng D (by omega) hD1.1
  have hm := fmN_lt x (show 0 < P by omega)
  have hlt := ixN_le P (fmN x P)
  refine lv_iload_n (pc := 0) hx hb dX0_rest_0 rfl (lv_at hl 2 rfl) ?_
  refine zv_if_lt (pc := 1) (tgt := 9) hx hb (by omega) dX0_rest_1 (by decide) (fun h1 => ?_) (fun h1 => ?_)
  · skip
    refine lv_bipush (pc := 9) (v := zI (-3)) hx hb dX0_rest_9 (by decide) ?_
    exact hret _ _ _ _ _ (()) (by unfold restS; rw [if_neg (by omega)]) hP hD hS dX0_rest_11
  · skip
    refine lv_iload_n (pc := 4) hx hb dX0_rest_4 rfl (lv_at hl 2 rfl) ?_
    refine nv_iconst (pc := 5) (k := 1) hx hb dX0_rest_5 rfl ?_
    refine zv_2 (pc := 6) (a := ((1 : Nat) : Int)) (b := what) ((nI_zI _)) (rfl) ?_
    refine zv_icmp_le (pc := 6) (tgt := 12) hx hb (by omega) (by omega) dX0_rest_6 (by decide) (fun h6 => ?_) (fun h6 => ?_)
    · skip
      refine lv_iload_n (pc := 12) hx hb dX0_rest_12 rfl (lv_at hl 1 rfl) ?_
      refine lv_aload_n (pc := 13) hx hb dX0_rest_13 rfl (lv_at hl 0 rfl) ?_
      refine va_get (pc := 14) (D := dd) (ci := 0) (v := .int (nI (P))) (C := RX0) (T := TX0) (N := 12) hx hb hts hin hown hK hP 0 rfl rfl 8 (by decide) (hts (.fieldLink RX0 49 "TurningSums" "p" "I") (by decide +kernel)) (fun _ h9 => h9) rfl dX0_rest_14 ?_
      refine CTi_S0 (pc := 17) am_no_ok (As := [.int (zI (x)), .int (nI (P))]) (rest := []) ⟨hx, hb, hml, hown, hts⟩ (c_J9_floorMod_7cf53 l dd (by omega) (by omega) (by omega)) (va_cwS 2 hts gX0_rest_J9_floorMod_7cf53 rfl rfl rfl (by decide +kernel) ⟨Nat.le_of_ble_eq_true rfl, Nat.le_of_ble_eq_true rfl⟩) hK hP hD hS hA trivial rfl hl.1 rfl (Nat.le_of_ble_eq_true rfl) ⟨Nat.zero_le _, Nat.zero_le _⟩ dX0_rest_17 (fun r u H locs hw hP hD hS => ?_)
      try dsimp only at hw
      subst hw
      refine lv_istore_n (pc := 20) (lv' := [(3, .int (nI ((fmN (x) (P))))), (0, .ref (ad 0)), (1, .int (zI (x))), (2, .int (zI (what)))]) hx hb dX0_rest_20 rfl hl (by decide) rfl (fun ls hl => ?_)
      refine lv_iload_n (pc := 21) hx hb dX0_rest_21 rfl (lv_at hl 0 rfl) ?_
      refine nv_if_ne (pc := 22) (tgt := 27) hx hb (a := (fmN (x) (P))) (by omega) dX0_rest_22 (by decide) (fun h22 => ?_) (fun h22 => ?_)
      · skip
        refine lv_iload_n (pc := 27) hx hb dX0_rest_27 rfl (lv_at hl 3 rfl) ?_
        refine zv_if_ne (pc := 28) (tgt := 40) hx hb (by omega) dX0_rest_28 (by decide) (fun h28 => ?_) (fun h28 => ?_)
        · skip
          refine lv_aload_n (pc := 40) hx hb dX0_rest_40 rfl (lv_at hl 1 rfl) ?_
          refine lv_iload_n (pc := 41) hx hb dX0_rest_41 rfl (lv_at hl 0 rfl) ?_
          refine CTi_Vw (pc := 42) (rX_ok tR) (As := [.int (nI ((fmN (x) (P))))]) (rest := []) ⟨hx, hb, hml, hown, hts⟩ (c_X0_classOf l dd ⟨o1, o2, hD1.1, hD1.2, hix⟩ (by rw [Nat.mod_eq_of_lt hm]; exact h22) (by omega)) (cwV 1 hts gX0_rest_X0_classOf rfl rfl rfl (by decide +kernel) ⟨Nat.le_of_ble_eq_true rfl, Nat.le_of_ble_eq_true rfl⟩) hK hP hD hS hA hX hK 0 0 rfl rfl rfl rfl hl.1 rfl (Nat.le_of_ble_eq_true rfl) ⟨Nat.zero_le _, Nat.zero_le _⟩ dX0_rest_42 (fun r u H locs hw hP hD hS => ?_)
          try dsimp only at hw
          subst hw
          exact hret _ _ _ _ _ (()) (by unfold restS; rw [if_pos (by omega), if_neg h22, if_neg h28]) hP hD hS dX0_rest_45
        · skip
          refine lv_aload_n (pc := 31) hx hb dX0_rest_31 rfl (lv_at hl 1 rfl) ?_
          refine va_get (pc := 32) (D := dd) (ci := 0) (v := .ref (ad 1)) (C := RX0) (T := TX0) (N := 12) hx hb hts hin hown hK hP 0 rfl rfl 0 (by decide) (hts (.fieldLink RX0 9 "TurningSums" "indexOf" "[I") (by decide +kernel)) (fun _ h9 => h9) rfl dX0_rest_32 ?_
          refine lv_iload_n (pc := 35) hx hb dX0_rest_35 rfl (lv_at hl 0 rfl) ?_
          refine nv_iald (pc := 36) hx hb hK hP 1 0 rfl rfl (i := (fmN (x) (P))) (by omega) (by decide) (v := nI ((ixN P ((fmN (x) (P)))))) (hix _ (by omega) (by omega)) dX0_rest_36 ?_
          refine lv_goto (pc := 37) (tgt := 45) hx hb dX0_rest_37 (by decide) ?_
          exact hret _ _ _ _ _ (()) (by unfold restS; rw [if_pos (by omega), if_neg h22, if_pos h28]) hP hD hS dX0_rest_45
      · skip
        refine lv_iconst (pc := 25) (v := zI (-1)) hx hb dX0_rest_25 rfl ?_
        exact hret _ _ _ _ _ (()) (by unfold restS; rw [if_pos (by omega), if_pos h22]) hP hD hS dX0_rest_26
    · skip
      refine lv_bipush (pc := 9) (v := zI (-3)) hx hb dX0_rest_9 (by decide) ?_
      exact hret _ _ _ _ _ (()) (by unfold restS; rw [if_neg (by omega)]) hP hD hS dX0_rest_11
set_option maxHeartbeats 4000000 in
set_option maxRecDepth 100000 in
theorem c_X1_rest (l : Launch) (dd : va_G) {ad : Nat → Nat} {cI cL cQ : ClassId}  {P : Nat} {D : Nat} {ix : Nat → Int32} {ho : Nat → Int64} {re : Nat → Int32} {wk : Nat → Int64} {tu : Nat → Int64} {wa : Nat → Int64} {nx : Nat → Int64} {x : Int} {what : Int} (hxr : -2147483648 ≤ x ∧ x < 2147483648) (hwr : -2147483648 ≤ what ∧ what < 2147483648) (hP1 : okP P) (hD1 : 1 ≤ D ∧ D ≤ 12) (hix : ∀ y, 1 ≤ y → y < P → ix y = nI (ixN P y)) : CTi l yX1_rest wsX1_rest ({ frames := 1, cells := 0, slots := 0, locals := 25 } : Room) dd (tysA cI cL cQ) (am_no) [.ref (ad 0), .int (zI (x)), .int (zI (what))] (wM ad cI cL (P) ((rootN P)) (D) ((phN D)) (ix) (ho) (re) (wk) (tu) (wa) (nx)) (fun (r : Int32) (u : Unit) => r = restS P D x what) (fun (_ : Unit) => (wM ad cI cL (P) ((rootN P)) (D) ((phN D)) (ix) (ho) (re) (wk) (tu) (wa) (nx))) := by
  refine CTi_of (cc := cX1_rest) (maxL := 4) (by decide +kernel) rfl (Nat.le_of_ble_eq_true rfl) ?_
  intro p e s m args below meth c A Q ls H locs hx hb hts hown hml hP hK hD hS hA hX hl hret
  have hin : ∀ w ∈ wsX10, w ∈ wsX1_rest := by decide +kernel
  have hl : lv_has ls 4 [(0, .ref (ad 0)), (1, .int (zI (x))), (2, .int (zI (what)))] := hl
  obtain ⟨o1, o2, o3, o4, o5, o6⟩ := id hP1
  have hph := ph_rng D (by omega) hD1.1
  have hm := fmN_lt x (show 0 < P by omega)
  have hlt := ixN_le P (fmN x P)
  refine lv_iload_n (pc := 0) hx hb dX1_rest_0 rfl (lv_at hl 2 rfl) ?_
  refine lv_i2l (pc := 1) (v := zL (what)) hx hb dX1_rest_1 (zL_zI (by omega) (by omega)) ?_
  refine lv_lconst (pc := 2) (v := zL 0) hx hb dX1_rest_2 (by decide) ?_
  refine lv_lconst (pc := 3) (v := zL 1) hx hb dX1_rest_3 (by decide) ?_
  refine CTi_S0 (pc := 4) am_no_ok (As := [.long (zL (what)), .long (zL 0), .long (zL 1)]) (rest := []) ⟨hx, hb, hml, hown, hts⟩ (c_X1_in l dd ) (va_cwS 3 hts gX1_rest_X1_in rfl rfl rfl (by decide +kernel) ⟨Nat.le_of_ble_eq_true rfl, Nat.le_of_ble_eq_true rfl⟩) hK hP hD hS hA hX rfl hl.1 rfl (Nat.le_of_ble_eq_true rfl) ⟨Nat.zero_le _, Nat.zero_le _⟩ dX1_rest_4 (fun r u H locs hw hP hD hS => ?_)
  try dsimp only at hw
  subst hw
  refine bv_if_ne (pc := 7) (tgt := 13) hx hb dX1_rest_7 (by decide) (fun h7 => ?_) (fun h7 => ?_)
  · skip
    rw [zL_le (by omega) (by omega), zL_le (by omega) (by omega)] at h7
    refine lv_iload_n (pc := 13) hx hb dX1_rest_13 rfl (lv_at hl 1 rfl) ?_
    refine lv_i2l (pc := 14) (v := zL (x)) hx hb dX1_rest_14 (zL_zI (by omega) (by omega)) ?_
    refine lv_aload_n (pc := 15) hx hb dX1_rest_15 rfl (lv_at hl 0 rfl) ?_
    refine va_get (pc := 16) (D := dd) (ci := 1) (v := .int (nI (P))) (C := RX1) (T := TX1) (N := 11) hx hb hts hin hown hK hP 0 rfl rfl 0 (by decide) (hts (.fieldLink RX1 42 "TurningSumsModel" "p" "I") (by decide +kernel)) (fun _ h9 => h9) rfl dX1_rest_16 ?_
    refine CTi_S0 (pc := 19) am_no_ok (As := [.long (zL (x)), .int (nI (P))]) (rest := []) ⟨hx, hb, hml, hown, hts⟩ (c_X1_rem l dd (by omega) (by omega) (by omega)) (va_cwS 2 hts gX1_rest_X1_rem rfl rfl rfl (by decide +kernel) ⟨Nat.le_of_ble_eq_true rfl, Nat.le_of_ble_eq_true rfl⟩) hK hP hD hS hA hX rfl hl.1 rfl (Nat.le_of_ble_eq_true rfl) ⟨Nat.zero_le _, Nat.zero_le _⟩ dX1_rest_19 (fun r u H locs hw hP hD hS => ?_)
    try dsimp only at hw
    subst hw
    refine lv_istore_n (pc := 22) (lv' := [(3, .int (nI ((fmN ((x)) (P))))), (0, .ref (ad 0)), (1, .int (zI (x))), (2, .int (zI (what)))]) hx hb dX1_rest_22 rfl hl (by decide) rfl (fun ls hl => ?_)
    refine lv_iload_n (pc := 23) hx hb dX1_rest_23 rfl (lv_at hl 0 rfl) ?_
    refine nv_if_ne (pc := 24) (tgt := 31) hx hb (a := (fmN ((x)) (P))) (by omega) dX1_rest_24 (by decide) (fun h24 => ?_) (fun h24 => ?_)
    · skip
      refine lv_iload_n (pc := 31) hx hb dX1_rest_31 rfl (lv_at hl 3 rfl) ?_
      refine zv_if_ne (pc := 32) (tgt := 44) hx hb (by omega) dX1_rest_32 (by decide) (fun h32 => ?_) (fun h32 => ?_)
      · skip
        refine lv_aload_n (pc := 44) hx hb dX1_rest_44 rfl (lv_at hl 1 rfl) ?_
        refine va_get (pc := 45) (D := dd) (ci := 1) (v := .ref (ad 1)) (C := RX1) (T := TX1) (N := 11) hx hb hts hin hown hK hP 0 rfl rfl 4 (by decide) (hts (.fieldLink RX1 7 "TurningSumsModel" "index" "[I") (by decide +kernel)) (fun _ h9 => h9) rfl dX1_rest_45 ?_
        refine lv_iload_n (pc := 48) hx hb dX1_rest_48 rfl (lv_at hl 0 rfl) ?_
        refine nv_iald (pc := 49) hx hb hK hP 1 0 rfl rfl (i := (fmN ((x)) (P))) (by omega) (by decide) (v := nI ((ixN P ((fmN ((x)) (P)))))) (hix _ (by omega) (by omega)) dX1_rest_49 ?_
        refine lv_aload_n (pc := 50) hx hb dX1_rest_50 rfl (lv_at hl 1 rfl) ?_
        refine va_get (pc := 51) (D := dd) (ci := 1) (v := .int (nI (D))) (C := RX1) (T := TX1) (N := 11) hx hb hts hin hown hK hP 0 rfl rfl 2 (by decide) (hts (.fieldLink RX1 52 "TurningSumsModel" "d" "I") (by decide +kernel)) (fun _ h9 => h9) rfl dX1_rest_51 ?_
        refine nv_irem (pc := 54) hx hb (by omega) (by omega) (by omega) dX1_rest_54 ?_
        exact hret _ _ _ _ _ (()) (by unfold restS; rw [if_pos (by omega), if_neg h24, if_neg h32]; unfold clsN; rw [Nat.mod_eq_of_lt hm]) hP hD hS dX1_rest_55
      · skip
        refine lv_aload_n (pc := 35) hx hb dX1_rest_35 rfl (lv_at hl 1 rfl) ?_
        refine va_get (pc := 36) (D := dd) (ci := 1) (v := .ref (ad 1)) (C := RX1) (T := TX1) (N := 11) hx hb hts hin hown hK hP 0 rfl rfl 4 (by decide) (hts (.fieldLink RX1 7 "TurningSumsModel" "index" "[I") (by decide +kernel)) (fun _ h9 => h9) rfl dX1_rest_36 ?_
        refine lv_iload_n (pc := 39) hx hb dX1_rest_39 rfl (lv_at hl 0 rfl) ?_
        refine nv_iald (pc := 40) hx hb hK hP 1 0 rfl rfl (i := (fmN ((x)) (P))) (by omega) (by decide) (v := nI ((ixN P ((fmN ((x)) (P)))))) (hix _ (by omega) (by omega)) dX1_rest_40 ?_
        refine lv_goto (pc := 41) (tgt := 55) hx hb dX1_rest_41 (by decide) ?_
        exact hret _ _ _ _ _ (()) (by unfold restS; rw [if_pos (by omega), if_neg h24, if_pos h32]) hP hD hS dX1_rest_55
    · skip
      refine lv_iconst (pc := 27) (v := zI (-1)) hx hb dX1_rest_27 rfl ?_
      refine lv_goto (pc := 28) (tgt := 55) hx hb dX1_rest_28 (by decide) ?_
      exact hret _ _ _ _ _ (()) (by unfold restS; rw [if_pos (by omega), if_pos h24]) hP hD hS dX1_rest_55
  · skip
    rw [zL_le (by omega) (by omega), zL_le (by omega) (by omega)] at h7
    refine lv_bipush (pc := 10) (v := zI (-3)) hx hb dX1_rest_10 (by decide) ?_
    exact hret _ _ _ _ _ (()) (by unfold restS; rw [if_neg (by omega)]) hP hD hS dX1_rest_12
set_option maxHeartbeats 4000000 in
set_option maxRecDepth 100000 in
theorem c_X0_meeting (l : Launch) (dd : va_G) {ad : Nat → Nat} {cI cL cQ : ClassId} {tR : Nat}  {ix : Nat → Int32} {pw : Nat → Int32} {sg : Nat → Int32} {tm : Nat → Int32} {hd : Nat → Nat → Int32} {wk : Nat → Int64} {rc : Nat → Int64} {lc : Nat → Int64} {P : Nat} {D : Nat} {i : Int} {j : Int} (hir : -2147483648 ≤ i ∧ i < 2147483648) (hjr : -2147483648 ≤ j ∧ j < 2147483648) (hP1 : okP P) (hD1 : 1 ≤ D ∧ D ≤ 12) (hix : ∀ y, 1 ≤ y → y < P → ix y = nI (ixN P y)) : CTi l yX0_meeting wsX0_meeting ({ frames := 1, cells := 0, slots := 0, locals := 21 } : Room) dd (tysA cI cL cQ) (rX tR) [.ref (ad 0), .int (zI (i)), .int (zI (j))] (wC ad cI cL cQ (ix) (pw) (sg) (tm) (hd) (wk) (rc) (lc) (P) ((rootN P)) (D) ((phN D))) (fun (r : Int32) (u : Unit) => r = mtS P D i j) (fun (_ : Unit) => (wC ad cI cL cQ (ix) (pw) (sg) (tm) (hd) (wk) (rc) (lc) (P) ((rootN P)) (D) ((phN D)))) := by
  refine CTi_of (cc := cX0_meeting) (maxL := 5) (by decide +kernel) rfl (Nat.le_of_ble_eq_true rfl) ?_
  intro p e s m args below meth c A Q ls H locs hx hb hts hown hml hP hK hD hS hA hX hl hret
  have hin : ∀ w ∈ wsX00, w ∈ wsX0_meeting := by decide +kernel
  have hl : lv_has ls 5 [(0, .ref (ad 0)), (1, .int (zI (i))), (2, .int (zI (j)))] := hl
  obtain ⟨o1, o2, o3, o4, o5, o6⟩ := id hP1
  have hph := ph_rng D (by omega) hD1.1
  refine lv_aload_n (pc := 0) hx hb dX0_meeting_0 rfl (lv_at hl 0 rfl) ?_
  refine lv_iload_n (pc := 1) hx hb dX0_meeting_1 rfl (lv_at hl 1 rfl) ?_
  refine CTi_Vw (pc := 2) (rX_ok tR) (As := [.int (zI (i))]) (rest := []) ⟨hx, hb, hml, hown, hts⟩ (c_X0_isClass l dd (by omega) (by omega)) (cwV 1 hts gX0_meeting_X0_isClass rfl rfl rfl (by decide +kernel) ⟨Nat.le_of_ble_eq_true rfl, Nat.le_of_ble_eq_true rfl⟩) hK hP hD hS hA hX hK 0 0 rfl rfl rfl rfl hl.1 rfl (Nat.le_of_ble_eq_true rfl) ⟨Nat.zero_le _, Nat.zero_le _⟩ dX0_meeting_2 (fun r u H locs hw hP hD hS => ?_)
  try dsimp only at hw
  subst hw
  refine bv_if_eq (pc := 5) (tgt := 16) hx hb dX0_meeting_5 (by decide) (fun h5 => ?_) (fun h5 => ?_)
  · skip
    refine lv_bipush (pc := 16) (v := zI (-2)) hx hb dX0_meeting_16 (by decide) ?_
    exact hret _ _ _ _ _ (()) (by unfold mtS; rw [if_neg (by omega)]) hP hD hS dX0_meeting_18
  · skip
    refine lv_aload_n (pc := 8) hx hb dX0_meeting_8 rfl (lv_at hl 0 rfl) ?_
    refine lv_iload_n (pc := 9) hx hb dX0_meeting_9 rfl (lv_at hl 2 rfl) ?_
    refine CTi_Vw (pc := 10) (rX_ok tR) (As := [.int (zI (j))]) (rest := []) ⟨hx, hb, hml, hown, hts⟩ (c_X0_isClass l dd (by omega) (by omega)) (cwV 1 hts gX0_meeting_X0_isClass rfl rfl rfl (by decide +kernel) ⟨Nat.le_of_ble_eq_true rfl, Nat.le_of_ble_eq_true rfl⟩) hK hP hD hS hA hX hK 0 0 rfl rfl rfl rfl hl.1 rfl (Nat.le_of_ble_eq_true rfl) ⟨Nat.zero_le _, Nat.zero_le _⟩ dX0_meeting_10 (fun r u H locs hw hP hD hS => ?_)
    try dsimp only at hw
    subst hw
    refine bv_if_ne (pc := 13) (tgt := 19) hx hb dX0_meeting_13 (by decide) (fun h13 => ?_) (fun h13 => ?_)
    · skip
      refine nv_iconst (pc := 19) (k := 0) hx hb dX0_meeting_19 rfl ?_
      refine lv_istore_n (pc := 20) (lv' := [(3, .int (nI (0))), (0, .ref (ad 0)), (1, .int (zI (i))), (2, .int (zI (j)))]) hx hb dX0_meeting_20 rfl hl (by decide) rfl (fun ls hl => ?_)
      refine nv_iconst (pc := 21) (k := 1) hx hb dX0_meeting_21 rfl ?_
      refine lv_istore (pc := 22) (lv' := [(4, .int (nI (1))), (3, .int (nI (0))), (0, .ref (ad 0)), (1, .int (zI (i))), (2, .int (zI (j)))]) hx hb dX0_meeting_22 hl (by decide) rfl (fun ls hl => ?_)
      have L24 : ∀ (n9_24 : Nat), ∀ (x : Nat) (n : Nat), P - x < n9_24 → (1 ≤ x ∧ x ≤ P - 1) → (n = mtC P D i j x) → ∀ (H : Heap) (locs : List Loc) (ls : Array Slot), va_P dd vwCl (wC ad cI cL cQ (ix) (pw) (sg) (tm) (hd) (wk) (rc) (lc) (P) ((rootN P)) (D) ((phN D))) H → va_D A (wC ad cI cL cQ (ix) (pw) (sg) (tm) (hd) (wk) (rc) (lc) (P) ((rootN P)) (D) ((phN D))) → va_S A s.heap H locs → lv_has ls 5 [(0, .ref (ad 0)), (1, .int (zI (i))), (2, .int (zI (j))), (3, .int (nI (n))), (4, .int (nI (x)))] → W p l e ({ frames := 1, cells := 0, slots := 0, locals := 21 } : Room) s m args below meth c H locs 0 0 Q (F0 m 24 ls []) := by
        intro n9_24
        induction n9_24 with
        | zero => intro x n hm; exact absurd hm (Nat.not_lt_zero _)
        | succ n9_24 ih_24 =>
          intro x n hm_24 hx9 hn H locs ls hP hD hS hl
          have hb9 := mtC_le P D i j x
          have hc1 : clsN P D x < D := Nat.mod_lt _ (by omega)
          have hc2 : clsN P D (x + 1) < D := Nat.mod_lt _ (by omega)
          refine lv_iload (pc := 24) hx hb dX0_meeting_24 (lv_at hl 4 rfl) ?_
          refine lv_aload_n (pc := 26) hx hb dX0_meeting_26 rfl (lv_at hl 0 rfl) ?_
          refine va_get (pc := 27) (D := dd) (ci := 0) (v := .int (nI (P))) (C := RX0) (T := TX0) (N := 12) hx hb hts hin hown hK hP 0 rfl rfl 8 (by decide) (hts (.fieldLink RX0 49 "TurningSums" "p" "I") (by decide +kernel)) (fun _ h9 => h9) rfl dX0_meeting_27 ?_
          refine nv_iconst (pc := 30) (k := 1) hx hb dX0_meeting_30 rfl ?_
          refine nv_isub (pc := 31) hx hb (by omega) dX0_meeting_31 ?_
          refine nv_icmp_ge (pc := 32) (tgt := 66) hx hb (a := x) (b := (P - 1)) (by omega) (by omega) dX0_meeting_32 (by decide) (fun h32 => ?_) (fun h32 => ?_)
          · skip
            refine lv_iload_n (pc := 66) hx hb dX0_meeting_66 rfl (lv_at hl 3 rfl) ?_
            exact hret _ _ _ _ _ (()) (by unfold mtS; rw [if_pos (by omega), hn, show x = P - 1 by omega]) hP hD hS dX0_meeting_67
          · skip
            refine lv_aload_n (pc := 35) hx hb dX0_meeting_35 rfl (lv_at hl 0 rfl) ?_
            refine lv_iload (pc := 36) hx hb dX0_meeting_36 (lv_at hl 4 rfl) ?_
            refine CTi_Vw (pc := 38) (rX_ok tR) (As := [.int (nI (x))]) (rest := []) ⟨hx, hb, hml, hown, hts⟩ (c_X0_classOf l dd ⟨o1, o2, hD1.1, hD1.2, hix⟩ (by rw [Nat.mod_eq_of_lt (by omega)]; omega) (by omega)) (cwV 1 hts gX0_meeting_X0_classOf rfl rfl rfl (by decide +kernel) ⟨Nat.le_of_ble_eq_true rfl, Nat.le_of_ble_eq_true rfl⟩) hK hP hD hS hA hX hK 0 0 rfl rfl rfl rfl hl.1 rfl (Nat.le_of_ble_eq_true rfl) ⟨Nat.zero_le _, Nat.zero_le _⟩ dX0_meeting_38 (fun r u H locs hw hP hD hS => ?_)
            try dsimp only at hw
            subst hw
            refine lv_iload_n (pc := 41) hx hb dX0_meeting_41 rfl (lv_at hl 1 rfl) ?_
            refine zv_2 (pc := 42) (a := i) (b := (((clsN P D (x)) : Nat) : Int)) (rfl) ((nI_zI _)) ?_
            refine zv_icmp_ne (pc := 42) (tgt := 60) hx hb (by omega) (by omega) dX0_meeting_42 (by decide) (fun h42 => ?_) (fun h42 => ?_)
            · skip
              refine lv_iinc (pc := 60) (v := nI ((x + 1))) (lv' := [(4, .int (nI ((x + 1)))), (0, .ref (ad 0)), (1, .int (zI (i))), (2, .int (zI (j))), (3, .int (nI (n)))]) hx hb dX0_meeting_60 hl (k := 4) rfl (nI_inc _) (by decide) rfl (fun ls hl => ?_)
              refine lv_goto (pc := 63) (tgt := 24) hx hb dX0_meeting_63 (by decide) ?_
              exact ih_24 ((x + 1)) (n) (by omega) (by omega) (by rw [mtC_0 (by omega)]; exact hn) _ _ _ hP hD hS (lv_sub hl [1, 2, 3, 4, 0] rfl)
            · skip
              refine lv_aload_n (pc := 45) hx hb dX0_meeting_45 rfl (lv_at hl 0 rfl) ?_
              refine lv_iload (pc := 46) hx hb dX0_meeting_46 (lv_at hl 4 rfl) ?_
              refine nv_iconst (pc := 48) (k := 1) hx hb dX0_meeting_48 rfl ?_
              refine nv_iadd (pc := 49) hx hb dX0_meeting_49 ?_
              refine CTi_Vw (pc := 50) (rX_ok tR) (As := [.int (nI ((x + 1)))]) (rest := []) ⟨hx, hb, hml, hown, hts⟩ (c_X0_classOf l dd ⟨o1, o2, hD1.1, hD1.2, hix⟩ (by rw [Nat.mod_eq_of_lt (by omega)]; omega) (by omega)) (cwV 1 hts gX0_meeting_X0_classOf rfl rfl rfl (by decide +kernel) ⟨Nat.le_of_ble_eq_true rfl, Nat.le_of_ble_eq_true rfl⟩) hK hP hD hS hA hX hK 0 0 rfl rfl rfl rfl hl.1 rfl (Nat.le_of_ble_eq_true rfl) ⟨Nat.zero_le _, Nat.zero_le _⟩ dX0_meeting_50 (fun r u H locs hw hP hD hS => ?_)
              try dsimp only at hw
              subst hw
              refine lv_iload_n (pc := 53) hx hb dX0_meeting_53 rfl (lv_at hl 2 rfl) ?_
              refine zv_2 (pc := 54) (a := j) (b := (((clsN P D ((x + 1))) : Nat) : Int)) (rfl) ((nI_zI _)) ?_
              refine zv_icmp_ne (pc := 54) (tgt := 60) hx hb (by omega) (by omega) dX0_meeting_54 (by decide) (fun h54 => ?_) (fun h54 => ?_)
              · skip
                refine lv_iinc (pc := 60) (v := nI ((x + 1))) (lv' := [(4, .int (nI ((x + 1)))), (0, .ref (ad 0)), (1, .int (zI (i))), (2, .int (zI (j))), (3, .int (nI (n)))]) hx hb dX0_meeting_60 hl (k := 4) rfl (nI_inc _) (by decide) rfl (fun ls hl => ?_)
                refine lv_goto (pc := 63) (tgt := 24) hx hb dX0_meeting_63 (by decide) ?_
                exact ih_24 ((x + 1)) (n) (by omega) (by omega) (by rw [mtC_0 (by omega)]; exact hn) _ _ _ hP hD hS (lv_sub hl [1, 2, 3, 4, 0] rfl)
              · skip
                refine lv_iinc (pc := 57) (v := nI ((n + 1))) (lv' := [(3, .int (nI ((n + 1)))), (0, .ref (ad 0)), (1, .int (zI (i))), (2, .int (zI (j))), (4, .int (nI (x)))]) hx hb dX0_meeting_57 hl (k := 3) rfl (nI_inc _) (by decide) rfl (fun ls hl => ?_)
                refine lv_iinc (pc := 60) (v := nI ((x + 1))) (lv' := [(4, .int (nI ((x + 1)))), (3, .int (nI ((n + 1)))), (0, .ref (ad 0)), (1, .int (zI (i))), (2, .int (zI (j)))]) hx hb dX0_meeting_60 hl (k := 4) rfl (nI_inc _) (by decide) rfl (fun ls hl => ?_)
                refine lv_goto (pc := 63) (tgt := 24) hx hb dX0_meeting_63 (by decide) ?_
                exact ih_24 ((x + 1)) ((n + 1)) (by omega) (by omega) (by rw [mtC_1 ⟨by omega, by omega, by omega⟩, hn]) _ _ _ hP hD hS (lv_sub hl [2, 3, 4, 1, 0] rfl)
      exact L24 _ (1) (0) (Nat.lt_succ_self _) (by omega) (rfl) _ _ _ hP hD hS (lv_sub hl [2, 3, 4, 1, 0] rfl)
    · skip
      refine lv_bipush (pc := 16) (v := zI (-2)) hx hb dX0_meeting_16 (by decide) ?_
      exact hret _ _ _ _ _ (()) (by unfold mtS; rw [if_neg (by omega)]) hP hD hS dX0_meeting_18
set_option maxHeartbeats 4000000 in
set_option maxRecDepth 100000 in
theorem c_X1_meeting (l : Launch) (dd : va_G) {ad : Nat → Nat} {cI cL cQ : ClassId}  {P : Nat} {D : Nat} {ix : Nat → Int32} {ho : Nat → Int64} {re : Nat → Int32} {wk : Nat → Int64} {tu : Nat → Int64} {wa : Nat → Int64} {nx : Nat → Int64} {i : Int} {j : Int} (hir : -2147483648 ≤ i ∧ i < 2147483648) (hjr : -2147483648 ≤ j ∧ j < 2147483648) (hP1 : okP P) (hD1 : 1 ≤ D ∧ D ≤ 12) (hix : ∀ y, 1 ≤ y → y < P → ix y = nI (ixN P y)) : CTi l yX1_meeting wsX1_meeting ({ frames := 1, cells := 0, slots := 0, locals := 25 } : Room) dd (tysA cI cL cQ) (am_no) [.ref (ad 0), .int (zI (i)), .int (zI (j))] (wM ad cI cL (P) ((rootN P)) (D) ((phN D)) (ix) (ho) (re) (wk) (tu) (wa) (nx)) (fun (r : Int32) (u : Unit) => r = mtS P D i j) (fun (_ : Unit) => (wM ad cI cL (P) ((rootN P)) (D) ((phN D)) (ix) (ho) (re) (wk) (tu) (wa) (nx))) := by
  refine CTi_of (cc := cX1_meeting) (maxL := 5) (by decide +kernel) rfl (Nat.le_of_ble_eq_true rfl) ?_
  intro p e s m args below meth c A Q ls H locs hx hb hts hown hml hP hK hD hS hA hX hl hret
  have hin : ∀ w ∈ wsX10, w ∈ wsX1_meeting := by decide +kernel
  have hl : lv_has ls 5 [(0, .ref (ad 0)), (1, .int (zI (i))), (2, .int (zI (j)))] := hl
  obtain ⟨o1, o2, o3, o4, o5, o6⟩ := id hP1
  have hph := ph_rng D (by omega) hD1.1
  refine lv_iload_n (pc := 0) hx hb dX1_meeting_0 rfl (lv_at hl 1 rfl) ?_
  refine lv_i2l (pc := 1) (v := zL (i)) hx hb dX1_meeting_1 (zL_zI (by omega) (by omega)) ?_
  refine lv_lconst (pc := 2) (v := zL 0) hx hb dX1_meeting_2 (by decide) ?_
  refine lv_aload_n (pc := 3) hx hb dX1_meeting_3 rfl (lv_at hl 0 rfl) ?_
  refine va_get (pc := 4) (D := dd) (ci := 1) (v := .int (nI (D))) (C := RX1) (T := TX1) (N := 11) hx hb hts hin hown hK hP 0 rfl rfl 2 (by decide) (hts (.fieldLink RX1 52 "TurningSumsModel" "d" "I") (by decide +kernel)) (fun _ h9 => h9) rfl dX1_meeting_4 ?_
  refine nv_iconst (pc := 7) (k := 1) hx hb dX1_meeting_7 rfl ?_
  refine nv_isub (pc := 8) hx hb (by omega) dX1_meeting_8 ?_
  refine lv_i2l (pc := 9) (v := zL (((D - 1) : Nat) : Int)) hx hb dX1_meeting_9 (zL_nI (by omega)) ?_
  refine CTi_S0 (pc := 10) am_no_ok (As := [.long (zL (i)), .long (zL 0), .long (zL (((D - 1) : Nat) : Int))]) (rest := []) ⟨hx, hb, hml, hown, hts⟩ (c_X1_in l dd ) (va_cwS 3 hts gX1_meeting_X1_in rfl rfl rfl (by decide +kernel) ⟨Nat.le_of_ble_eq_true rfl, Nat.le_of_ble_eq_true rfl⟩) hK hP hD hS hA hX rfl hl.1 rfl (Nat.le_of_ble_eq_true rfl) ⟨Nat.zero_le _, Nat.zero_le _⟩ dX1_meeting_10 (fun r u H locs hw hP hD hS => ?_)
  try dsimp only at hw
  subst hw
  refine bv_if_eq (pc := 13) (tgt := 32) hx hb dX1_meeting_13 (by decide) (fun h13 => ?_) (fun h13 => ?_)
  · skip
    rw [zL_le (by omega) (by omega), zL_le (by omega) (by omega)] at h13
    refine lv_bipush (pc := 32) (v := zI (-2)) hx hb dX1_meeting_32 (by decide) ?_
    exact hret _ _ _ _ _ (()) (by unfold mtS; rw [if_neg (by omega)]) hP hD hS dX1_meeting_34
  · skip
    rw [zL_le (by omega) (by omega), zL_le (by omega) (by omega)] at h13
    refine lv_iload_n (pc := 16) hx hb dX1_meeting_16 rfl (lv_at hl 2 rfl) ?_
    refine lv_i2l (pc := 17) (v := zL (j)) hx hb dX1_meeting_17 (zL_zI (by omega) (by omega)) ?_
    refine lv_lconst (pc := 18) (v := zL 0) hx hb dX1_meeting_18 (by decide) ?_
    refine lv_aload_n (pc := 19) hx hb dX1_meeting_19 rfl (lv_at hl 0 rfl) ?_
    refine va_get (pc := 20) (D := dd) (ci := 1) (v := .int (nI (D))) (C := RX1) (T := TX1) (N := 11) hx hb hts hin hown hK hP 0 rfl rfl 2 (by decide) (hts (.fieldLink RX1 52 "TurningSumsModel" "d" "I") (by decide +kernel)) (fun _ h9 => h9) rfl dX1_meeting_20 ?_
    refine nv_iconst (pc := 23) (k := 1) hx hb dX1_meeting_23 rfl ?_
    refine nv_isub (pc := 24) hx hb (by omega) dX1_meeting_24 ?_
    refine lv_i2l (pc := 25) (v := zL (((D - 1) : Nat) : Int)) hx hb dX1_meeting_25 (zL_nI (by omega)) ?_
    refine CTi_S0 (pc := 26) am_no_ok (As := [.long (zL (j)), .long (zL 0), .long (zL (((D - 1) : Nat) : Int))]) (rest := []) ⟨hx, hb, hml, hown, hts⟩ (c_X1_in l dd ) (va_cwS 3 hts gX1_meeting_X1_in rfl rfl rfl (by decide +kernel) ⟨Nat.le_of_ble_eq_true rfl, Nat.le_of_ble_eq_true rfl⟩) hK hP hD hS hA hX rfl hl.1 rfl (Nat.le_of_ble_eq_true rfl) ⟨Nat.zero_le _, Nat.zero_le _⟩ dX1_meeting_26 (fun r u H locs hw hP hD hS => ?_)
    try dsimp only at hw
    subst hw
    refine bv_if_ne (pc := 29) (tgt := 35) hx hb dX1_meeting_29 (by decide) (fun h29 => ?_) (fun h29 => ?_)
    · skip
      rw [zL_le (by omega) (by omega), zL_le (by omega) (by omega)] at h29
      refine nv_iconst (pc := 35) (k := 0) hx hb dX1_meeting_35 rfl ?_
      refine lv_istore_n (pc := 36) (lv' := [(3, .int (nI (0))), (0, .ref (ad 0)), (1, .int (zI (i))), (2, .int (zI (j)))]) hx hb dX1_meeting_36 rfl hl (by decide) rfl (fun ls hl => ?_)
      refine nv_iconst (pc := 37) (k := 1) hx hb dX1_meeting_37 rfl ?_
      refine lv_istore (pc := 38) (lv' := [(4, .int (nI (1))), (3, .int (nI (0))), (0, .ref (ad 0)), (1, .int (zI (i))), (2, .int (zI (j)))]) hx hb dX1_meeting_38 hl (by decide) rfl (fun ls hl => ?_)
      have L40 : ∀ (n9_40 : Nat), ∀ (x : Nat) (n : Nat), P - x < n9_40 → (1 ≤ x ∧ x ≤ P - 1) → (n = mtC P D i j x) → ∀ (H : Heap) (locs : List Loc) (ls : Array Slot), va_P dd vwCl (wM ad cI cL (P) ((rootN P)) (D) ((phN D)) (ix) (ho) (re) (wk) (tu) (wa) (nx)) H → va_D A (wM ad cI cL (P) ((rootN P)) (D) ((phN D)) (ix) (ho) (re) (wk) (tu) (wa) (nx)) → va_S A s.heap H locs → lv_has ls 5 [(0, .ref (ad 0)), (1, .int (zI (i))), (2, .int (zI (j))), (3, .int (nI (n))), (4, .int (nI (x)))] → W p l e ({ frames := 1, cells := 0, slots := 0, locals := 25 } : Room) s m args below meth c H locs 0 0 Q (F0 m 40 ls []) := by
        intro n9_40
        induction n9_40 with
        | zero => intro x n hm; exact absurd hm (Nat.not_lt_zero _)
        | succ n9_40 ih_40 =>
          intro x n hm_40 hx9 hn H locs ls hP hD hS hl
          have hb9 := mtC_le P D i j x
          have hc1 : clsN P D x < D := Nat.mod_lt _ (by omega)
          have hc2 : clsN P D (x + 1) < D := Nat.mod_lt _ (by omega)
          refine lv_iload (pc := 40) hx hb dX1_meeting_40 (lv_at hl 4 rfl) ?_
          refine lv_aload_n (pc := 42) hx hb dX1_meeting_42 rfl (lv_at hl 0 rfl) ?_
          refine va_get (pc := 43) (D := dd) (ci := 1) (v := .int (nI (P))) (C := RX1) (T := TX1) (N := 11) hx hb hts hin hown hK hP 0 rfl rfl 0 (by decide) (hts (.fieldLink RX1 42 "TurningSumsModel" "p" "I") (by decide +kernel)) (fun _ h9 => h9) rfl dX1_meeting_43 ?_
          refine nv_iconst (pc := 46) (k := 1) hx hb dX1_meeting_46 rfl ?_
          refine nv_isub (pc := 47) hx hb (by omega) dX1_meeting_47 ?_
          refine nv_icmp_ge (pc := 48) (tgt := 87) hx hb (a := x) (b := (P - 1)) (by omega) (by omega) dX1_meeting_48 (by decide) (fun h48 => ?_) (fun h48 => ?_)
          · skip
            refine lv_iload_n (pc := 87) hx hb dX1_meeting_87 rfl (lv_at hl 3 rfl) ?_
            exact hret _ _ _ _ _ (()) (by unfold mtS; rw [if_pos (by omega), hn, show x = P - 1 by omega]) hP hD hS dX1_meeting_88
          · skip
            refine lv_iload_n (pc := 51) hx hb dX1_meeting_51 rfl (lv_at hl 3 rfl) ?_
            refine lv_aload_n (pc := 52) hx hb dX1_meeting_52 rfl (lv_at hl 0 rfl) ?_
            refine lv_iload (pc := 53) hx hb dX1_meeting_53 (lv_at hl 4 rfl) ?_
            refine CTi_Vw (pc := 55) am_no_ok (As := [.int (nI (x))]) (rest := [.int (nI (n))]) ⟨hx, hb, hml, hown, hts⟩ (c_X1_classOf l dd ⟨o1, o2, hD1.1, hD1.2, hix⟩ (by omega) (by omega)) (cwV 1 hts gX1_meeting_X1_classOf rfl rfl rfl (by decide +kernel) ⟨Nat.le_of_ble_eq_true rfl, Nat.le_of_ble_eq_true rfl⟩) hK hP hD hS hA hX hK 0 1 rfl rfl rfl rfl hl.1 rfl (Nat.le_of_ble_eq_true rfl) ⟨Nat.zero_le _, Nat.zero_le _⟩ dX1_meeting_55 (fun r u H locs hw hP hD hS => ?_)
            try dsimp only at hw
            subst hw
            refine lv_iload_n (pc := 58) hx hb dX1_meeting_58 rfl (lv_at hl 1 rfl) ?_
            refine zv_2 (pc := 59) (a := i) (b := (((clsN P D (x)) : Nat) : Int)) (rfl) ((nI_zI _)) ?_
            refine zv_icmp_ne (pc := 59) (tgt := 78) hx hb (by omega) (by omega) dX1_meeting_59 (by decide) (fun h59 => ?_) (fun h59 => ?_)
            · skip
              refine nv_iconst (pc := 78) (k := 0) hx hb dX1_meeting_78 rfl ?_
              refine nv_iadd (pc := 79) hx hb dX1_meeting_79 ?_
              refine lv_istore_n (pc := 80) (lv' := [(3, .int (nI ((n + 0)))), (0, .ref (ad 0)), (1, .int (zI (i))), (2, .int (zI (j))), (4, .int (nI (x)))]) hx hb dX1_meeting_80 rfl hl (by decide) rfl (fun ls hl => ?_)
              refine lv_iinc (pc := 81) (v := nI ((x + 1))) (lv' := [(4, .int (nI ((x + 1)))), (3, .int (nI ((n + 0)))), (0, .ref (ad 0)), (1, .int (zI (i))), (2, .int (zI (j)))]) hx hb dX1_meeting_81 hl (k := 4) rfl (nI_inc _) (by decide) rfl (fun ls hl => ?_)
              refine lv_goto (pc := 84) (tgt := 40) hx hb dX1_meeting_84 (by decide) ?_
              exact ih_40 ((x + 1)) ((n + 0)) (by omega) (by omega) (by rw [mtC_0 (by omega)]; exact hn) _ _ _ hP hD hS (lv_sub hl [2, 3, 4, 1, 0] rfl)
            · skip
              refine lv_aload_n (pc := 62) hx hb dX1_meeting_62 rfl (lv_at hl 0 rfl) ?_
              refine lv_iload (pc := 63) hx hb dX1_meeting_63 (lv_at hl 4 rfl) ?_
              refine nv_iconst (pc := 65) (k := 1) hx hb dX1_meeting_65 rfl ?_
              refine nv_iadd (pc := 66) hx hb dX1_meeting_66 ?_
              refine CTi_Vw (pc := 67) am_no_ok (As := [.int (nI ((x + 1)))]) (rest := [.int (nI (n))]) ⟨hx, hb, hml, hown, hts⟩ (c_X1_classOf l dd ⟨o1, o2, hD1.1, hD1.2, hix⟩ (by omega) (by omega)) (cwV 1 hts gX1_meeting_X1_classOf rfl rfl rfl (by decide +kernel) ⟨Nat.le_of_ble_eq_true rfl, Nat.le_of_ble_eq_true rfl⟩) hK hP hD hS hA hX hK 0 1 rfl rfl rfl rfl hl.1 rfl (Nat.le_of_ble_eq_true rfl) ⟨Nat.zero_le _, Nat.zero_le _⟩ dX1_meeting_67 (fun r u H locs hw hP hD hS => ?_)
              try dsimp only at hw
              subst hw
              refine lv_iload_n (pc := 70) hx hb dX1_meeting_70 rfl (lv_at hl 2 rfl) ?_
              refine zv_2 (pc := 71) (a := j) (b := (((clsN P D ((x + 1))) : Nat) : Int)) (rfl) ((nI_zI _)) ?_
              refine zv_icmp_ne (pc := 71) (tgt := 78) hx hb (by omega) (by omega) dX1_meeting_71 (by decide) (fun h71 => ?_) (fun h71 => ?_)
              · skip
                refine nv_iconst (pc := 78) (k := 0) hx hb dX1_meeting_78 rfl ?_
                refine nv_iadd (pc := 79) hx hb dX1_meeting_79 ?_
                refine lv_istore_n (pc := 80) (lv' := [(3, .int (nI ((n + 0)))), (0, .ref (ad 0)), (1, .int (zI (i))), (2, .int (zI (j))), (4, .int (nI (x)))]) hx hb dX1_meeting_80 rfl hl (by decide) rfl (fun ls hl => ?_)
                refine lv_iinc (pc := 81) (v := nI ((x + 1))) (lv' := [(4, .int (nI ((x + 1)))), (3, .int (nI ((n + 0)))), (0, .ref (ad 0)), (1, .int (zI (i))), (2, .int (zI (j)))]) hx hb dX1_meeting_81 hl (k := 4) rfl (nI_inc _) (by decide) rfl (fun ls hl => ?_)
                refine lv_goto (pc := 84) (tgt := 40) hx hb dX1_meeting_84 (by decide) ?_
                exact ih_40 ((x + 1)) ((n + 0)) (by omega) (by omega) (by rw [mtC_0 (by omega)]; exact hn) _ _ _ hP hD hS (lv_sub hl [2, 3, 4, 1, 0] rfl)
              · skip
                refine nv_iconst (pc := 74) (k := 1) hx hb dX1_meeting_74 rfl ?_
                refine lv_goto (pc := 75) (tgt := 79) hx hb dX1_meeting_75 (by decide) ?_
                refine nv_iadd (pc := 79) hx hb dX1_meeting_79 ?_
                refine lv_istore_n (pc := 80) (lv' := [(3, .int (nI ((n + 1)))), (0, .ref (ad 0)), (1, .int (zI (i))), (2, .int (zI (j))), (4, .int (nI (x)))]) hx hb dX1_meeting_80 rfl hl (by decide) rfl (fun ls hl => ?_)
                refine lv_iinc (pc := 81) (v := nI ((x + 1))) (lv' := [(4, .int (nI ((x + 1)))), (3, .int (nI ((n + 1)))), (0, .ref (ad 0)), (1, .int (zI (i))), (2, .int (zI (j)))]) hx hb dX1_meeting_81 hl (k := 4) rfl (nI_inc _) (by decide) rfl (fun ls hl => ?_)
                refine lv_goto (pc := 84) (tgt := 40) hx hb dX1_meeting_84 (by decide) ?_
                exact ih_40 ((x + 1)) ((n + 1)) (by omega) (by omega) (by rw [mtC_1 ⟨by omega, by omega, by omega⟩, hn]) _ _ _ hP hD hS (lv_sub hl [2, 3, 4, 1, 0] rfl)
      exact L40 _ (1) (0) (Nat.lt_succ_self _) (by omega) (rfl) _ _ _ hP hD hS (lv_sub hl [2, 3, 4, 1, 0] rfl)
    · skip
      rw [zL_le (by omega) (by omega), zL_le (by omega) (by omega)] at h29
      refine lv_bipush (pc := 32) (v := zI (-2)) hx hb dX1_meeting_32 (by decide) ?_
      exact hret _ _ _ _ _ (()) (by unfold mtS; rw [if_neg (by omega)]) hP hD hS dX1_meeting_34
set_option maxHeartbeats 4000000 in
set_option maxRecDepth 100000 in
theorem c_X0_count (l : Launch) (dd : va_G) {ad : Nat → Nat} {cI cL cQ : ClassId} {tR : Nat}  {ix : Nat → Int32} {pw : Nat → Int32} {sg : Nat → Int32} {tm : Nat → Int32} {hd : Nat → Nat → Int32} {wk : Nat → Int64} {rc : Nat → Int64} {lc : Nat → Int64} {P : Nat} {D : Nat} {what : Int} (hwr : -2147483648 ≤ what ∧ what < 2147483648) : CTi l yX0_count wsX0_count ({ frames := 0, cells := 0, slots := 0, locals := 0 } : Room) dd (tysA cI cL cQ) (rX tR) [.ref (ad 0), .int (zI (what))] (wC ad cI cL cQ (ix) (pw) (sg) (tm) (hd) (wk) (rc) (lc) (P) ((rootN P)) (D) ((phN D))) (fun (r : Int32) (u : Unit) => r = ctS P D what) (fun (_ : Unit) => (wC ad cI cL cQ (ix) (pw) (sg) (tm) (hd) (wk) (rc) (lc) (P) ((rootN P)) (D) ((phN D)))) := by
  refine CTi_of (cc := cX0_count) (maxL := 2) (by decide +kernel) rfl (Nat.le_of_ble_eq_true rfl) ?_
  intro p e s m args below meth c A Q ls H locs hx hb hts hown hml hP hK hD hS hA hX hl hret
  have hin : ∀ w ∈ wsX00, w ∈ wsX0_count := by decide +kernel
  have hl : lv_has ls 2 [(0, .ref (ad 0)), (1, .int (zI (what)))] := hl
  refine lv_iload_n (pc := 0) hx hb dX0_count_0 rfl (lv_at hl 1 rfl) ?_
  rcases (show what = 0 ∨ what = 1 ∨ what = 2 ∨ what = 3 ∨ (what < 0 ∨ 3 < what) by omega) with h1 | h1 | h1 | h1 | h1
  · skip
    refine tq_i (y := zI 0) (by rw [h1]) ?_
    refine lv_tableIn (pc := 1) (tgt := 32) hx hb dX0_count_1 (by decide) (by decide) rfl (by decide) ?_
    refine lv_aload_n (pc := 32) hx hb dX0_count_32 rfl (lv_at hl 0 rfl) ?_
    refine va_get (pc := 33) (D := dd) (ci := 0) (v := .int (nI (P))) (C := RX0) (T := TX0) (N := 12) hx hb hts hin hown hK hP 0 rfl rfl 8 (by decide) (hts (.fieldLink RX0 49 "TurningSums" "p" "I") (by decide +kernel)) (fun _ h9 => h9) rfl dX0_count_33 ?_
    exact hret _ _ _ _ _ (()) (by rw [h1]; rfl) hP hD hS dX0_count_36
  · skip
    refine tq_i (y := zI 1) (by rw [h1]) ?_
    refine lv_tableIn (pc := 1) (tgt := 37) hx hb dX0_count_1 (by decide) (by decide) rfl (by decide) ?_
    refine lv_aload_n (pc := 37) hx hb dX0_count_37 rfl (lv_at hl 0 rfl) ?_
    refine va_get (pc := 38) (D := dd) (ci := 0) (v := .int (nI ((rootN P)))) (C := RX0) (T := TX0) (N := 12) hx hb hts hin hown hK hP 0 rfl rfl 9 (by decide) (hts (.fieldLink RX0 45 "TurningSums" "root" "I") (by decide +kernel)) (fun _ h9 => h9) rfl dX0_count_38 ?_
    exact hret _ _ _ _ _ (()) (by rw [h1]; rfl) hP hD hS dX0_count_41
  · skip
    refine tq_i (y := zI 2) (by rw [h1]) ?_
    refine lv_tableIn (pc := 1) (tgt := 42) hx hb dX0_count_1 (by decide) (by decide) rfl (by decide) ?_
    refine lv_aload_n (pc := 42) hx hb dX0_count_42 rfl (lv_at hl 0 rfl) ?_
    refine va_get (pc := 43) (D := dd) (ci := 0) (v := .int (nI (D))) (C := RX0) (T := TX0) (N := 12) hx hb hts hin hown hK hP 0 rfl rfl 10 (by decide) (hts (.fieldLink RX0 74 "TurningSums" "d" "I") (by decide +kernel)) (fun _ h9 => h9) rfl dX0_count_43 ?_
    exact hret _ _ _ _ _ (()) (by rw [h1]; rfl) hP hD hS dX0_count_46
  · skip
    refine tq_i (y := zI 3) (by rw [h1]) ?_
    refine lv_tableIn (pc := 1) (tgt := 47) hx hb dX0_count_1 (by decide) (by decide) rfl (by decide) ?_
    refine lv_aload_n (pc := 47) hx hb dX0_count_47 rfl (lv_at hl 0 rfl) ?_
    refine va_get (pc := 48) (D := dd) (ci := 0) (v := .int (nI ((phN D)))) (C := RX0) (T := TX0) (N := 12) hx hb hts hin hown hK hP 0 rfl rfl 11 (by decide) (hts (.fieldLink RX0 55 "TurningSums" "phi" "I") (by decide +kernel)) (fun _ h9 => h9) rfl dX0_count_48 ?_
    exact hret _ _ _ _ _ (()) (by rw [h1]; rfl) hP hD hS dX0_count_51
  · skip
    refine lv_tableOut (pc := 1) (tgt := 52) hx hb dX0_count_1 (by rw [zI_toInt (by omega) (by omega)]; omega) (by decide) ?_
    refine lv_bipush (pc := 52) (v := zI (-3)) hx hb dX0_count_52 (by decide) ?_
    exact hret _ _ _ _ _ (()) (by unfold ctS; rw [if_neg (by omega), if_neg (by omega), if_neg (by omega), if_neg (by omega)]) hP hD hS dX0_count_54
set_option maxHeartbeats 4000000 in
set_option maxRecDepth 100000 in
theorem c_X1_count (l : Launch) (dd : va_G) {ad : Nat → Nat} {cI cL cQ : ClassId}  {P : Nat} {D : Nat} {ix : Nat → Int32} {ho : Nat → Int64} {re : Nat → Int32} {wk : Nat → Int64} {tu : Nat → Int64} {wa : Nat → Int64} {nx : Nat → Int64} {what : Int} (hwr : -2147483648 ≤ what ∧ what < 2147483648) : CTi l yX1_count wsX1_count ({ frames := 0, cells := 0, slots := 0, locals := 0 } : Room) dd (tysA cI cL cQ) (am_no) [.ref (ad 0), .int (zI (what))] (wM ad cI cL (P) ((rootN P)) (D) ((phN D)) (ix) (ho) (re) (wk) (tu) (wa) (nx)) (fun (r : Int32) (u : Unit) => r = ctS P D what) (fun (_ : Unit) => (wM ad cI cL (P) ((rootN P)) (D) ((phN D)) (ix) (ho) (re) (wk) (tu) (wa) (nx))) := by
  refine CTi_of (cc := cX1_count) (maxL := 2) (by decide +kernel) rfl (Nat.le_of_ble_eq_true rfl) ?_
  intro p e s m args below meth c A Q ls H locs hx hb hts hown hml hP hK hD hS hA hX hl hret
  have hin : ∀ w ∈ wsX10, w ∈ wsX1_count := by decide +kernel
  have hl : lv_has ls 2 [(0, .ref (ad 0)), (1, .int (zI (what)))] := hl
  refine lv_iload_n (pc := 0) hx hb dX1_count_0 rfl (lv_at hl 1 rfl) ?_
  refine zv_if_ne (pc := 1) (tgt := 11) hx hb (by omega) dX1_count_1 (by decide) (fun h1 => ?_) (fun h1 => ?_)
  · skip
    refine lv_iload_n (pc := 11) hx hb dX1_count_11 rfl (lv_at hl 1 rfl) ?_
    refine nv_iconst (pc := 12) (k := 1) hx hb dX1_count_12 rfl ?_
    refine zv_2 (pc := 13) (a := ((1 : Nat) : Int)) (b := what) ((nI_zI _)) (rfl) ?_
    refine zv_icmp_ne (pc := 13) (tgt := 23) hx hb (by omega) (by omega) dX1_count_13 (by decide) (fun h13 => ?_) (fun h13 => ?_)
    · skip
      refine lv_iload_n (pc := 23) hx hb dX1_count_23 rfl (lv_at hl 1 rfl) ?_
      refine nv_iconst (pc := 24) (k := 2) hx hb dX1_count_24 rfl ?_
      refine zv_2 (pc := 25) (a := ((2 : Nat) : Int)) (b := what) ((nI_zI _)) (rfl) ?_
      refine zv_icmp_ne (pc := 25) (tgt := 35) hx hb (by omega) (by omega) dX1_count_25 (by decide) (fun h25 => ?_) (fun h25 => ?_)
      · skip
        refine lv_iload_n (pc := 35) hx hb dX1_count_35 rfl (lv_at hl 1 rfl) ?_
        refine nv_iconst (pc := 36) (k := 3) hx hb dX1_count_36 rfl ?_
        refine zv_2 (pc := 37) (a := ((3 : Nat) : Int)) (b := what) ((nI_zI _)) (rfl) ?_
        refine zv_icmp_ne (pc := 37) (tgt := 47) hx hb (by omega) (by omega) dX1_count_37 (by decide) (fun h37 => ?_) (fun h37 => ?_)
        · skip
          refine lv_bipush (pc := 47) (v := zI (-3)) hx hb dX1_count_47 (by decide) ?_
          exact hret _ _ _ _ _ (()) (by unfold ctS; first | rw [if_neg (by omega), if_neg (by omega), if_neg (by omega), if_neg (by omega)] | rw [if_neg (by omega), if_neg (by omega), if_neg (by omega), if_pos (by omega)] | rw [if_neg (by omega), if_neg (by omega), if_pos (by omega)] | rw [if_neg (by omega), if_pos (by omega)] | rw [if_pos (by omega)]) hP hD hS dX1_count_49
        · skip
          refine lv_aload_n (pc := 40) hx hb dX1_count_40 rfl (lv_at hl 0 rfl) ?_
          refine va_get (pc := 41) (D := dd) (ci := 1) (v := .int (nI ((phN D)))) (C := RX1) (T := TX1) (N := 11) hx hb hts hin hown hK hP 0 rfl rfl 3 (by decide) (hts (.fieldLink RX1 55 "TurningSumsModel" "phi" "I") (by decide +kernel)) (fun _ h9 => h9) rfl dX1_count_41 ?_
          refine lv_goto (pc := 44) (tgt := 49) hx hb dX1_count_44 (by decide) ?_
          exact hret _ _ _ _ _ (()) (by unfold ctS; first | rw [if_neg (by omega), if_neg (by omega), if_neg (by omega), if_neg (by omega)] | rw [if_neg (by omega), if_neg (by omega), if_neg (by omega), if_pos (by omega)] | rw [if_neg (by omega), if_neg (by omega), if_pos (by omega)] | rw [if_neg (by omega), if_pos (by omega)] | rw [if_pos (by omega)]) hP hD hS dX1_count_49
      · skip
        refine lv_aload_n (pc := 28) hx hb dX1_count_28 rfl (lv_at hl 0 rfl) ?_
        refine va_get (pc := 29) (D := dd) (ci := 1) (v := .int (nI (D))) (C := RX1) (T := TX1) (N := 11) hx hb hts hin hown hK hP 0 rfl rfl 2 (by decide) (hts (.fieldLink RX1 52 "TurningSumsModel" "d" "I") (by decide +kernel)) (fun _ h9 => h9) rfl dX1_count_29 ?_
        refine lv_goto (pc := 32) (tgt := 49) hx hb dX1_count_32 (by decide) ?_
        exact hret _ _ _ _ _ (()) (by unfold ctS; first | rw [if_neg (by omega), if_neg (by omega), if_neg (by omega), if_neg (by omega)] | rw [if_neg (by omega), if_neg (by omega), if_neg (by omega), if_pos (by omega)] | rw [if_neg (by omega), if_neg (by omega), if_pos (by omega)] | rw [if_neg (by omega), if_pos (by omega)] | rw [if_pos (by omega)]) hP hD hS dX1_count_49
    · skip
      refine lv_aload_n (pc := 16) hx hb dX1_count_16 rfl (lv_at hl 0 rfl) ?_
      refine va_get (pc := 17) (D := dd) (ci := 1) (v := .int (nI ((rootN P)))) (C := RX1) (T := TX1) (N := 11) hx hb hts hin hown hK hP 0 rfl rfl 1 (by decide) (hts (.fieldLink RX1 46 "TurningSumsModel" "root" "I") (by decide +kernel)) (fun _ h9 => h9) rfl dX1_count_17 ?_
      refine lv_goto (pc := 20) (tgt := 49) hx hb dX1_count_20 (by decide) ?_
      exact hret _ _ _ _ _ (()) (by unfold ctS; first | rw [if_neg (by omega), if_neg (by omega), if_neg (by omega), if_neg (by omega)] | rw [if_neg (by omega), if_neg (by omega), if_neg (by omega), if_pos (by omega)] | rw [if_neg (by omega), if_neg (by omega), if_pos (by omega)] | rw [if_neg (by omega), if_pos (by omega)] | rw [if_pos (by omega)]) hP hD hS dX1_count_49
  · skip
    refine lv_aload_n (pc := 4) hx hb dX1_count_4 rfl (lv_at hl 0 rfl) ?_
    refine va_get (pc := 5) (D := dd) (ci := 1) (v := .int (nI (P))) (C := RX1) (T := TX1) (N := 11) hx hb hts hin hown hK hP 0 rfl rfl 0 (by decide) (hts (.fieldLink RX1 42 "TurningSumsModel" "p" "I") (by decide +kernel)) (fun _ h9 => h9) rfl dX1_count_5 ?_
    refine lv_goto (pc := 8) (tgt := 49) hx hb dX1_count_8 (by decide) ?_
    exact hret _ _ _ _ _ (()) (by unfold ctS; first | rw [if_neg (by omega), if_neg (by omega), if_neg (by omega), if_neg (by omega)] | rw [if_neg (by omega), if_neg (by omega), if_neg (by omega), if_pos (by omega)] | rw [if_neg (by omega), if_neg (by omega), if_pos (by omega)] | rw [if_neg (by omega), if_pos (by omega)] | rw [if_pos (by omega)]) hP hD hS dX1_count_49
set_option maxHeartbeats 4000000 in
set_option maxRecDepth 100000 in
theorem c_X0_at (l : Launch) (dd : va_G) {ad : Nat → Nat} {cI cL cQ : ClassId} {tR : Nat} {hv : Nat → Nat → Int32} {ix : Nat → Int32} {pw : Nat → Int32} {sg : Nat → Int32} {tm : Nat → Int32} {hd : Nat → Nat → Int32} {wk : Nat → Int64} {rc : Nat → Int64} {lc : Nat → Int64} {P : Nat} {D : Nat} {h : Int} {i : Int} (hhr : -2147483648 ≤ h ∧ h < 2147483648) (hir : -2147483648 ≤ i ∧ i < 2147483648) (hP1 : okP P) (hD1 : 1 ≤ D ∧ D ≤ 12) (hH : okH D hv hd) : CTi l yX0_at wsX0_at ({ frames := 1, cells := 0, slots := 0, locals := 20 } : Room) dd (tysA cI cL cQ) (rX tR) [.ref (ad 0), .int (zI (h)), .int (zI (i))] (wC ad cI cL cQ (ix) (pw) (sg) (tm) (hd) (wk) (rc) (lc) (P) ((rootN P)) (D) ((phN D))) (fun (r : Int32) (u : Unit) => r = atS D hv h i) (fun (_ : Unit) => (wC ad cI cL cQ (ix) (pw) (sg) (tm) (hd) (wk) (rc) (lc) (P) ((rootN P)) (D) ((phN D)))) := by
  refine CTi_of (cc := cX0_at) (maxL := 3) (by decide +kernel) rfl (Nat.le_of_ble_eq_true rfl) ?_
  intro p e s m args below meth c A Q ls H locs hx hb hts hown hml hP hK hD hS hA hX hl hret
  have hin : ∀ w ∈ wsX00, w ∈ wsX0_at := by decide +kernel
  have hl : lv_has ls 3 [(0, .ref (ad 0)), (1, .int (zI (h))), (2, .int (zI (i)))] := hl
  obtain ⟨o1, o2, o3, o4, o5, o6⟩ := id hP1
  have hph := ph_rng D (by omega) hD1.1
  refine lv_iload_n (pc := 0) hx hb dX0_at_0 rfl (lv_at hl 1 rfl) ?_
  refine CTi_S0 (pc := 1) am_no_ok (As := [.int (zI (h))]) (rest := []) ⟨hx, hb, hml, hown, hts⟩ (c_X0_isHold l dd (by omega)) (va_cwS 1 hts gX0_at_X0_isHold rfl rfl rfl (by decide +kernel) ⟨Nat.le_of_ble_eq_true rfl, Nat.le_of_ble_eq_true rfl⟩) hK hP hD hS hA trivial rfl hl.1 rfl (Nat.le_of_ble_eq_true rfl) ⟨Nat.zero_le _, Nat.zero_le _⟩ dX0_at_1 (fun r u H locs hw hP hD hS => ?_)
  try dsimp only at hw
  subst hw
  refine bv_if_eq (pc := 4) (tgt := 19) hx hb dX0_at_4 (by decide) (fun h4 => ?_) (fun h4 => ?_)
  · skip
    refine tq_ldc (pc := 19) (k := (-2147483648)) hx hb hown (hts (.constant RX0 96 (-2147483648)) (by decide +kernel)) dX0_at_19 ?_
    exact hret _ _ _ _ _ (()) (by unfold atS; rw [if_neg (by omega)]) hP hD hS dX0_at_21
  · skip
    refine lv_iload_n (pc := 7) hx hb dX0_at_7 rfl (lv_at hl 2 rfl) ?_
    refine zv_if_lt (pc := 8) (tgt := 19) hx hb (by omega) dX0_at_8 (by decide) (fun h8 => ?_) (fun h8 => ?_)
    · skip
      refine tq_ldc (pc := 19) (k := (-2147483648)) hx hb hown (hts (.constant RX0 96 (-2147483648)) (by decide +kernel)) dX0_at_19 ?_
      exact hret _ _ _ _ _ (()) (by unfold atS; rw [if_neg (by omega)]) hP hD hS dX0_at_21
    · skip
      refine lv_iload_n (pc := 11) hx hb dX0_at_11 rfl (lv_at hl 2 rfl) ?_
      refine lv_aload_n (pc := 12) hx hb dX0_at_12 rfl (lv_at hl 0 rfl) ?_
      refine va_get (pc := 13) (D := dd) (ci := 0) (v := .int (nI ((phN D)))) (C := RX0) (T := TX0) (N := 12) hx hb hts hin hown hK hP 0 rfl rfl 11 (by decide) (hts (.fieldLink RX0 55 "TurningSums" "phi" "I") (by decide +kernel)) (fun _ h9 => h9) rfl dX0_at_13 ?_
      refine zv_2 (pc := 16) (a := (((phN D) : Nat) : Int)) (b := i) ((nI_zI _)) (rfl) ?_
      refine zv_icmp_lt (pc := 16) (tgt := 22) hx hb (by omega) (by omega) dX0_at_16 (by decide) (fun h16 => ?_) (fun h16 => ?_)
      · skip
        refine lv_aload_n (pc := 22) hx hb dX0_at_22 rfl (lv_at hl 0 rfl) ?_
        refine va_get (pc := 23) (D := dd) (ci := 0) (v := .ref (ad 5)) (C := RX0) (T := TX0) (N := 12) hx hb hts hin hown hK hP 0 rfl rfl 4 (by decide) (hts (.fieldLink RX0 24 "TurningSums" "holds" "[[I") (by decide +kernel)) (fun _ h9 => h9) rfl dX0_at_23 ?_
        refine lv_iload_n (pc := 26) hx hb dX0_at_26 rfl (lv_at hl 1 rfl) ?_
        refine tq_i (y := nI ((h).toNat)) (zI_toNat (by omega)) ?_
        refine nv_aald (pc := 27) hx hb hK hP 5 2 rfl rfl (i := (h).toNat) (by omega) (by decide) (if_pos (by omega)) dX0_at_27 ?_
        refine lv_iload_n (pc := 28) hx hb dX0_at_28 rfl (lv_at hl 2 rfl) ?_
        refine tq_i (y := nI ((i).toNat)) (zI_toNat (by omega)) ?_
        refine nv_iald (pc := 29) hx hb hK hP (9 + ((h).toNat)) 0 (hd_get (by omega)) rfl (i := (i).toNat) (by omega) (by decide) (v := (hv h.toNat i.toNat)) (hH _ (by omega) _ (by omega)) dX0_at_29 ?_
        exact hret _ _ _ _ _ (()) (by unfold atS; rw [if_pos (by omega)]) hP hD hS dX0_at_30
      · skip
        refine tq_ldc (pc := 19) (k := (-2147483648)) hx hb hown (hts (.constant RX0 96 (-2147483648)) (by decide +kernel)) dX0_at_19 ?_
        exact hret _ _ _ _ _ (()) (by unfold atS; rw [if_neg (by omega)]) hP hD hS dX0_at_21
set_option maxHeartbeats 4000000 in
set_option maxRecDepth 100000 in
theorem c_X1_at (l : Launch) (dd : va_G) {ad : Nat → Nat} {cI cL cQ : ClassId} {hv : Nat → Nat → Int32} {P : Nat} {D : Nat} {ix : Nat → Int32} {ho : Nat → Int64} {re : Nat → Int32} {wk : Nat → Int64} {tu : Nat → Int64} {wa : Nat → Int64} {nx : Nat → Int64} {h : Int} {i : Int} (hhr : -2147483648 ≤ h ∧ h < 2147483648) (hir : -2147483648 ≤ i ∧ i < 2147483648) (hP1 : okP P) (hD1 : 1 ≤ D ∧ D ≤ 12) (hL : okL D hv ho) : CTi l yX1_at wsX1_at ({ frames := 2, cells := 0, slots := 0, locals := 45 } : Room) dd (tysA cI cL cQ) (am_no) [.ref (ad 0), .int (zI (h)), .int (zI (i))] (wM ad cI cL (P) ((rootN P)) (D) ((phN D)) (ix) (ho) (re) (wk) (tu) (wa) (nx)) (fun (r : Int32) (u : Unit) => r = atS D hv h i) (fun (_ : Unit) => (wM ad cI cL (P) ((rootN P)) (D) ((phN D)) (ix) (ho) (re) (wk) (tu) (wa) (nx))) := by
  refine CTi_of (cc := cX1_at) (maxL := 3) (by decide +kernel) rfl (Nat.le_of_ble_eq_true rfl) ?_
  intro p e s m args below meth c A Q ls H locs hx hb hts hown hml hP hK hD hS hA hX hl hret
  have hin : ∀ w ∈ wsX10, w ∈ wsX1_at := by decide +kernel
  have hl : lv_has ls 3 [(0, .ref (ad 0)), (1, .int (zI (h))), (2, .int (zI (i)))] := hl
  obtain ⟨o1, o2, o3, o4, o5, o6⟩ := id hP1
  have hph := ph_rng D (by omega) hD1.1
  refine lv_iload_n (pc := 0) hx hb dX1_at_0 rfl (lv_at hl 1 rfl) ?_
  refine CTi_S0 (pc := 1) am_no_ok (As := [.int (zI (h))]) (rest := []) ⟨hx, hb, hml, hown, hts⟩ (c_X1_isHold l dd (by omega)) (va_cwS 1 hts gX1_at_X1_isHold rfl rfl rfl (by decide +kernel) ⟨Nat.le_of_ble_eq_true rfl, Nat.le_of_ble_eq_true rfl⟩) hK hP hD hS hA hX rfl hl.1 rfl (Nat.le_of_ble_eq_true rfl) ⟨Nat.zero_le _, Nat.zero_le _⟩ dX1_at_1 (fun r u H locs hw hP hD hS => ?_)
  try dsimp only at hw
  subst hw
  refine bv_if_eq (pc := 4) (tgt := 38) hx hb dX1_at_4 (by decide) (fun h4 => ?_) (fun h4 => ?_)
  · skip
    refine tq_ldc (pc := 38) (k := (-2147483648)) hx hb hown (hts (.constant RX1 106 (-2147483648)) (by decide +kernel)) dX1_at_38 ?_
    exact hret _ _ _ _ _ (()) (by unfold atS; rw [if_neg (by omega)]) hP hD hS dX1_at_40
  · skip
    refine lv_iload_n (pc := 7) hx hb dX1_at_7 rfl (lv_at hl 2 rfl) ?_
    refine lv_i2l (pc := 8) (v := zL (i)) hx hb dX1_at_8 (zL_zI (by omega) (by omega)) ?_
    refine lv_lconst (pc := 9) (v := zL 0) hx hb dX1_at_9 (by decide) ?_
    refine lv_aload_n (pc := 10) hx hb dX1_at_10 rfl (lv_at hl 0 rfl) ?_
    refine va_get (pc := 11) (D := dd) (ci := 1) (v := .int (nI ((phN D)))) (C := RX1) (T := TX1) (N := 11) hx hb hts hin hown hK hP 0 rfl rfl 3 (by decide) (hts (.fieldLink RX1 55 "TurningSumsModel" "phi" "I") (by decide +kernel)) (fun _ h9 => h9) rfl dX1_at_11 ?_
    refine nv_iconst (pc := 14) (k := 1) hx hb dX1_at_14 rfl ?_
    refine nv_isub (pc := 15) hx hb (by omega) dX1_at_15 ?_
    refine lv_i2l (pc := 16) (v := zL ((((phN D) - 1) : Nat) : Int)) hx hb dX1_at_16 (zL_nI (by omega)) ?_
    refine CTi_S0 (pc := 17) am_no_ok (As := [.long (zL (i)), .long (zL 0), .long (zL ((((phN D) - 1) : Nat) : Int))]) (rest := []) ⟨hx, hb, hml, hown, hts⟩ (c_X1_in l dd ) (va_cwS 3 hts gX1_at_X1_in rfl rfl rfl (by decide +kernel) ⟨Nat.le_of_ble_eq_true rfl, Nat.le_of_ble_eq_true rfl⟩) hK hP hD hS hA hX rfl hl.1 rfl (Nat.le_of_ble_eq_true rfl) ⟨Nat.zero_le _, Nat.zero_le _⟩ dX1_at_17 (fun r u H locs hw hP hD hS => ?_)
    try dsimp only at hw
    subst hw
    refine bv_if_eq (pc := 20) (tgt := 38) hx hb dX1_at_20 (by decide) (fun h20 => ?_) (fun h20 => ?_)
    · skip
      rw [zL_le (by omega) (by omega), zL_le (by omega) (by omega)] at h20
      refine tq_ldc (pc := 38) (k := (-2147483648)) hx hb hown (hts (.constant RX1 106 (-2147483648)) (by decide +kernel)) dX1_at_38 ?_
      exact hret _ _ _ _ _ (()) (by unfold atS; rw [if_neg (by omega)]) hP hD hS dX1_at_40
    · skip
      rw [zL_le (by omega) (by omega), zL_le (by omega) (by omega)] at h20
      refine lv_aload_n (pc := 23) hx hb dX1_at_23 rfl (lv_at hl 0 rfl) ?_
      refine va_get (pc := 24) (D := dd) (ci := 1) (v := .ref (ad 2)) (C := RX1) (T := TX1) (N := 11) hx hb hts hin hown hK hP 0 rfl rfl 5 (by decide) (hts (.fieldLink RX1 13 "TurningSumsModel" "hold" "[J") (by decide +kernel)) (fun _ h9 => h9) rfl dX1_at_24 ?_
      refine nv_bipush (pc := 27) (k := 12) hx hb dX1_at_27 rfl (by decide) ?_
      refine lv_iload_n (pc := 29) hx hb dX1_at_29 rfl (lv_at hl 1 rfl) ?_
      refine tq_i (y := nI (h.toNat)) (zI_toNat (by omega)) ?_
      refine nv_imul (pc := 30) hx hb dX1_at_30 ?_
      refine lv_iload_n (pc := 31) hx hb dX1_at_31 rfl (lv_at hl 2 rfl) ?_
      refine tq_i (y := nI (i.toNat)) (zI_toNat (by omega)) ?_
      refine nv_iadd (pc := 32) hx hb dX1_at_32 ?_
      refine nv_lald (pc := 33) hx hb hK hP 2 1 rfl rfl (i := ((12 * h.toNat) + i.toNat)) (by omega) (by decide) (v := zL (hv h.toNat i.toNat).toInt) (by rw [hL h.toNat (by omega) i.toNat (by omega), if_pos (by omega)]) dX1_at_33 ?_
      refine lv_l2i (pc := 34) (v := (zL (hv h.toNat i.toNat).toInt).toInt32) hx hb dX1_at_34 rfl ?_
      refine lv_goto (pc := 35) (tgt := 40) hx hb dX1_at_35 (by decide) ?_
      exact hret _ _ _ _ _ (()) (by unfold atS; rw [if_pos (by omega)]; exact zL_int _) hP hD hS dX1_at_40
set_option maxHeartbeats 4000000 in
set_option maxRecDepth 100000 in
theorem c_X0_same (l : Launch) (dd : va_G) {ad : Nat → Nat} {cI cL cQ : ClassId} {tR : Nat} {hv : Nat → Nat → Int32} {ix : Nat → Int32} {pw : Nat → Int32} {sg : Nat → Int32} {tm : Nat → Int32} {hd : Nat → Nat → Int32} {wk : Nat → Int64} {rc : Nat → Int64} {lc : Nat → Int64} {P : Nat} {D : Nat} {a : Int} {b : Int} (har : -2147483648 ≤ a ∧ a < 2147483648) (hbr : -2147483648 ≤ b ∧ b < 2147483648) (hP1 : okP P) (hD1 : 1 ≤ D ∧ D ≤ 12) (hH : okH D hv hd) : CTi l yX0_same wsX0_same ({ frames := 1, cells := 0, slots := 0, locals := 20 } : Room) dd (tysA cI cL cQ) (rX tR) [.ref (ad 0), .int (zI (a)), .int (zI (b))] (wC ad cI cL cQ (ix) (pw) (sg) (tm) (hd) (wk) (rc) (lc) (P) ((rootN P)) (D) ((phN D))) (fun (r : Int32) (u : Unit) => r = smS D hv a b) (fun (_ : Unit) => (wC ad cI cL cQ (ix) (pw) (sg) (tm) (hd) (wk) (rc) (lc) (P) ((rootN P)) (D) ((phN D)))) := by
  refine CTi_of (cc := cX0_same) (maxL := 4) (by decide +kernel) rfl (Nat.le_of_ble_eq_true rfl) ?_
  intro p e s m args below meth c A Q ls H locs hx hb hts hown hml hP hK hD hS hA hX hl hret
  have hin : ∀ w ∈ wsX00, w ∈ wsX0_same := by decide +kernel
  have hl : lv_has ls 4 [(0, .ref (ad 0)), (1, .int (zI (a))), (2, .int (zI (b)))] := hl
  obtain ⟨o1, o2, o3, o4, o5, o6⟩ := id hP1
  have hph := ph_rng D (by omega) hD1.1
  refine lv_iload_n (pc := 0) hx hb dX0_same_0 rfl (lv_at hl 1 rfl) ?_
  refine CTi_S0 (pc := 1) am_no_ok (As := [.int (zI (a))]) (rest := []) ⟨hx, hb, hml, hown, hts⟩ (c_X0_isHold l dd (by omega)) (va_cwS 1 hts gX0_same_X0_isHold rfl rfl rfl (by decide +kernel) ⟨Nat.le_of_ble_eq_true rfl, Nat.le_of_ble_eq_true rfl⟩) hK hP hD hS hA trivial rfl hl.1 rfl (Nat.le_of_ble_eq_true rfl) ⟨Nat.zero_le _, Nat.zero_le _⟩ dX0_same_1 (fun r u H locs hw hP hD hS => ?_)
  try dsimp only at hw
  subst hw
  refine bv_if_eq (pc := 4) (tgt := 14) hx hb dX0_same_4 (by decide) (fun h4 => ?_) (fun h4 => ?_)
  · skip
    refine lv_bipush (pc := 14) (v := zI (-2)) hx hb dX0_same_14 (by decide) ?_
    exact hret _ _ _ _ _ (()) (by unfold smS; rw [if_neg (by omega)]) hP hD hS dX0_same_16
  · skip
    refine lv_iload_n (pc := 7) hx hb dX0_same_7 rfl (lv_at hl 2 rfl) ?_
    refine CTi_S0 (pc := 8) am_no_ok (As := [.int (zI (b))]) (rest := []) ⟨hx, hb, hml, hown, hts⟩ (c_X0_isHold l dd (by omega)) (va_cwS 1 hts gX0_same_X0_isHold rfl rfl rfl (by decide +kernel) ⟨Nat.le_of_ble_eq_true rfl, Nat.le_of_ble_eq_true rfl⟩) hK hP hD hS hA trivial rfl hl.1 rfl (Nat.le_of_ble_eq_true rfl) ⟨Nat.zero_le _, Nat.zero_le _⟩ dX0_same_8 (fun r u H locs hw hP hD hS => ?_)
    try dsimp only at hw
    subst hw
    refine bv_if_ne (pc := 11) (tgt := 17) hx hb dX0_same_11 (by decide) (fun h11 => ?_) (fun h11 => ?_)
    · skip
      refine nv_iconst (pc := 17) (k := 0) hx hb dX0_same_17 rfl ?_
      refine lv_istore_n (pc := 18) (lv' := [(3, .int (nI (0))), (0, .ref (ad 0)), (1, .int (zI (a))), (2, .int (zI (b)))]) hx hb dX0_same_18 rfl hl (by decide) rfl (fun ls hl => ?_)
      have L19 : ∀ (n9_19 : Nat), ∀ (k : Nat), phN D + 1 - k < n9_19 → (k ≤ phN D) → (∀ q, q < k → hv a.toNat q = hv b.toNat q) → ∀ (H : Heap) (locs : List Loc) (ls : Array Slot), va_P dd vwCl (wC ad cI cL cQ (ix) (pw) (sg) (tm) (hd) (wk) (rc) (lc) (P) ((rootN P)) (D) ((phN D))) H → va_D A (wC ad cI cL cQ (ix) (pw) (sg) (tm) (hd) (wk) (rc) (lc) (P) ((rootN P)) (D) ((phN D))) → va_S A s.heap H locs → lv_has ls 4 [(0, .ref (ad 0)), (1, .int (zI (a))), (2, .int (zI (b))), (3, .int (nI (k)))] → W p l e ({ frames := 1, cells := 0, slots := 0, locals := 20 } : Room) s m args below meth c H locs 0 0 Q (F0 m 19 ls []) := by
        intro n9_19
        induction n9_19 with
        | zero => intro k hm; exact absurd hm (Nat.not_lt_zero _)
        | succ n9_19 ih_19 =>
          intro k hm_19 hk hs H locs ls hP hD hS hl
          refine lv_iload_n (pc := 19) hx hb dX0_same_19 rfl (lv_at hl 3 rfl) ?_
          refine lv_aload_n (pc := 20) hx hb dX0_same_20 rfl (lv_at hl 0 rfl) ?_
          refine va_get (pc := 21) (D := dd) (ci := 0) (v := .int (nI ((phN D)))) (C := RX0) (T := TX0) (N := 12) hx hb hts hin hown hK hP 0 rfl rfl 11 (by decide) (hts (.fieldLink RX0 55 "TurningSums" "phi" "I") (by decide +kernel)) (fun _ h9 => h9) rfl dX0_same_21 ?_
          refine nv_icmp_ge (pc := 24) (tgt := 54) hx hb (a := k) (b := (phN D)) (by omega) (by omega) dX0_same_24 (by decide) (fun h24 => ?_) (fun h24 => ?_)
          · skip
            refine nv_iconst (pc := 54) (k := 1) hx hb dX0_same_54 rfl ?_
            exact hret _ _ _ _ _ (()) (by unfold smS; rw [if_pos (by omega), if_pos ((smB_iff _ _ _ _).mpr (fun q z => hs q (by omega)))]) hP hD hS dX0_same_55
          · skip
            refine lv_aload_n (pc := 27) hx hb dX0_same_27 rfl (lv_at hl 0 rfl) ?_
            refine va_get (pc := 28) (D := dd) (ci := 0) (v := .ref (ad 5)) (C := RX0) (T := TX0) (N := 12) hx hb hts hin hown hK hP 0 rfl rfl 4 (by decide) (hts (.fieldLink RX0 24 "TurningSums" "holds" "[[I") (by decide +kernel)) (fun _ h9 => h9) rfl dX0_same_28 ?_
            refine lv_iload_n (pc := 31) hx hb dX0_same_31 rfl (lv_at hl 1 rfl) ?_
            refine tq_i (y := nI ((a).toNat)) (zI_toNat (by omega)) ?_
            refine nv_aald (pc := 32) hx hb hK hP 5 2 rfl rfl (i := (a).toNat) (by omega) (by decide) (if_pos (by omega)) dX0_same_32 ?_
            refine lv_iload_n (pc := 33) hx hb dX0_same_33 rfl (lv_at hl 3 rfl) ?_
            refine nv_iald (pc := 34) hx hb hK hP (9 + ((a).toNat)) 0 (hd_get (by omega)) rfl (i := k) (by omega) (by decide) (v := (hv a.toNat k)) (hH _ (by omega) _ (by omega)) dX0_same_34 ?_
            refine lv_aload_n (pc := 35) hx hb dX0_same_35 rfl (lv_at hl 0 rfl) ?_
            refine va_get (pc := 36) (D := dd) (ci := 0) (v := .ref (ad 5)) (C := RX0) (T := TX0) (N := 12) hx hb hts hin hown hK hP 0 rfl rfl 4 (by decide) (hts (.fieldLink RX0 24 "TurningSums" "holds" "[[I") (by decide +kernel)) (fun _ h9 => h9) rfl dX0_same_36 ?_
            refine lv_iload_n (pc := 39) hx hb dX0_same_39 rfl (lv_at hl 2 rfl) ?_
            refine tq_i (y := nI ((b).toNat)) (zI_toNat (by omega)) ?_
            refine nv_aald (pc := 40) hx hb hK hP 5 2 rfl rfl (i := (b).toNat) (by omega) (by decide) (if_pos (by omega)) dX0_same_40 ?_
            refine lv_iload_n (pc := 41) hx hb dX0_same_41 rfl (lv_at hl 3 rfl) ?_
            refine nv_iald (pc := 42) hx hb hK hP (9 + ((b).toNat)) 0 (hd_get (by omega)) rfl (i := k) (by omega) (by decide) (v := (hv b.toNat k)) (hH _ (by omega) _ (by omega)) dX0_same_42 ?_
            refine lv_icmp_eq (pc := 43) (tgt := 48) hx hb dX0_same_43 (by decide) (fun h43 => ?_) (fun h43 => ?_)
            · skip
              refine lv_iinc (pc := 48) (v := nI ((k + 1))) (lv' := [(3, .int (nI ((k + 1)))), (0, .ref (ad 0)), (1, .int (zI (a))), (2, .int (zI (b)))]) hx hb dX0_same_48 hl (k := 3) rfl (nI_inc _) (by decide) rfl (fun ls hl => ?_)
              refine lv_goto (pc := 51) (tgt := 19) hx hb dX0_same_51 (by decide) ?_
              exact ih_19 ((k + 1)) (by omega) (by omega) (fun q z => (Nat.lt_or_ge q k).elim (fun w => hs q w) (fun w => by have e : q = k := (by omega); subst e; exact h43)) _ _ _ hP hD hS (lv_sub hl [1, 2, 3, 0] rfl)
            · skip
              refine nv_iconst (pc := 46) (k := 0) hx hb dX0_same_46 rfl ?_
              exact hret _ _ _ _ _ (()) (by unfold smS; rw [if_pos (by omega), if_neg (fun z => h43 ((smB_iff _ _ _ _).mp z k (by omega)))]) hP hD hS dX0_same_47
      exact L19 _ (0) (Nat.lt_succ_self _) (by omega) (fun q z => by omega) _ _ _ hP hD hS (lv_sub hl [1, 2, 3, 0] rfl)
    · skip
      refine lv_bipush (pc := 14) (v := zI (-2)) hx hb dX0_same_14 (by decide) ?_
      exact hret _ _ _ _ _ (()) (by unfold smS; rw [if_neg (by omega)]) hP hD hS dX0_same_16
set_option maxHeartbeats 4000000 in
set_option maxRecDepth 100000 in
theorem c_X1_same (l : Launch) (dd : va_G) {ad : Nat → Nat} {cI cL cQ : ClassId} {hv : Nat → Nat → Int32} {P : Nat} {D : Nat} {ix : Nat → Int32} {ho : Nat → Int64} {re : Nat → Int32} {wk : Nat → Int64} {tu : Nat → Int64} {wa : Nat → Int64} {nx : Nat → Int64} {a : Int} {b : Int} (har : -2147483648 ≤ a ∧ a < 2147483648) (hbr : -2147483648 ≤ b ∧ b < 2147483648) (hP1 : okP P) (hD1 : 1 ≤ D ∧ D ≤ 12) (hL : okL D hv ho) : CTi l yX1_same wsX1_same ({ frames := 2, cells := 0, slots := 0, locals := 45 } : Room) dd (tysA cI cL cQ) (am_no) [.ref (ad 0), .int (zI (a)), .int (zI (b))] (wM ad cI cL (P) ((rootN P)) (D) ((phN D)) (ix) (ho) (re) (wk) (tu) (wa) (nx)) (fun (r : Int32) (u : Unit) => r = smS D hv a b) (fun (_ : Unit) => (wM ad cI cL (P) ((rootN P)) (D) ((phN D)) (ix) (ho) (re) (wk) (tu) (wa) (nx))) := by
  refine CTi_of (cc := cX1_same) (maxL := 5) (by decide +kernel) rfl (Nat.le_of_ble_eq_true rfl) ?_
  intro p e s m args below meth c A Q ls H locs hx hb hts hown hml hP hK hD hS hA hX hl hret
  have hin : ∀ w ∈ wsX10, w ∈ wsX1_same := by decide +kernel
  have hl : lv_has ls 5 [(0, .ref (ad 0)), (1, .int (zI (a))), (2, .int (zI (b)))] := hl
  obtain ⟨o1, o2, o3, o4, o5, o6⟩ := id hP1
  have hph := ph_rng D (by omega) hD1.1
  refine lv_iload_n (pc := 0) hx hb dX1_same_0 rfl (lv_at hl 1 rfl) ?_
  refine CTi_S0 (pc := 1) am_no_ok (As := [.int (zI (a))]) (rest := []) ⟨hx, hb, hml, hown, hts⟩ (c_X1_isHold l dd (by omega)) (va_cwS 1 hts gX1_same_X1_isHold rfl rfl rfl (by decide +kernel) ⟨Nat.le_of_ble_eq_true rfl, Nat.le_of_ble_eq_true rfl⟩) hK hP hD hS hA hX rfl hl.1 rfl (Nat.le_of_ble_eq_true rfl) ⟨Nat.zero_le _, Nat.zero_le _⟩ dX1_same_1 (fun r u H locs hw hP hD hS => ?_)
  try dsimp only at hw
  subst hw
  refine bv_if_eq (pc := 4) (tgt := 14) hx hb dX1_same_4 (by decide) (fun h4 => ?_) (fun h4 => ?_)
  · skip
    refine lv_bipush (pc := 14) (v := zI (-2)) hx hb dX1_same_14 (by decide) ?_
    exact hret _ _ _ _ _ (()) (by unfold smS; rw [if_neg (by omega)]) hP hD hS dX1_same_16
  · skip
    refine lv_iload_n (pc := 7) hx hb dX1_same_7 rfl (lv_at hl 2 rfl) ?_
    refine CTi_S0 (pc := 8) am_no_ok (As := [.int (zI (b))]) (rest := []) ⟨hx, hb, hml, hown, hts⟩ (c_X1_isHold l dd (by omega)) (va_cwS 1 hts gX1_same_X1_isHold rfl rfl rfl (by decide +kernel) ⟨Nat.le_of_ble_eq_true rfl, Nat.le_of_ble_eq_true rfl⟩) hK hP hD hS hA hX rfl hl.1 rfl (Nat.le_of_ble_eq_true rfl) ⟨Nat.zero_le _, Nat.zero_le _⟩ dX1_same_8 (fun r u H locs hw hP hD hS => ?_)
    try dsimp only at hw
    subst hw
    refine bv_if_ne (pc := 11) (tgt := 17) hx hb dX1_same_11 (by decide) (fun h11 => ?_) (fun h11 => ?_)
    · skip
      refine nv_iconst (pc := 17) (k := 1) hx hb dX1_same_17 rfl ?_
      refine lv_istore_n (pc := 18) (lv' := [(3, .int (nI (1))), (0, .ref (ad 0)), (1, .int (zI (a))), (2, .int (zI (b)))]) hx hb dX1_same_18 rfl hl (by decide) rfl (fun ls hl => ?_)
      refine nv_iconst (pc := 19) (k := 0) hx hb dX1_same_19 rfl ?_
      refine lv_istore (pc := 20) (lv' := [(4, .int (nI (0))), (3, .int (nI (1))), (0, .ref (ad 0)), (1, .int (zI (a))), (2, .int (zI (b)))]) hx hb dX1_same_20 hl (by decide) rfl (fun ls hl => ?_)
      have L22 : ∀ (n9_22 : Nat), ∀ (k : Nat) (t : Nat), 13 - k < n9_22 → (k ≤ 12) → ((t = 1 ∧ ∀ q, q < k → q < phN D → hv a.toNat q = hv b.toNat q) ∨ (t = 0 ∧ ∃ q, q < phN D ∧ hv a.toNat q ≠ hv b.toNat q)) → ∀ (H : Heap) (locs : List Loc) (ls : Array Slot), va_P dd vwCl (wM ad cI cL (P) ((rootN P)) (D) ((phN D)) (ix) (ho) (re) (wk) (tu) (wa) (nx)) H → va_D A (wM ad cI cL (P) ((rootN P)) (D) ((phN D)) (ix) (ho) (re) (wk) (tu) (wa) (nx)) → va_S A s.heap H locs → lv_has ls 5 [(0, .ref (ad 0)), (1, .int (zI (a))), (2, .int (zI (b))), (3, .int (nI (t))), (4, .int (nI (k)))] → W p l e ({ frames := 2, cells := 0, slots := 0, locals := 45 } : Room) s m args below meth c H locs 0 0 Q (F0 m 22 ls []) := by
        intro n9_22
        induction n9_22 with
        | zero => intro k t hm; exact absurd hm (Nat.not_lt_zero _)
        | succ n9_22 ih_22 =>
          intro k t hm_22 hk ht H locs ls hP hD hS hl
          refine lv_iload (pc := 22) hx hb dX1_same_22 (lv_at hl 4 rfl) ?_
          refine nv_bipush (pc := 24) (k := 12) hx hb dX1_same_24 rfl (by decide) ?_
          refine nv_icmp_ge (pc := 26) (tgt := 73) hx hb (a := k) (b := 12) (by omega) (by omega) dX1_same_26 (by decide) (fun h26 => ?_) (fun h26 => ?_)
          · skip
            refine lv_iload_n (pc := 73) hx hb dX1_same_73 rfl (lv_at hl 3 rfl) ?_
            refine nv_if_eq (pc := 74) (tgt := 81) hx hb (a := t) (by omega) dX1_same_74 (by decide) (fun h74 => ?_) (fun h74 => ?_)
            · skip
              refine nv_iconst (pc := 81) (k := 0) hx hb dX1_same_81 rfl ?_
              exact hret _ _ _ _ _ (()) (by rcases ht with z | z; omega; obtain ⟨q9, z1, z2⟩ := z.2; unfold smS; rw [if_pos (by omega), if_neg (fun w => z2 ((smB_iff _ _ _ _).mp w q9 z1))]) hP hD hS dX1_same_82
            · skip
              refine nv_iconst (pc := 77) (k := 1) hx hb dX1_same_77 rfl ?_
              refine lv_goto (pc := 78) (tgt := 82) hx hb dX1_same_78 (by decide) ?_
              exact hret _ _ _ _ _ (()) (by rcases ht with z | z; (unfold smS; rw [if_pos (by omega), if_pos ((smB_iff _ _ _ _).mpr (fun q w => z.2 q (by omega) w))]); omega) hP hD hS dX1_same_82
          · skip
            refine lv_iload_n (pc := 29) hx hb dX1_same_29 rfl (lv_at hl 3 rfl) ?_
            refine nv_if_eq (pc := 30) (tgt := 65) hx hb (a := t) (by omega) dX1_same_30 (by decide) (fun h30 => ?_) (fun h30 => ?_)
            · skip
              refine nv_iconst (pc := 65) (k := 0) hx hb dX1_same_65 rfl ?_
              refine lv_istore_n (pc := 66) (lv' := [(3, .int (nI (0))), (0, .ref (ad 0)), (1, .int (zI (a))), (2, .int (zI (b))), (4, .int (nI (k)))]) hx hb dX1_same_66 rfl hl (by decide) rfl (fun ls hl => ?_)
              refine lv_iinc (pc := 67) (v := nI ((k + 1))) (lv' := [(4, .int (nI ((k + 1)))), (3, .int (nI (0))), (0, .ref (ad 0)), (1, .int (zI (a))), (2, .int (zI (b)))]) hx hb dX1_same_67 hl (k := 4) rfl (nI_inc _) (by decide) rfl (fun ls hl => ?_)
              refine lv_goto (pc := 70) (tgt := 22) hx hb dX1_same_70 (by decide) ?_
              exact ih_22 ((k + 1)) (0) (by omega) (by omega) (by rcases ht with z | z; omega; exact Or.inr ⟨rfl, z.2⟩) _ _ _ hP hD hS (lv_sub hl [2, 3, 4, 1, 0] rfl)
            · skip
              refine lv_aload_n (pc := 33) hx hb dX1_same_33 rfl (lv_at hl 0 rfl) ?_
              refine va_get (pc := 34) (D := dd) (ci := 1) (v := .ref (ad 2)) (C := RX1) (T := TX1) (N := 11) hx hb hts hin hown hK hP 0 rfl rfl 5 (by decide) (hts (.fieldLink RX1 13 "TurningSumsModel" "hold" "[J") (by decide +kernel)) (fun _ h9 => h9) rfl dX1_same_34 ?_
              refine nv_bipush (pc := 37) (k := 12) hx hb dX1_same_37 rfl (by decide) ?_
              refine lv_iload_n (pc := 39) hx hb dX1_same_39 rfl (lv_at hl 1 rfl) ?_
              refine tq_i (y := nI (a.toNat)) (zI_toNat (by omega)) ?_
              refine nv_imul (pc := 40) hx hb dX1_same_40 ?_
              refine lv_iload (pc := 41) hx hb dX1_same_41 (lv_at hl 4 rfl) ?_
              refine nv_iadd (pc := 43) hx hb dX1_same_43 ?_
              refine nv_lald (pc := 44) hx hb hK hP 2 1 rfl rfl (i := ((12 * a.toNat) + k)) (by omega) (by decide) (v := (if k < phN D then zL (hv a.toNat k).toInt else zL 0)) (hL a.toNat (by omega) k (by omega)) dX1_same_44 ?_
              refine lv_aload_n (pc := 45) hx hb dX1_same_45 rfl (lv_at hl 0 rfl) ?_
              refine va_get (pc := 46) (D := dd) (ci := 1) (v := .ref (ad 2)) (C := RX1) (T := TX1) (N := 11) hx hb hts hin hown hK hP 0 rfl rfl 5 (by decide) (hts (.fieldLink RX1 13 "TurningSumsModel" "hold" "[J") (by decide +kernel)) (fun _ h9 => h9) rfl dX1_same_46 ?_
              refine nv_bipush (pc := 49) (k := 12) hx hb dX1_same_49 rfl (by decide) ?_
              refine lv_iload_n (pc := 51) hx hb dX1_same_51 rfl (lv_at hl 2 rfl) ?_
              refine tq_i (y := nI (b.toNat)) (zI_toNat (by omega)) ?_
              refine nv_imul (pc := 52) hx hb dX1_same_52 ?_
              refine lv_iload (pc := 53) hx hb dX1_same_53 (lv_at hl 4 rfl) ?_
              refine nv_iadd (pc := 55) hx hb dX1_same_55 ?_
              refine nv_lald (pc := 56) hx hb hK hP 2 1 rfl rfl (i := ((12 * b.toNat) + k)) (by omega) (by decide) (v := (if k < phN D then zL (hv b.toNat k).toInt else zL 0)) (hL b.toNat (by omega) k (by omega)) dX1_same_56 ?_
              refine W.lcmp (pc := 57) hx hb dX1_same_57 ?_
              refine cv_if_ne (pc := 58) (tgt := 65) hx hb dX1_same_58 (by decide) (fun h58 => ?_) (fun h58 => ?_)
              · skip
                refine nv_iconst (pc := 65) (k := 0) hx hb dX1_same_65 rfl ?_
                refine lv_istore_n (pc := 66) (lv' := [(3, .int (nI (0))), (0, .ref (ad 0)), (1, .int (zI (a))), (2, .int (zI (b))), (4, .int (nI (k)))]) hx hb dX1_same_66 rfl hl (by decide) rfl (fun ls hl => ?_)
                refine lv_iinc (pc := 67) (v := nI ((k + 1))) (lv' := [(4, .int (nI ((k + 1)))), (3, .int (nI (0))), (0, .ref (ad 0)), (1, .int (zI (a))), (2, .int (zI (b)))]) hx hb dX1_same_67 hl (k := 4) rfl (nI_inc _) (by decide) rfl (fun ls hl => ?_)
                refine lv_goto (pc := 70) (tgt := 22) hx hb dX1_same_70 (by decide) ?_
                exact ih_22 ((k + 1)) (0) (by omega) (by omega) (by by_cases q9 : k < phN D; (rw [if_pos q9, if_pos q9] at h58; exact Or.inr ⟨rfl, k, q9, fun z => h58 (by rw [z])⟩); (rw [if_neg q9, if_neg q9] at h58; exact absurd rfl h58)) _ _ _ hP hD hS (lv_sub hl [2, 3, 4, 1, 0] rfl)
              · skip
                refine nv_iconst (pc := 61) (k := 1) hx hb dX1_same_61 rfl ?_
                refine lv_goto (pc := 62) (tgt := 66) hx hb dX1_same_62 (by decide) ?_
                refine lv_istore_n (pc := 66) (lv' := [(3, .int (nI (1))), (0, .ref (ad 0)), (1, .int (zI (a))), (2, .int (zI (b))), (4, .int (nI (k)))]) hx hb dX1_same_66 rfl hl (by decide) rfl (fun ls hl => ?_)
                refine lv_iinc (pc := 67) (v := nI ((k + 1))) (lv' := [(4, .int (nI ((k + 1)))), (3, .int (nI (1))), (0, .ref (ad 0)), (1, .int (zI (a))), (2, .int (zI (b)))]) hx hb dX1_same_67 hl (k := 4) rfl (nI_inc _) (by decide) rfl (fun ls hl => ?_)
                refine lv_goto (pc := 70) (tgt := 22) hx hb dX1_same_70 (by decide) ?_
                exact ih_22 ((k + 1)) (1) (by omega) (by omega) (by rcases ht with z | z; (exact Or.inl ⟨rfl, fun q w1 w2 => (Nat.lt_or_ge q k).elim (fun w => z.2 q w w2) (fun w => by have e : q = k := (by omega); subst e; rw [if_pos w2, if_pos w2] at h58; exact zL_inj h58)⟩); omega) _ _ _ hP hD hS (lv_sub hl [2, 3, 4, 1, 0] rfl)
      exact L22 _ (0) (1) (Nat.lt_succ_self _) (by omega) (Or.inl ⟨rfl, fun q z => by omega⟩) _ _ _ hP hD hS (lv_sub hl [2, 3, 4, 1, 0] rfl)
    · skip
      refine lv_bipush (pc := 14) (v := zI (-2)) hx hb dX1_same_14 (by decide) ?_
      exact hret _ _ _ _ _ (()) (by unfold smS; rw [if_neg (by omega)]) hP hD hS dX1_same_16
set_option maxHeartbeats 4000000 in
set_option maxRecDepth 100000 in
theorem c_X1_empty (l : Launch) (dd : va_G) {ad : Nat → Nat} {cI cL cQ : ClassId}  {P : Nat} {G : Nat} {D : Nat} {F : Nat} {ix : Nat → Int32} {ho : Nat → Int64} {re : Nat → Int32} {wk : Nat → Int64} {tu : Nat → Int64} {wa : Nat → Int64} {nx : Nat → Int64}   : CTv l yX1_empty wsX1_empty ({ frames := 0, cells := 0, slots := 0, locals := 0 } : Room) dd (tysA cI cL cQ) (am_no) [.ref (ad 0)] (wM ad cI cL (P) (G) (D) (F) (ix) (ho) (re) (wk) (tu) (wa) (nx)) (fun (u : Nat → Int64) => ∀ k, k < 24 → u k = zL 0) (fun (u : Nat → Int64) => (wM ad cI cL (P) (G) (D) (F) (ix) (ho) (re) (u) (tu) (wa) (nx))) := by
  refine CTv_of (cc := cX1_empty) (maxL := 2) (by decide +kernel) rfl (Nat.le_of_ble_eq_true rfl) ?_
  intro p e s m args below meth c A Q ls H locs hx hb hts hown hml hP hK hD hS hA hX hl hret
  have hin : ∀ w ∈ wsX10, w ∈ wsX1_empty := by decide +kernel
  have hl : lv_has ls 2 [(0, .ref (ad 0))] := hl
  refine nv_iconst (pc := 0) (k := 0) hx hb dX1_empty_0 rfl ?_
  refine lv_istore_n (pc := 1) (lv' := [(1, .int (nI (0))), (0, .ref (ad 0))]) hx hb dX1_empty_1 rfl hl (by decide) rfl (fun ls hl => ?_)
  have L2 : ∀ (n9_2 : Nat), ∀ (k : Nat) (wv : Nat → Int64), 25 - k < n9_2 → (k ≤ 24) → (∀ a, a < k → wv a = zL 0) → ∀ (H : Heap) (locs : List Loc) (ls : Array Slot), va_P dd vwCl (wM ad cI cL (P) (G) (D) (F) (ix) (ho) (re) (wv) (tu) (wa) (nx)) H → va_D A (wM ad cI cL (P) (G) (D) (F) (ix) (ho) (re) (wv) (tu) (wa) (nx)) → va_S A s.heap H locs → lv_has ls 2 [(0, .ref (ad 0)), (1, .int (nI (k)))] → W p l e ({ frames := 0, cells := 0, slots := 0, locals := 0 } : Room) s m args below meth c H locs 0 0 Q (F0 m 2 ls []) := by
    intro n9_2
    induction n9_2 with
    | zero => intro k wv hm; exact absurd hm (Nat.not_lt_zero _)
    | succ n9_2 ih_2 =>
      intro k wv hm_2 hk hz H locs ls hP hD hS hl
      refine lv_iload_n (pc := 2) hx hb dX1_empty_2 rfl (lv_at hl 1 rfl) ?_
      refine nv_bipush (pc := 3) (k := 24) hx hb dX1_empty_3 rfl (by decide) ?_
      refine nv_icmp_ge (pc := 5) (tgt := 21) hx hb (a := k) (b := 24) (by omega) (by omega) dX1_empty_5 (by decide) (fun h5 => ?_) (fun h5 => ?_)
      · skip
        exact hret _ _ _ _ (wv) (fun a b => hz a (by omega)) hP hD hS dX1_empty_21
      · skip
        refine lv_aload_n (pc := 8) hx hb dX1_empty_8 rfl (lv_at hl 0 rfl) ?_
        refine va_get (pc := 9) (D := dd) (ci := 1) (v := .ref (ad 4)) (C := RX1) (T := TX1) (N := 11) hx hb hts hin hown hK hP 0 rfl rfl 7 (by decide) (hts (.fieldLink RX1 20 "TurningSumsModel" "work" "[J") (by decide +kernel)) (fun _ h9 => h9) rfl dX1_empty_9 ?_
        refine lv_iload_n (pc := 12) hx hb dX1_empty_12 rfl (lv_at hl 1 rfl) ?_
        refine lv_lconst (pc := 13) (v := zL 0) hx hb dX1_empty_13 (by decide) ?_
        refine nv_last (pc := 14) hx hb hK hP hD hS 4 1 rfl rfl (by omega) (by decide) (ws' := (wM ad cI cL (P) (G) (D) (F) (ix) (ho) (re) ((vp_updL (wv) (k) (zL 0))) (tu) (wa) (nx))) rfl dX1_empty_14 (fun H locs hP hD hS => ?_)
        refine lv_iinc (pc := 15) (v := nI ((k + 1))) (lv' := [(1, .int (nI ((k + 1)))), (0, .ref (ad 0))]) hx hb dX1_empty_15 hl (k := 1) rfl (nI_inc _) (by decide) rfl (fun ls hl => ?_)
        refine lv_goto (pc := 18) (tgt := 2) hx hb dX1_empty_18 (by decide) ?_
        exact ih_2 ((k + 1)) ((vp_updL (wv) (k) (zL 0))) (by omega) (by omega) (updcL hz) _ _ _ hP hD hS (lv_sub hl [1, 0] rfl)
  exact L2 _ (0) (wk) (Nat.lt_succ_self _) (by omega) (fun a b => by omega) _ _ _ hP hD hS (lv_sub hl [1, 0] rfl)
