set_option maxHeartbeats 4000000 in
set_option maxRecDepth 100000 in
theorem c_X0_likePower (l : Launch) (dd : va_G) {ad : Nat → Nat} {cI cL cQ : ClassId} {tR : Nat}  {ix : Nat → Int32} {pw : Nat → Int32} {sg : Nat → Int32} {tm : Nat → Int32} {hd : Nat → Nat → Int32} {wk : Nat → Int64} {rc : Nat → Int64} {lc : Nat → Int64} {P : Nat} {D : Nat} {x : Nat} (hP1 : okP P) (hD1 : 1 ≤ D ∧ D ≤ 12) (hI : okI P ix pw) (hxP : x < P) : CTi l yX0_likePower wsX0_likePower ({ frames := 0, cells := 0, slots := 0, locals := 0 } : Room) dd (tysA cI cL cQ) (rX tR) [.ref (ad 0), .int (nI (x))] (wC ad cI cL cQ (ix) (pw) (sg) (tm) (hd) (wk) (rc) (lc) (P) ((rootN P)) (D) ((phN D))) (fun (r : Int32) (u : Unit) => r = nI (x ^ D % P)) (fun (_ : Unit) => (wC ad cI cL cQ (ix) (pw) (sg) (tm) (hd) (wk) (rc) (lc) (P) ((rootN P)) (D) ((phN D)))) := by
  refine CTi_of (cc := cX0_likePower) (maxL := 2) (by decide +kernel) rfl (Nat.le_of_ble_eq_true rfl) ?_
  intro p e s m args below meth c A Q ls H locs hx hb hts hown hml hP hK hD hS hA hX hl hret
  have hin : ∀ w ∈ wsX00, w ∈ wsX0_likePower := by decide +kernel
  have hl : lv_has ls 2 [(0, .ref (ad 0)), (1, .int (nI (x)))] := hl
  obtain ⟨o1, o2, o3, o4, o5, o6⟩ := id hP1
  have hph := ph_rng D (by omega) hD1.1
  obtain ⟨hix, hpw⟩ := id hI
  have hlt := ixN_le P x
  have hq := Nat.mul_le_mul (show ixN P x ≤ 200 by omega) hD1.2
  have hm := Nat.mod_lt (ixN P x * D) (show 0 < P - 1 by omega)
  refine lv_iload_n (pc := 0) hx hb dX0_likePower_0 rfl (lv_at hl 1 rfl) ?_
  refine nv_if_ne (pc := 1) (tgt := 8) hx hb (a := x) (by omega) dX0_likePower_1 (by decide) (fun h1 => ?_) (fun h1 => ?_)
  · skip
    refine lv_aload_n (pc := 8) hx hb dX0_likePower_8 rfl (lv_at hl 0 rfl) ?_
    refine va_get (pc := 9) (D := dd) (ci := 0) (v := .ref (ad 2)) (C := RX0) (T := TX0) (N := 12) hx hb hts hin hown hK hP 0 rfl rfl 1 (by decide) (hts (.fieldLink RX0 13 "TurningSums" "powerOf" "[I") (by decide +kernel)) (fun _ h9 => h9) rfl dX0_likePower_9 ?_
    refine lv_aload_n (pc := 12) hx hb dX0_likePower_12 rfl (lv_at hl 0 rfl) ?_
    refine va_get (pc := 13) (D := dd) (ci := 0) (v := .ref (ad 1)) (C := RX0) (T := TX0) (N := 12) hx hb hts hin hown hK hP 0 rfl rfl 0 (by decide) (hts (.fieldLink RX0 9 "TurningSums" "indexOf" "[I") (by decide +kernel)) (fun _ h9 => h9) rfl dX0_likePower_13 ?_
    refine lv_iload_n (pc := 16) hx hb dX0_likePower_16 rfl (lv_at hl 1 rfl) ?_
    refine nv_iald (pc := 17) hx hb hK hP 1 0 rfl rfl (i := x) (by omega) (by decide) (v := nI ((ixN P (x)))) (hix _ (by omega) (by omega)) dX0_likePower_17 ?_
    refine lv_aload_n (pc := 18) hx hb dX0_likePower_18 rfl (lv_at hl 0 rfl) ?_
    refine va_get (pc := 19) (D := dd) (ci := 0) (v := .int (nI (D))) (C := RX0) (T := TX0) (N := 12) hx hb hts hin hown hK hP 0 rfl rfl 10 (by decide) (hts (.fieldLink RX0 74 "TurningSums" "d" "I") (by decide +kernel)) (fun _ h9 => h9) rfl dX0_likePower_19 ?_
    refine nv_imul (pc := 22) hx hb dX0_likePower_22 ?_
    refine lv_aload_n (pc := 23) hx hb dX0_likePower_23 rfl (lv_at hl 0 rfl) ?_
    refine va_get (pc := 24) (D := dd) (ci := 0) (v := .int (nI (P))) (C := RX0) (T := TX0) (N := 12) hx hb hts hin hown hK hP 0 rfl rfl 8 (by decide) (hts (.fieldLink RX0 49 "TurningSums" "p" "I") (by decide +kernel)) (fun _ h9 => h9) rfl dX0_likePower_24 ?_
    refine nv_iconst (pc := 27) (k := 1) hx hb dX0_likePower_27 rfl ?_
    refine nv_isub (pc := 28) hx hb (by omega) dX0_likePower_28 ?_
    refine nv_irem (pc := 29) hx hb (by omega) (by omega) (by omega) dX0_likePower_29 ?_
    refine nv_iald (pc := 30) hx hb hK hP 2 0 rfl rfl (i := (((ixN P (x)) * D) % (P - 1))) (by omega) (by decide) (v := nI ((rootN P ^ ((((ixN P (x)) * D) % (P - 1))) % P))) (hpw _ (by omega)) dX0_likePower_30 ?_
    exact hret _ _ _ _ _ (()) (by rw [lk_pw hP1 (by omega) (by omega) hxP]) hP hD hS dX0_likePower_31
  · skip
    refine nv_iconst (pc := 4) (k := 0) hx hb dX0_likePower_4 rfl ?_
    refine lv_goto (pc := 5) (tgt := 31) hx hb dX0_likePower_5 (by decide) ?_
    exact hret _ _ _ _ _ (()) (by rw [h1, Nat.zero_pow (by omega), Nat.zero_mod]) hP hD hS dX0_likePower_31
set_option maxHeartbeats 4000000 in
set_option maxRecDepth 100000 in
theorem c_X0_solutions (l : Launch) (dd : va_G) {ad : Nat → Nat} {cI cL cQ : ClassId} {tR : Nat}  {ix : Nat → Int32} {pw : Nat → Int32} {sg : Nat → Int32} {tm : Nat → Int32} {hd : Nat → Nat → Int32} {wk : Nat → Int64} {rc : Nat → Int64} {lc : Nat → Int64} {P : Nat} {D : Nat} {a : Int} {b : Int} {c9 : Int} (har : -2147483648 ≤ a ∧ a < 2147483648) (hbr : -2147483648 ≤ b ∧ b < 2147483648) (hcr : -2147483648 ≤ c9 ∧ c9 < 2147483648) (hP1 : okP P) (hD1 : 1 ≤ D ∧ D ≤ 12) (hI : okI P ix pw) : CTi l yX0_solutions wsX0_solutions ({ frames := 1, cells := 0, slots := 0, locals := 23 } : Room) dd (tysA cI cL cQ) (rX tR) [.ref (ad 0), .int (zI (a)), .int (zI (b)), .int (zI (c9))] (wC ad cI cL cQ (ix) (pw) (sg) (tm) (hd) (wk) (rc) (lc) (P) ((rootN P)) (D) ((phN D))) (fun (r : Int32) (u : Nat → Int32) => r = zI (eqS P D a b c9 P)) (fun (u : Nat → Int32) => (wC ad cI cL cQ (ix) (pw) (sg) (u) (hd) (wk) (rc) (lc) (P) ((rootN P)) (D) ((phN D)))) := by
  refine CTi_of (cc := cX0_solutions) (maxL := 9) (by decide +kernel) rfl (Nat.le_of_ble_eq_true rfl) ?_
  intro p e s m args below meth c A Q ls H locs hx hb hts hown hml hP hK hD hS hA hX hl hret
  have hin : ∀ w ∈ wsX00, w ∈ wsX0_solutions := by decide +kernel
  have hl : lv_has ls 9 [(0, .ref (ad 0)), (1, .int (zI (a))), (2, .int (zI (b))), (3, .int (zI (c9)))] := hl
  obtain ⟨o1, o2, o3, o4, o5, o6⟩ := id hP1
  have hph := ph_rng D (by omega) hD1.1
  obtain ⟨hix, hpw⟩ := id hI
  have hf1 := fmN_lt a (show 0 < P by omega)
  have hf2 := fmN_lt b (show 0 < P by omega)
  have hf3 := fmN_lt c9 (show 0 < P by omega)
  refine lv_iload_n (pc := 0) hx hb dX0_solutions_0 rfl (lv_at hl 1 rfl) ?_
  refine lv_aload_n (pc := 1) hx hb dX0_solutions_1 rfl (lv_at hl 0 rfl) ?_
  refine va_get (pc := 2) (D := dd) (ci := 0) (v := .int (nI (P))) (C := RX0) (T := TX0) (N := 12) hx hb hts hin hown hK hP 0 rfl rfl 8 (by decide) (hts (.fieldLink RX0 49 "TurningSums" "p" "I") (by decide +kernel)) (fun _ h9 => h9) rfl dX0_solutions_2 ?_
  refine CTi_S0 (pc := 5) am_no_ok (As := [.int (zI (a)), .int (nI (P))]) (rest := []) ⟨hx, hb, hml, hown, hts⟩ (c_J9_floorMod_7cf53 l dd (by omega) (by omega) (by omega)) (va_cwS 2 hts gX0_solutions_J9_floorMod_7cf53 rfl rfl rfl (by decide +kernel) ⟨Nat.le_of_ble_eq_true rfl, Nat.le_of_ble_eq_true rfl⟩) hK hP hD hS hA trivial rfl hl.1 rfl (Nat.le_of_ble_eq_true rfl) ⟨Nat.zero_le _, Nat.zero_le _⟩ dX0_solutions_5 (fun r u H locs hw hP hD hS => ?_)
  try dsimp only at hw
  subst hw
  refine lv_istore (pc := 8) (lv' := [(4, .int (nI ((fmN (a) (P))))), (0, .ref (ad 0)), (1, .int (zI (a))), (2, .int (zI (b))), (3, .int (zI (c9)))]) hx hb dX0_solutions_8 hl (by decide) rfl (fun ls hl => ?_)
  refine lv_iload_n (pc := 10) hx hb dX0_solutions_10 rfl (lv_at hl 3 rfl) ?_
  refine lv_aload_n (pc := 11) hx hb dX0_solutions_11 rfl (lv_at hl 1 rfl) ?_
  refine va_get (pc := 12) (D := dd) (ci := 0) (v := .int (nI (P))) (C := RX0) (T := TX0) (N := 12) hx hb hts hin hown hK hP 0 rfl rfl 8 (by decide) (hts (.fieldLink RX0 49 "TurningSums" "p" "I") (by decide +kernel)) (fun _ h9 => h9) rfl dX0_solutions_12 ?_
  refine CTi_S0 (pc := 15) am_no_ok (As := [.int (zI (b)), .int (nI (P))]) (rest := []) ⟨hx, hb, hml, hown, hts⟩ (c_J9_floorMod_7cf53 l dd (by omega) (by omega) (by omega)) (va_cwS 2 hts gX0_solutions_J9_floorMod_7cf53 rfl rfl rfl (by decide +kernel) ⟨Nat.le_of_ble_eq_true rfl, Nat.le_of_ble_eq_true rfl⟩) hK hP hD hS hA trivial rfl hl.1 rfl (Nat.le_of_ble_eq_true rfl) ⟨Nat.zero_le _, Nat.zero_le _⟩ dX0_solutions_15 (fun r u H locs hw hP hD hS => ?_)
  try dsimp only at hw
  subst hw
  refine lv_istore (pc := 18) (lv' := [(5, .int (nI ((fmN (b) (P))))), (4, .int (nI ((fmN (a) (P))))), (0, .ref (ad 0)), (1, .int (zI (a))), (2, .int (zI (b))), (3, .int (zI (c9)))]) hx hb dX0_solutions_18 hl (by decide) rfl (fun ls hl => ?_)
  refine lv_iload_n (pc := 20) hx hb dX0_solutions_20 rfl (lv_at hl 5 rfl) ?_
  refine lv_aload_n (pc := 21) hx hb dX0_solutions_21 rfl (lv_at hl 2 rfl) ?_
  refine va_get (pc := 22) (D := dd) (ci := 0) (v := .int (nI (P))) (C := RX0) (T := TX0) (N := 12) hx hb hts hin hown hK hP 0 rfl rfl 8 (by decide) (hts (.fieldLink RX0 49 "TurningSums" "p" "I") (by decide +kernel)) (fun _ h9 => h9) rfl dX0_solutions_22 ?_
  refine CTi_S0 (pc := 25) am_no_ok (As := [.int (zI (c9)), .int (nI (P))]) (rest := []) ⟨hx, hb, hml, hown, hts⟩ (c_J9_floorMod_7cf53 l dd (by omega) (by omega) (by omega)) (va_cwS 2 hts gX0_solutions_J9_floorMod_7cf53 rfl rfl rfl (by decide +kernel) ⟨Nat.le_of_ble_eq_true rfl, Nat.le_of_ble_eq_true rfl⟩) hK hP hD hS hA trivial rfl hl.1 rfl (Nat.le_of_ble_eq_true rfl) ⟨Nat.zero_le _, Nat.zero_le _⟩ dX0_solutions_25 (fun r u H locs hw hP hD hS => ?_)
  try dsimp only at hw
  subst hw
  refine lv_istore (pc := 28) (lv' := [(6, .int (nI ((fmN (c9) (P))))), (5, .int (nI ((fmN (b) (P))))), (4, .int (nI ((fmN (a) (P))))), (0, .ref (ad 0)), (1, .int (zI (a))), (2, .int (zI (b))), (3, .int (zI (c9)))]) hx hb dX0_solutions_28 hl (by decide) rfl (fun ls hl => ?_)
  refine lv_aload_n (pc := 30) hx hb dX0_solutions_30 rfl (lv_at hl 3 rfl) ?_
  refine va_get (pc := 31) (D := dd) (ci := 0) (v := .ref (ad 4)) (C := RX0) (T := TX0) (N := 12) hx hb hts hin hown hK hP 0 rfl rfl 3 (by decide) (hts (.fieldLink RX0 19 "TurningSums" "timesOf" "[I") (by decide +kernel)) (fun _ h9 => h9) rfl dX0_solutions_31 ?_
  refine nv_iconst (pc := 34) (k := 0) hx hb dX0_solutions_34 rfl ?_
  refine CTv_Sp (pc := 35) am_no_ok (As := [.ref (ad 4), .int (nI (0))]) (rest := []) ⟨hx, hb, hml, hown, hts⟩ (c_J7_fill_53178 l dd (by decide)) (va_cwS 2 hts gX0_solutions_J7_fill_53178 rfl rfl rfl (by decide +kernel) ⟨Nat.le_of_ble_eq_true rfl, Nat.le_of_ble_eq_true rfl⟩) hK hP hD hS hA trivial [4] [0, 1, 2, 3, 5, 6, 7, 8, 9, 10, 11, 12, 13, 14] rfl rfl rfl rfl (by decide) rfl hl.1 rfl (Nat.le_of_ble_eq_true rfl) ⟨Nat.zero_le _, Nat.zero_le _⟩ dX0_solutions_35 (fun u H locs hw hP hD hS => ?_)
  try dsimp only at hw
  subst hw
  have hP : va_P dd vwCl (wC ad cI cL cQ (ix) (pw) (sg) ((fun k => if k < 199 then nI (0) else (tm) k)) (hd) (wk) (rc) (lc) (P) ((rootN P)) (D) ((phN D))) H := hP.sub [0, 1, 2, 3, 14, 4, 5, 6, 7, 8, 9, 10, 11, 12, 13] rfl
  have hD : va_D A (wC ad cI cL cQ (ix) (pw) (sg) ((fun k => if k < 199 then nI (0) else (tm) k)) (hd) (wk) (rc) (lc) (P) ((rootN P)) (D) ((phN D))) := hD.sub [0, 1, 2, 3, 14, 4, 5, 6, 7, 8, 9, 10, 11, 12, 13] (by decide) rfl
  refine nv_iconst (pc := 38) (k := 0) hx hb dX0_solutions_38 rfl ?_
  refine lv_istore (pc := 39) (lv' := [(7, .int (nI (0))), (6, .int (nI ((fmN (c9) (P))))), (5, .int (nI ((fmN (b) (P))))), (4, .int (nI ((fmN (a) (P))))), (0, .ref (ad 0)), (1, .int (zI (a))), (2, .int (zI (b))), (3, .int (zI (c9)))]) hx hb dX0_solutions_39 hl (by decide) rfl (fun ls hl => ?_)
  have L41 : ∀ (n9_41 : Nat), ∀ (x : Nat) (tmv : Nat → Int32), P + 1 - x < n9_41 → (x ≤ P) → (∀ v, v < P → tmv v = zI (tmS P D a v x)) → ∀ (H : Heap) (locs : List Loc) (ls : Array Slot), va_P dd vwCl (wC ad cI cL cQ (ix) (pw) (sg) (tmv) (hd) (wk) (rc) (lc) (P) ((rootN P)) (D) ((phN D))) H → va_D A (wC ad cI cL cQ (ix) (pw) (sg) (tmv) (hd) (wk) (rc) (lc) (P) ((rootN P)) (D) ((phN D))) → va_S A s.heap H locs → lv_has ls 9 [(0, .ref (ad 0)), (1, .int (zI (a))), (2, .int (zI (b))), (3, .int (zI (c9))), (4, .int (nI ((fmN (a) (P))))), (5, .int (nI ((fmN (b) (P))))), (6, .int (nI ((fmN (c9) (P))))), (7, .int (nI (x)))] → W p l e ({ frames := 1, cells := 0, slots := 0, locals := 23 } : Room) s m args below meth c H locs 0 0 Q (F0 m 41 ls []) := by
    intro n9_41
    induction n9_41 with
    | zero => intro x tmv hm; exact absurd hm (Nat.not_lt_zero _)
    | succ n9_41 ih_41 =>
      intro x tmv hm_41 hx9 ht H locs ls hP hD hS hl
      have hl9 := Nat.mod_lt (x ^ D) (show 0 < P by omega)
      have hm := Nat.mod_lt (fmN a P * (x ^ D % P)) (show 0 < P by omega)
      refine lv_iload (pc := 41) hx hb dX0_solutions_41 (lv_at hl 7 rfl) ?_
      refine lv_aload_n (pc := 43) hx hb dX0_solutions_43 rfl (lv_at hl 0 rfl) ?_
      refine va_get (pc := 44) (D := dd) (ci := 0) (v := .int (nI (P))) (C := RX0) (T := TX0) (N := 12) hx hb hts hin hown hK hP 0 rfl rfl 8 (by decide) (hts (.fieldLink RX0 49 "TurningSums" "p" "I") (by decide +kernel)) (fun _ h9 => h9) rfl dX0_solutions_44 ?_
      refine nv_icmp_ge (pc := 47) (tgt := 79) hx hb (a := x) (b := P) (by omega) (by omega) dX0_solutions_47 (by decide) (fun h47 => ?_) (fun h47 => ?_)
      · skip
        refine nv_iconst (pc := 79) (k := 0) hx hb dX0_solutions_79 rfl ?_
        refine lv_istore (pc := 80) (lv' := [(7, .int (nI (0))), (0, .ref (ad 0)), (1, .int (zI (a))), (2, .int (zI (b))), (3, .int (zI (c9))), (4, .int (nI ((fmN (a) (P))))), (5, .int (nI ((fmN (b) (P))))), (6, .int (nI ((fmN (c9) (P)))))]) hx hb dX0_solutions_80 hl (by decide) rfl (fun ls hl => ?_)
        refine nv_iconst (pc := 82) (k := 0) hx hb dX0_solutions_82 rfl ?_
        refine lv_istore (pc := 83) (lv' := [(8, .int (nI (0))), (7, .int (nI (0))), (0, .ref (ad 0)), (1, .int (zI (a))), (2, .int (zI (b))), (3, .int (zI (c9))), (4, .int (nI ((fmN (a) (P))))), (5, .int (nI ((fmN (b) (P))))), (6, .int (nI ((fmN (c9) (P)))))]) hx hb dX0_solutions_83 hl (by decide) rfl (fun ls hl => ?_)
        have ht : ∀ v, v < P → tmv v = zI (tmS P D a v P) := by rw [show x = P by omega] at ht; exact ht
        have hl : lv_has ls 9 [(8, .int (nI (0))), (7, .int (zI (0))), (0, .ref (ad 0)), (1, .int (zI (a))), (2, .int (zI (b))), (3, .int (zI (c9))), (4, .int (nI ((fmN (a) (P))))), (5, .int (nI ((fmN (b) (P))))), (6, .int (nI ((fmN (c9) (P)))))] := by
          have e9 : nI (0) = zI (0) := rfl
          rw [← e9]
          exact hl
        have L85 : ∀ (n9_85 : Nat), ∀ (y : Nat) (pr : Int), P + 1 - y < n9_85 → (y ≤ P) → (pr = prS P D a b c9 y) → ∀ (H : Heap) (locs : List Loc) (ls : Array Slot), va_P dd vwCl (wC ad cI cL cQ (ix) (pw) (sg) (tmv) (hd) (wk) (rc) (lc) (P) ((rootN P)) (D) ((phN D))) H → va_D A (wC ad cI cL cQ (ix) (pw) (sg) (tmv) (hd) (wk) (rc) (lc) (P) ((rootN P)) (D) ((phN D))) → va_S A s.heap H locs → lv_has ls 9 [(0, .ref (ad 0)), (1, .int (zI (a))), (2, .int (zI (b))), (3, .int (zI (c9))), (4, .int (nI ((fmN (a) (P))))), (5, .int (nI ((fmN (b) (P))))), (6, .int (nI ((fmN (c9) (P))))), (7, .int (zI (pr))), (8, .int (nI (y)))] → W p l e ({ frames := 1, cells := 0, slots := 0, locals := 23 } : Room) s m args below meth c H locs 0 0 Q (F0 m 85 ls []) := by
          intro n9_85
          induction n9_85 with
          | zero => intro y pr hm; exact absurd hm (Nat.not_lt_zero _)
          | succ n9_85 ih_85 =>
            intro y pr hm_85 hy9 hpr H locs ls hP hD hS hl
            have hl9 := Nat.mod_lt (y ^ D) (show 0 < P by omega)
            have hbb := mul_b o2 hf2 hl9
            have hm := fmN_lt ((fmN c9 P : Int) - ((fmN b P * (y ^ D % P) : Nat) : Int)) (show 0 < P by omega)
            have hb2 := Nat.mul_le_mul (show fmN b P ≤ 199 by omega) (show y ^ D % P ≤ 199 by omega)
            refine lv_iload (pc := 85) hx hb dX0_solutions_85 (lv_at hl 8 rfl) ?_
            refine lv_aload_n (pc := 87) hx hb dX0_solutions_87 rfl (lv_at hl 0 rfl) ?_
            refine va_get (pc := 88) (D := dd) (ci := 0) (v := .int (nI (P))) (C := RX0) (T := TX0) (N := 12) hx hb hts hin hown hK hP 0 rfl rfl 8 (by decide) (hts (.fieldLink RX0 49 "TurningSums" "p" "I") (by decide +kernel)) (fun _ h9 => h9) rfl dX0_solutions_88 ?_
            refine nv_icmp_ge (pc := 91) (tgt := 129) hx hb (a := y) (b := P) (by omega) (by omega) dX0_solutions_91 (by decide) (fun h91 => ?_) (fun h91 => ?_)
            · skip
              refine lv_iload (pc := 129) hx hb dX0_solutions_129 (lv_at hl 7 rfl) ?_
              exact hret _ _ _ _ _ (tmv) (by rw [hpr, show y = P by omega, pr_eq (by omega)]) hP hD hS dX0_solutions_131
            · skip
              refine lv_iload (pc := 94) hx hb dX0_solutions_94 (lv_at hl 7 rfl) ?_
              refine lv_aload_n (pc := 96) hx hb dX0_solutions_96 rfl (lv_at hl 0 rfl) ?_
              refine va_get (pc := 97) (D := dd) (ci := 0) (v := .ref (ad 4)) (C := RX0) (T := TX0) (N := 12) hx hb hts hin hown hK hP 0 rfl rfl 3 (by decide) (hts (.fieldLink RX0 19 "TurningSums" "timesOf" "[I") (by decide +kernel)) (fun _ h9 => h9) rfl dX0_solutions_97 ?_
              refine lv_iload (pc := 100) hx hb dX0_solutions_100 (lv_at hl 6 rfl) ?_
              refine lv_iload (pc := 102) hx hb dX0_solutions_102 (lv_at hl 5 rfl) ?_
              refine lv_aload_n (pc := 104) hx hb dX0_solutions_104 rfl (lv_at hl 0 rfl) ?_
              refine lv_iload (pc := 105) hx hb dX0_solutions_105 (lv_at hl 8 rfl) ?_
              refine CTi_Vw (pc := 107) (rX_ok tR) (As := [.int (nI (y))]) (rest := [.int (nI ((fmN (b) (P)))), .int (nI ((fmN (c9) (P)))), .ref (ad 4), .int (zI (pr))]) ⟨hx, hb, hml, hown, hts⟩ (c_X0_likePower l dd hP1 hD1 hI (by omega)) (cwV 1 hts gX0_solutions_X0_likePower rfl rfl rfl (by decide +kernel) ⟨Nat.le_of_ble_eq_true rfl, Nat.le_of_ble_eq_true rfl⟩) hK hP hD hS hA hX hK 0 0 rfl rfl rfl rfl hl.1 rfl (Nat.le_of_ble_eq_true rfl) ⟨Nat.zero_le _, Nat.zero_le _⟩ dX0_solutions_107 (fun r u H locs hw hP hD hS => ?_)
              try dsimp only at hw
              subst hw
              refine nv_imul (pc := 110) hx hb dX0_solutions_110 ?_
              refine zv_2 (pc := 111) (a := ((((fmN (b) (P)) * ((y) ^ D % P)) : Nat) : Int)) (b := (((fmN (c9) (P)) : Nat) : Int)) ((nI_zI _)) ((nI_zI _)) ?_
              refine zv_isub (pc := 111) hx hb dX0_solutions_111 ?_
              refine lv_aload_n (pc := 112) hx hb dX0_solutions_112 rfl (lv_at hl 0 rfl) ?_
              refine va_get (pc := 113) (D := dd) (ci := 0) (v := .int (nI (P))) (C := RX0) (T := TX0) (N := 12) hx hb hts hin hown hK hP 0 rfl rfl 8 (by decide) (hts (.fieldLink RX0 49 "TurningSums" "p" "I") (by decide +kernel)) (fun _ h9 => h9) rfl dX0_solutions_113 ?_
              refine CTi_S0 (pc := 116) am_no_ok (As := [.int (zI (((((fmN (c9) (P)) : Nat) : Int) - ((((fmN (b) (P)) * ((y) ^ D % P)) : Nat) : Int)))), .int (nI (P))]) (rest := [.ref (ad 4), .int (zI (pr))]) ⟨hx, hb, hml, hown, hts⟩ (c_J9_floorMod_7cf53 l dd (by omega) (by omega) (by omega)) (va_cwS 2 hts gX0_solutions_J9_floorMod_7cf53 rfl rfl rfl (by decide +kernel) ⟨Nat.le_of_ble_eq_true rfl, Nat.le_of_ble_eq_true rfl⟩) hK hP hD hS hA trivial rfl hl.1 rfl (Nat.le_of_ble_eq_true rfl) ⟨Nat.zero_le _, Nat.zero_le _⟩ dX0_solutions_116 (fun r u H locs hw hP hD hS => ?_)
              try dsimp only at hw
              subst hw
              refine nv_iald (pc := 119) hx hb hK hP 4 0 rfl rfl (i := (fmN (((((fmN (c9) (P)) : Nat) : Int) - ((((fmN (b) (P)) * ((y) ^ D % P)) : Nat) : Int))) (P))) (by omega) (by decide) (v := zI ((tmS P D a ((fmN (((((fmN (c9) (P)) : Nat) : Int) - ((((fmN (b) (P)) * ((y) ^ D % P)) : Nat) : Int))) (P))) P))) (ht _ hm) dX0_solutions_119 ?_
              refine zv_iadd (pc := 120) hx hb dX0_solutions_120 ?_
              refine lv_istore (pc := 121) (lv' := [(7, .int (zI ((pr + (tmS P D a ((fmN (((((fmN (c9) (P)) : Nat) : Int) - ((((fmN (b) (P)) * ((y) ^ D % P)) : Nat) : Int))) (P))) P))))), (0, .ref (ad 0)), (1, .int (zI (a))), (2, .int (zI (b))), (3, .int (zI (c9))), (4, .int (nI ((fmN (a) (P))))), (5, .int (nI ((fmN (b) (P))))), (6, .int (nI ((fmN (c9) (P))))), (8, .int (nI (y)))]) hx hb dX0_solutions_121 hl (by decide) rfl (fun ls hl => ?_)
              refine lv_iinc (pc := 123) (v := nI ((y + 1))) (lv' := [(8, .int (nI ((y + 1)))), (7, .int (zI ((pr + (tmS P D a ((fmN (((((fmN (c9) (P)) : Nat) : Int) - ((((fmN (b) (P)) * ((y) ^ D % P)) : Nat) : Int))) (P))) P))))), (0, .ref (ad 0)), (1, .int (zI (a))), (2, .int (zI (b))), (3, .int (zI (c9))), (4, .int (nI ((fmN (a) (P))))), (5, .int (nI ((fmN (b) (P))))), (6, .int (nI ((fmN (c9) (P)))))]) hx hb dX0_solutions_123 hl (k := 8) rfl (nI_inc _) (by decide) rfl (fun ls hl => ?_)
              refine lv_goto (pc := 126) (tgt := 85) hx hb dX0_solutions_126 (by decide) ?_
              exact ih_85 ((y + 1)) ((pr + (tmS P D a ((fmN (((((fmN (c9) (P)) : Nat) : Int) - ((((fmN (b) (P)) * ((y) ^ D % P)) : Nat) : Int))) (P))) P))) (by omega) (by omega) (by rw [hpr]; rfl) _ _ _ hP hD hS (lv_sub hl [2, 3, 4, 5, 6, 7, 8, 1, 0] rfl)
        exact L85 _ (0) (0) (Nat.lt_succ_self _) (by omega) (rfl) _ _ _ hP hD hS (lv_sub hl [2, 3, 4, 5, 6, 7, 8, 1, 0] rfl)
      · skip
        refine lv_aload_n (pc := 50) hx hb dX0_solutions_50 rfl (lv_at hl 0 rfl) ?_
        refine va_get (pc := 51) (D := dd) (ci := 0) (v := .ref (ad 4)) (C := RX0) (T := TX0) (N := 12) hx hb hts hin hown hK hP 0 rfl rfl 3 (by decide) (hts (.fieldLink RX0 19 "TurningSums" "timesOf" "[I") (by decide +kernel)) (fun _ h9 => h9) rfl dX0_solutions_51 ?_
        refine lv_iload (pc := 54) hx hb dX0_solutions_54 (lv_at hl 4 rfl) ?_
        refine lv_aload_n (pc := 56) hx hb dX0_solutions_56 rfl (lv_at hl 0 rfl) ?_
        refine lv_iload (pc := 57) hx hb dX0_solutions_57 (lv_at hl 7 rfl) ?_
        refine CTi_Vw (pc := 59) (rX_ok tR) (As := [.int (nI (x))]) (rest := [.int (nI ((fmN (a) (P)))), .ref (ad 4)]) ⟨hx, hb, hml, hown, hts⟩ (c_X0_likePower l dd hP1 hD1 hI (by omega)) (cwV 1 hts gX0_solutions_X0_likePower rfl rfl rfl (by decide +kernel) ⟨Nat.le_of_ble_eq_true rfl, Nat.le_of_ble_eq_true rfl⟩) hK hP hD hS hA hX hK 0 0 rfl rfl rfl rfl hl.1 rfl (Nat.le_of_ble_eq_true rfl) ⟨Nat.zero_le _, Nat.zero_le _⟩ dX0_solutions_59 (fun r u H locs hw hP hD hS => ?_)
        try dsimp only at hw
        subst hw
        refine nv_imul (pc := 62) hx hb dX0_solutions_62 ?_
        refine lv_aload_n (pc := 63) hx hb dX0_solutions_63 rfl (lv_at hl 0 rfl) ?_
        refine va_get (pc := 64) (D := dd) (ci := 0) (v := .int (nI (P))) (C := RX0) (T := TX0) (N := 12) hx hb hts hin hown hK hP 0 rfl rfl 8 (by decide) (hts (.fieldLink RX0 49 "TurningSums" "p" "I") (by decide +kernel)) (fun _ h9 => h9) rfl dX0_solutions_64 ?_
        refine nv_irem (pc := 67) hx hb (mul_b o2 hf1 hl9) (by omega) (by omega) dX0_solutions_67 ?_
        refine lv_dup2_11 (pc := 68) hx hb dX0_solutions_68 rfl rfl ?_
        refine nv_iald (pc := 69) hx hb hK hP 4 0 rfl rfl (i := (((fmN (a) (P)) * ((x) ^ D % P)) % P)) (by omega) (by decide) (v := zI ((tmS P D a ((((fmN (a) (P)) * ((x) ^ D % P)) % P)) x))) (ht _ hm) dX0_solutions_69 ?_
        refine nv_iconst (pc := 70) (k := 1) hx hb dX0_solutions_70 rfl ?_
        refine zv_2 (pc := 71) (a := ((1 : Nat) : Int)) (b := (tmS P D a ((((fmN (a) (P)) * ((x) ^ D % P)) % P)) x)) ((nI_zI _)) (rfl) ?_
        refine zv_iadd (pc := 71) hx hb dX0_solutions_71 ?_
        refine nv_iast (pc := 72) hx hb hK hP hD hS 4 0 rfl rfl (by omega) (by decide) (ws' := (wC ad cI cL cQ (ix) (pw) (sg) ((upd (tmv) ((((fmN (a) (P)) * ((x) ^ D % P)) % P)) (zI (((tmS P D a ((((fmN (a) (P)) * ((x) ^ D % P)) % P)) x) + ((1 : Nat) : Int)))))) (hd) (wk) (rc) (lc) (P) ((rootN P)) (D) ((phN D)))) rfl dX0_solutions_72 (fun H locs hP hD hS => ?_)
        refine lv_iinc (pc := 73) (v := nI ((x + 1))) (lv' := [(7, .int (nI ((x + 1)))), (0, .ref (ad 0)), (1, .int (zI (a))), (2, .int (zI (b))), (3, .int (zI (c9))), (4, .int (nI ((fmN (a) (P))))), (5, .int (nI ((fmN (b) (P))))), (6, .int (nI ((fmN (c9) (P)))))]) hx hb dX0_solutions_73 hl (k := 7) rfl (nI_inc _) (by decide) rfl (fun ls hl => ?_)
        refine lv_goto (pc := 76) (tgt := 41) hx hb dX0_solutions_76 (by decide) ?_
        exact ih_41 ((x + 1)) ((upd (tmv) ((((fmN (a) (P)) * ((x) ^ D % P)) % P)) (zI (((tmS P D a ((((fmN (a) (P)) * ((x) ^ D % P)) % P)) x) + ((1 : Nat) : Int)))))) (by omega) (by omega) (tm_s ht) _ _ _ hP hD hS (lv_sub hl [1, 2, 3, 4, 5, 6, 7, 0] rfl)
  exact L41 _ (0) ((fun k => if k < 199 then nI (0) else (tm) k)) (Nat.lt_succ_self _) (by omega) (fun v z => by show (if v < 199 then nI 0 else tm v) = zI 0; rw [if_pos (by omega)]; rfl) _ _ _ hP hD hS (lv_sub hl [4, 5, 6, 7, 3, 2, 1, 0] rfl)
set_option maxHeartbeats 4000000 in
set_option maxRecDepth 100000 in
theorem c_X0_fillSigns (l : Launch) (dd : va_G) {ad : Nat → Nat} {cI cL cQ : ClassId} {tR : Nat}  {ix : Nat → Int32} {pw : Nat → Int32} {sg : Nat → Int32} {tm : Nat → Int32} {hd : Nat → Nat → Int32} {wk : Nat → Int64} {rc : Nat → Int64} {lc : Nat → Int64} {P : Nat} {D : Nat} {b : Int} {ee : Int} (hP1 : okP P) (hD1 : 1 ≤ D ∧ D ≤ 12) (hix : ∀ y, 1 ≤ y → y < P → ix y = nI (ixN P y)) : CTv l yX0_fillSigns wsX0_fillSigns ({ frames := 1, cells := 0, slots := 0, locals := 21 } : Room) dd (tysA cI cL cQ) (rX tR) [.ref (ad 0), .int (zI (b)), .int (zI (ee))] (wC ad cI cL cQ (ix) (pw) (sg) (tm) (hd) (wk) (rc) (lc) (P) ((rootN P)) (D) ((phN D))) (fun (u : Nat → Int32) => ∀ q, q < P → u q = zI (sgS P D b ee q)) (fun (u : Nat → Int32) => (wC ad cI cL cQ (ix) (pw) (u) (tm) (hd) (wk) (rc) (lc) (P) ((rootN P)) (D) ((phN D)))) := by
  refine CTv_of (cc := cX0_fillSigns) (maxL := 4) (by decide +kernel) rfl (Nat.le_of_ble_eq_true rfl) ?_
  intro p e s m args below meth c A Q ls H locs hx hb hts hown hml hP hK hD hS hA hX hl hret
  have hin : ∀ w ∈ wsX00, w ∈ wsX0_fillSigns := by decide +kernel
  have hl : lv_has ls 4 [(0, .ref (ad 0)), (1, .int (zI (b))), (2, .int (zI (ee)))] := hl
  obtain ⟨o1, o2, o3, o4, o5, o6⟩ := id hP1
  have hph := ph_rng D (by omega) hD1.1
  refine lv_aload_n (pc := 0) hx hb dX0_fillSigns_0 rfl (lv_at hl 0 rfl) ?_
  refine va_get (pc := 1) (D := dd) (ci := 0) (v := .ref (ad 3)) (C := RX0) (T := TX0) (N := 12) hx hb hts hin hown hK hP 0 rfl rfl 2 (by decide) (hts (.fieldLink RX0 16 "TurningSums" "signOf" "[I") (by decide +kernel)) (fun _ h9 => h9) rfl dX0_fillSigns_1 ?_
  refine nv_iconst (pc := 4) (k := 0) hx hb dX0_fillSigns_4 rfl ?_
  refine lv_iload_n (pc := 5) hx hb dX0_fillSigns_5 rfl (lv_at hl 2 rfl) ?_
  refine nv_iast (pc := 6) hx hb hK hP hD hS 3 0 rfl rfl (by omega) (by decide) (ws' := (wC ad cI cL cQ (ix) (pw) ((upd (sg) (0) (zI (ee)))) (tm) (hd) (wk) (rc) (lc) (P) ((rootN P)) (D) ((phN D)))) rfl dX0_fillSigns_6 (fun H locs hP hD hS => ?_)
  refine nv_iconst (pc := 7) (k := 1) hx hb dX0_fillSigns_7 rfl ?_
  refine lv_istore_n (pc := 8) (lv' := [(3, .int (nI (1))), (0, .ref (ad 0)), (1, .int (zI (b))), (2, .int (zI (ee)))]) hx hb dX0_fillSigns_8 rfl hl (by decide) rfl (fun ls hl => ?_)
  have L9 : ∀ (n9_9 : Nat), ∀ (x : Nat) (sgv : Nat → Int32), P + 1 - x < n9_9 → (1 ≤ x ∧ x ≤ P) → (∀ q, q < x → sgv q = zI (sgS P D b ee q)) → ∀ (H : Heap) (locs : List Loc) (ls : Array Slot), va_P dd vwCl (wC ad cI cL cQ (ix) (pw) (sgv) (tm) (hd) (wk) (rc) (lc) (P) ((rootN P)) (D) ((phN D))) H → va_D A (wC ad cI cL cQ (ix) (pw) (sgv) (tm) (hd) (wk) (rc) (lc) (P) ((rootN P)) (D) ((phN D))) → va_S A s.heap H locs → lv_has ls 4 [(0, .ref (ad 0)), (1, .int (zI (b))), (2, .int (zI (ee))), (3, .int (nI (x)))] → W p l e ({ frames := 1, cells := 0, slots := 0, locals := 21 } : Room) s m args below meth c H locs 0 0 Q (F0 m 9 ls []) := by
    intro n9_9
    induction n9_9 with
    | zero => intro x sgv hm; exact absurd hm (Nat.not_lt_zero _)
    | succ n9_9 ih_9 =>
      intro x sgv hm_9 hx9 hsg H locs ls hP hD hS hl
      refine lv_iload_n (pc := 9) hx hb dX0_fillSigns_9 rfl (lv_at hl 3 rfl) ?_
      refine lv_aload_n (pc := 10) hx hb dX0_fillSigns_10 rfl (lv_at hl 0 rfl) ?_
      refine va_get (pc := 11) (D := dd) (ci := 0) (v := .int (nI (P))) (C := RX0) (T := TX0) (N := 12) hx hb hts hin hown hK hP 0 rfl rfl 8 (by decide) (hts (.fieldLink RX0 49 "TurningSums" "p" "I") (by decide +kernel)) (fun _ h9 => h9) rfl dX0_fillSigns_11 ?_
      refine nv_icmp_ge (pc := 14) (tgt := 47) hx hb (a := x) (b := P) (by omega) (by omega) dX0_fillSigns_14 (by decide) (fun h14 => ?_) (fun h14 => ?_)
      · skip
        exact hret _ _ _ _ (sgv) (fun q z => hsg q (by omega)) hP hD hS dX0_fillSigns_47
      · skip
        refine lv_aload_n (pc := 17) hx hb dX0_fillSigns_17 rfl (lv_at hl 0 rfl) ?_
        refine va_get (pc := 18) (D := dd) (ci := 0) (v := .ref (ad 3)) (C := RX0) (T := TX0) (N := 12) hx hb hts hin hown hK hP 0 rfl rfl 2 (by decide) (hts (.fieldLink RX0 16 "TurningSums" "signOf" "[I") (by decide +kernel)) (fun _ h9 => h9) rfl dX0_fillSigns_18 ?_
        refine lv_iload_n (pc := 21) hx hb dX0_fillSigns_21 rfl (lv_at hl 3 rfl) ?_
        refine lv_iload_n (pc := 22) hx hb dX0_fillSigns_22 rfl (lv_at hl 1 rfl) ?_
        refine lv_aload_n (pc := 23) hx hb dX0_fillSigns_23 rfl (lv_at hl 0 rfl) ?_
        refine lv_iload_n (pc := 24) hx hb dX0_fillSigns_24 rfl (lv_at hl 3 rfl) ?_
        refine CTi_Vw (pc := 25) (rX_ok tR) (As := [.int (nI (x))]) (rest := [.int (zI (b)), .int (nI (x)), .ref (ad 3)]) ⟨hx, hb, hml, hown, hts⟩ (c_X0_classOf l dd ⟨o1, o2, hD1.1, hD1.2, hix⟩ (by rw [Nat.mod_eq_of_lt (by omega)]; omega) (by omega)) (cwV 1 hts gX0_fillSigns_X0_classOf rfl rfl rfl (by decide +kernel) ⟨Nat.le_of_ble_eq_true rfl, Nat.le_of_ble_eq_true rfl⟩) hK hP hD hS hA hX hK 0 0 rfl rfl rfl rfl hl.1 rfl (Nat.le_of_ble_eq_true rfl) ⟨Nat.zero_le _, Nat.zero_le _⟩ dX0_fillSigns_25 (fun r u H locs hw hP hD hS => ?_)
        try dsimp only at hw
        subst hw
        refine lv_ishr (pc := 28) hx hb dX0_fillSigns_28 ?_
        refine nv_iconst (pc := 29) (k := 1) hx hb dX0_fillSigns_29 rfl ?_
        refine lv_iand (pc := 30) hx hb dX0_fillSigns_30 ?_
        refine nv_iconst (pc := 31) (k := 1) hx hb dX0_fillSigns_31 rfl ?_
        refine lv_icmp_ne (pc := 32) (tgt := 39) hx hb dX0_fillSigns_32 (by decide) (fun h32 => ?_) (fun h32 => ?_)
        · skip
          refine lv_iconst (pc := 39) (v := zI (-1)) hx hb dX0_fillSigns_39 rfl ?_
          refine nv_iast (pc := 40) hx hb hK hP hD hS 3 0 rfl rfl (by omega) (by decide) (ws' := (wC ad cI cL cQ (ix) (pw) ((upd (sgv) (x) (zI ((-1))))) (tm) (hd) (wk) (rc) (lc) (P) ((rootN P)) (D) ((phN D)))) rfl dX0_fillSigns_40 (fun H locs hP hD hS => ?_)
          refine lv_iinc (pc := 41) (v := nI ((x + 1))) (lv' := [(3, .int (nI ((x + 1)))), (0, .ref (ad 0)), (1, .int (zI (b))), (2, .int (zI (ee)))]) hx hb dX0_fillSigns_41 hl (k := 3) rfl (nI_inc _) (by decide) rfl (fun ls hl => ?_)
          refine lv_goto (pc := 44) (tgt := 9) hx hb dX0_fillSigns_44 (by decide) ?_
          exact ih_9 ((x + 1)) ((upd (sgv) (x) (zI ((-1))))) (by omega) (by omega) (sg_s (sg_m hx9.1 h32) hsg) _ _ _ hP hD hS (lv_sub hl [1, 2, 3, 0] rfl)
        · skip
          refine nv_iconst (pc := 35) (k := 1) hx hb dX0_fillSigns_35 rfl ?_
          refine tq_i (y := zI (1)) (rfl) ?_
          refine lv_goto (pc := 36) (tgt := 40) hx hb dX0_fillSigns_36 (by decide) ?_
          refine nv_iast (pc := 40) hx hb hK hP hD hS 3 0 rfl rfl (by omega) (by decide) (ws' := (wC ad cI cL cQ (ix) (pw) ((upd (sgv) (x) (zI (1)))) (tm) (hd) (wk) (rc) (lc) (P) ((rootN P)) (D) ((phN D)))) rfl dX0_fillSigns_40 (fun H locs hP hD hS => ?_)
          refine lv_iinc (pc := 41) (v := nI ((x + 1))) (lv' := [(3, .int (nI ((x + 1)))), (0, .ref (ad 0)), (1, .int (zI (b))), (2, .int (zI (ee)))]) hx hb dX0_fillSigns_41 hl (k := 3) rfl (nI_inc _) (by decide) rfl (fun ls hl => ?_)
          refine lv_goto (pc := 44) (tgt := 9) hx hb dX0_fillSigns_44 (by decide) ?_
          exact ih_9 ((x + 1)) ((upd (sgv) (x) (zI (1)))) (by omega) (by omega) (sg_s (sg_p hx9.1 h32) hsg) _ _ _ hP hD hS (lv_sub hl [1, 2, 3, 0] rfl)
  exact L9 _ (1) ((upd (sg) (0) (zI (ee)))) (Nat.lt_succ_self _) (by omega) (fun q z => by rw [show q = 0 by omega]; rfl) _ _ _ hP hD hS (lv_sub hl [1, 2, 3, 0] rfl)
set_option maxHeartbeats 4000000 in
set_option maxRecDepth 100000 in
theorem c_X0_agreement (l : Launch) (dd : va_G) {ad : Nat → Nat} {cI cL cQ : ClassId} {tR : Nat} {b ee : Int} {ix : Nat → Int32} {pw : Nat → Int32} {sg : Nat → Int32} {tm : Nat → Int32} {hd : Nat → Nat → Int32} {wk : Nat → Int64} {rc : Nat → Int64} {lc : Nat → Int64} {P : Nat} {D : Nat} {t : Nat} (hP1 : okP P) (hD1 : 1 ≤ D ∧ D ≤ 12) (ht9 : t < P) (hsg : ∀ q, q < P → sg q = zI (sgS P D b ee q)) : CTi l yX0_agreement wsX0_agreement ({ frames := 0, cells := 0, slots := 0, locals := 0 } : Room) dd (tysA cI cL cQ) (rX tR) [.ref (ad 0), .int (nI (t))] (wC ad cI cL cQ (ix) (pw) (sg) (tm) (hd) (wk) (rc) (lc) (P) ((rootN P)) (D) ((phN D))) (fun (r : Int32) (u : Unit) => r = zI (ovS P D b ee t P)) (fun (_ : Unit) => (wC ad cI cL cQ (ix) (pw) (sg) (tm) (hd) (wk) (rc) (lc) (P) ((rootN P)) (D) ((phN D)))) := by
  refine CTi_of (cc := cX0_agreement) (maxL := 4) (by decide +kernel) rfl (Nat.le_of_ble_eq_true rfl) ?_
  intro p e s m args below meth c A Q ls H locs hx hb hts hown hml hP hK hD hS hA hX hl hret
  have hin : ∀ w ∈ wsX00, w ∈ wsX0_agreement := by decide +kernel
  have hl : lv_has ls 4 [(0, .ref (ad 0)), (1, .int (nI (t)))] := hl
  obtain ⟨o1, o2, o3, o4, o5, o6⟩ := id hP1
  have hph := ph_rng D (by omega) hD1.1
  refine nv_iconst (pc := 0) (k := 0) hx hb dX0_agreement_0 rfl ?_
  refine lv_istore_n (pc := 1) (lv' := [(2, .int (nI (0))), (0, .ref (ad 0)), (1, .int (nI (t)))]) hx hb dX0_agreement_1 rfl hl (by decide) rfl (fun ls hl => ?_)
  refine nv_iconst (pc := 2) (k := 0) hx hb dX0_agreement_2 rfl ?_
  refine lv_istore_n (pc := 3) (lv' := [(3, .int (nI (0))), (2, .int (nI (0))), (0, .ref (ad 0)), (1, .int (nI (t)))]) hx hb dX0_agreement_3 rfl hl (by decide) rfl (fun ls hl => ?_)
  have hl : lv_has ls 4 [(3, .int (nI (0))), (2, .int (zI (0))), (0, .ref (ad 0)), (1, .int (nI (t)))] := by
    have e9 : nI (0) = zI (0) := rfl
    rw [← e9]
    exact hl
  have L4 : ∀ (n9_4 : Nat), ∀ (x : Nat) (al : Int), P + 1 - x < n9_4 → (x ≤ P) → (al = ovS P D b ee t x) → ∀ (H : Heap) (locs : List Loc) (ls : Array Slot), va_P dd vwCl (wC ad cI cL cQ (ix) (pw) (sg) (tm) (hd) (wk) (rc) (lc) (P) ((rootN P)) (D) ((phN D))) H → va_D A (wC ad cI cL cQ (ix) (pw) (sg) (tm) (hd) (wk) (rc) (lc) (P) ((rootN P)) (D) ((phN D))) → va_S A s.heap H locs → lv_has ls 4 [(0, .ref (ad 0)), (1, .int (nI (t))), (2, .int (zI (al))), (3, .int (nI (x)))] → W p l e ({ frames := 0, cells := 0, slots := 0, locals := 0 } : Room) s m args below meth c H locs 0 0 Q (F0 m 4 ls []) := by
    intro n9_4
    induction n9_4 with
    | zero => intro x al hm; exact absurd hm (Nat.not_lt_zero _)
    | succ n9_4 ih_4 =>
      intro x al hm_4 hx9 hal H locs ls hP hD hS hl
      have hm := Nat.mod_lt (x + t) (show 0 < P by omega)
      refine lv_iload_n (pc := 4) hx hb dX0_agreement_4 rfl (lv_at hl 3 rfl) ?_
      refine lv_aload_n (pc := 5) hx hb dX0_agreement_5 rfl (lv_at hl 0 rfl) ?_
      refine va_get (pc := 6) (D := dd) (ci := 0) (v := .int (nI (P))) (C := RX0) (T := TX0) (N := 12) hx hb hts hin hown hK hP 0 rfl rfl 8 (by decide) (hts (.fieldLink RX0 49 "TurningSums" "p" "I") (by decide +kernel)) (fun _ h9 => h9) rfl dX0_agreement_6 ?_
      refine nv_icmp_ge (pc := 9) (tgt := 41) hx hb (a := x) (b := P) (by omega) (by omega) dX0_agreement_9 (by decide) (fun h9 => ?_) (fun h9 => ?_)
      · skip
        refine lv_iload_n (pc := 41) hx hb dX0_agreement_41 rfl (lv_at hl 2 rfl) ?_
        exact hret _ _ _ _ _ (()) (by rw [hal, show x = P by omega]) hP hD hS dX0_agreement_42
      · skip
        refine lv_iload_n (pc := 12) hx hb dX0_agreement_12 rfl (lv_at hl 2 rfl) ?_
        refine lv_aload_n (pc := 13) hx hb dX0_agreement_13 rfl (lv_at hl 0 rfl) ?_
        refine va_get (pc := 14) (D := dd) (ci := 0) (v := .ref (ad 3)) (C := RX0) (T := TX0) (N := 12) hx hb hts hin hown hK hP 0 rfl rfl 2 (by decide) (hts (.fieldLink RX0 16 "TurningSums" "signOf" "[I") (by decide +kernel)) (fun _ h9 => h9) rfl dX0_agreement_14 ?_
        refine lv_iload_n (pc := 17) hx hb dX0_agreement_17 rfl (lv_at hl 3 rfl) ?_
        refine nv_iald (pc := 18) hx hb hK hP 3 0 rfl rfl (i := x) (by omega) (by decide) (v := zI ((sgS P D b ee (x)))) (hsg _ (by omega)) dX0_agreement_18 ?_
        refine lv_aload_n (pc := 19) hx hb dX0_agreement_19 rfl (lv_at hl 0 rfl) ?_
        refine va_get (pc := 20) (D := dd) (ci := 0) (v := .ref (ad 3)) (C := RX0) (T := TX0) (N := 12) hx hb hts hin hown hK hP 0 rfl rfl 2 (by decide) (hts (.fieldLink RX0 16 "TurningSums" "signOf" "[I") (by decide +kernel)) (fun _ h9 => h9) rfl dX0_agreement_20 ?_
        refine lv_iload_n (pc := 23) hx hb dX0_agreement_23 rfl (lv_at hl 3 rfl) ?_
        refine lv_iload_n (pc := 24) hx hb dX0_agreement_24 rfl (lv_at hl 1 rfl) ?_
        refine nv_iadd (pc := 25) hx hb dX0_agreement_25 ?_
        refine lv_aload_n (pc := 26) hx hb dX0_agreement_26 rfl (lv_at hl 0 rfl) ?_
        refine va_get (pc := 27) (D := dd) (ci := 0) (v := .int (nI (P))) (C := RX0) (T := TX0) (N := 12) hx hb hts hin hown hK hP 0 rfl rfl 8 (by decide) (hts (.fieldLink RX0 49 "TurningSums" "p" "I") (by decide +kernel)) (fun _ h9 => h9) rfl dX0_agreement_27 ?_
        refine nv_irem (pc := 30) hx hb (by omega) (by omega) (by omega) dX0_agreement_30 ?_
        refine nv_iald (pc := 31) hx hb hK hP 3 0 rfl rfl (i := ((x + t) % P)) (by omega) (by decide) (v := zI ((sgS P D b ee (((x + t) % P))))) (hsg _ (by omega)) dX0_agreement_31 ?_
        refine zv_imul (pc := 32) hx hb dX0_agreement_32 ?_
        refine zv_iadd (pc := 33) hx hb dX0_agreement_33 ?_
        refine lv_istore_n (pc := 34) (lv' := [(2, .int (zI ((al + ((sgS P D b ee (x)) * (sgS P D b ee (((x + t) % P)))))))), (0, .ref (ad 0)), (1, .int (nI (t))), (3, .int (nI (x)))]) hx hb dX0_agreement_34 rfl hl (by decide) rfl (fun ls hl => ?_)
        refine lv_iinc (pc := 35) (v := nI ((x + 1))) (lv' := [(3, .int (nI ((x + 1)))), (2, .int (zI ((al + ((sgS P D b ee (x)) * (sgS P D b ee (((x + t) % P)))))))), (0, .ref (ad 0)), (1, .int (nI (t)))]) hx hb dX0_agreement_35 hl (k := 3) rfl (nI_inc _) (by decide) rfl (fun ls hl => ?_)
        refine lv_goto (pc := 38) (tgt := 4) hx hb dX0_agreement_38 (by decide) ?_
        exact ih_4 ((x + 1)) ((al + ((sgS P D b ee (x)) * (sgS P D b ee (((x + t) % P)))))) (by omega) (by omega) (by rw [hal]; rfl) _ _ _ hP hD hS (lv_sub hl [2, 3, 1, 0] rfl)
  exact L4 _ (0) (0) (Nat.lt_succ_self _) (by omega) (rfl) _ _ _ hP hD hS (lv_sub hl [2, 3, 1, 0] rfl)
set_option maxHeartbeats 4000000 in
set_option maxRecDepth 100000 in
theorem c_X0_over (l : Launch) (dd : va_G) {ad : Nat → Nat} {cI cL cQ : ClassId} {tR : Nat}  {ix : Nat → Int32} {pw : Nat → Int32} {sg : Nat → Int32} {tm : Nat → Int32} {hd : Nat → Nat → Int32} {wk : Nat → Int64} {rc : Nat → Int64} {lc : Nat → Int64} {P : Nat} {D : Nat} {b : Int} {ee : Int} {t : Int} (hbr : -2147483648 ≤ b ∧ b < 2147483648) (her : -2147483648 ≤ ee ∧ ee < 2147483648) (htr : -2147483648 ≤ t ∧ t < 2147483648) (hP1 : okP P) (hD1 : 1 ≤ D ∧ D ≤ 12) (hix : ∀ y, 1 ≤ y → y < P → ix y = nI (ixN P y)) : CTi l yX0_over wsX0_over ({ frames := 2, cells := 0, slots := 0, locals := 44 } : Room) dd (tysA cI cL cQ) (rX tR) [.ref (ad 0), .int (zI (b)), .int (zI (ee)), .int (zI (t))] (wC ad cI cL cQ (ix) (pw) (sg) (tm) (hd) (wk) (rc) (lc) (P) ((rootN P)) (D) ((phN D))) (fun (r : Int32) (u : Nat → Int32) => r = overS P D b ee t) (fun (u : Nat → Int32) => (wC ad cI cL cQ (ix) (pw) (u) (tm) (hd) (wk) (rc) (lc) (P) ((rootN P)) (D) ((phN D)))) := by
  refine CTi_of (cc := cX0_over) (maxL := 4) (by decide +kernel) rfl (Nat.le_of_ble_eq_true rfl) ?_
  intro p e s m args below meth c A Q ls H locs hx hb hts hown hml hP hK hD hS hA hX hl hret
  have hin : ∀ w ∈ wsX00, w ∈ wsX0_over := by decide +kernel
  have hl : lv_has ls 4 [(0, .ref (ad 0)), (1, .int (zI (b))), (2, .int (zI (ee))), (3, .int (zI (t)))] := hl
  obtain ⟨o1, o2, o3, o4, o5, o6⟩ := id hP1
  have hph := ph_rng D (by omega) hD1.1
  have hm := fmN_lt t (show 0 < P by omega)
  refine lv_aload_n (pc := 0) hx hb dX0_over_0 rfl (lv_at hl 0 rfl) ?_
  refine lv_iload_n (pc := 1) hx hb dX0_over_1 rfl (lv_at hl 1 rfl) ?_
  refine CTi_Vw (pc := 2) (rX_ok tR) (As := [.int (zI (b))]) (rest := []) ⟨hx, hb, hml, hown, hts⟩ (c_X0_isSet l dd (by omega) (by omega) (by omega)) (cwV 1 hts gX0_over_X0_isSet rfl rfl rfl (by decide +kernel) ⟨Nat.le_of_ble_eq_true rfl, Nat.le_of_ble_eq_true rfl⟩) hK hP hD hS hA hX hK 0 0 rfl rfl rfl rfl hl.1 rfl (Nat.le_of_ble_eq_true rfl) ⟨Nat.zero_le _, Nat.zero_le _⟩ dX0_over_2 (fun r u H locs hw hP hD hS => ?_)
  try dsimp only at hw
  subst hw
  refine bv_if_ne (pc := 5) (tgt := 11) hx hb dX0_over_5 (by decide) (fun h5 => ?_) (fun h5 => ?_)
  · skip
    refine lv_iload_n (pc := 11) hx hb dX0_over_11 rfl (lv_at hl 2 rfl) ?_
    refine CTi_S0 (pc := 12) am_no_ok (As := [.int (zI (ee))]) (rest := []) ⟨hx, hb, hml, hown, hts⟩ (c_X0_isSign l dd (by omega)) (va_cwS 1 hts gX0_over_X0_isSign rfl rfl rfl (by decide +kernel) ⟨Nat.le_of_ble_eq_true rfl, Nat.le_of_ble_eq_true rfl⟩) hK hP hD hS hA trivial rfl hl.1 rfl (Nat.le_of_ble_eq_true rfl) ⟨Nat.zero_le _, Nat.zero_le _⟩ dX0_over_12 (fun r u H locs hw hP hD hS => ?_)
    try dsimp only at hw
    subst hw
    refine bv_if_ne (pc := 15) (tgt := 21) hx hb dX0_over_15 (by decide) (fun h15 => ?_) (fun h15 => ?_)
    · skip
      refine lv_aload_n (pc := 21) hx hb dX0_over_21 rfl (lv_at hl 0 rfl) ?_
      refine lv_iload_n (pc := 22) hx hb dX0_over_22 rfl (lv_at hl 1 rfl) ?_
      refine lv_iload_n (pc := 23) hx hb dX0_over_23 rfl (lv_at hl 2 rfl) ?_
      refine CTv_Vw (pc := 24) (rX_ok tR) (As := [.int (zI (b)), .int (zI (ee))]) (rest := []) ⟨hx, hb, hml, hown, hts⟩ (c_X0_fillSigns l dd hP1 hD1 hix) (cwV 2 hts gX0_over_X0_fillSigns rfl rfl rfl (by decide +kernel) ⟨Nat.le_of_ble_eq_true rfl, Nat.le_of_ble_eq_true rfl⟩) hK hP hD hS hA hX hK 0 0 rfl rfl rfl rfl hl.1 rfl (Nat.le_of_ble_eq_true rfl) ⟨Nat.zero_le _, Nat.zero_le _⟩ dX0_over_24 (fun u H locs hw hP hD hS => ?_)
      try dsimp only at hw
      obtain ⟨sg24, e9⟩ : ∃ z, z = u := ⟨_, rfl⟩
      rw [← e9] at hw hP hD
      have hw24 := hw
      have hP : va_P dd vwCl (wC ad cI cL cQ (ix) (pw) (sg24) (tm) (hd) (wk) (rc) (lc) (P) ((rootN P)) (D) ((phN D))) H := hP
      have hD : va_D A (wC ad cI cL cQ (ix) (pw) (sg24) (tm) (hd) (wk) (rc) (lc) (P) ((rootN P)) (D) ((phN D))) := hD
      refine lv_aload_n (pc := 27) hx hb dX0_over_27 rfl (lv_at hl 0 rfl) ?_
      refine lv_iload_n (pc := 28) hx hb dX0_over_28 rfl (lv_at hl 3 rfl) ?_
      refine lv_aload_n (pc := 29) hx hb dX0_over_29 rfl (lv_at hl 0 rfl) ?_
      refine va_get (pc := 30) (D := dd) (ci := 0) (v := .int (nI (P))) (C := RX0) (T := TX0) (N := 12) hx hb hts hin hown hK hP 0 rfl rfl 8 (by decide) (hts (.fieldLink RX0 49 "TurningSums" "p" "I") (by decide +kernel)) (fun _ h9 => h9) rfl dX0_over_30 ?_
      refine CTi_S0 (pc := 33) am_no_ok (As := [.int (zI (t)), .int (nI (P))]) (rest := [.ref (ad 0)]) ⟨hx, hb, hml, hown, hts⟩ (c_J9_floorMod_7cf53 l dd (by omega) (by omega) (by omega)) (va_cwS 2 hts gX0_over_J9_floorMod_7cf53 rfl rfl rfl (by decide +kernel) ⟨Nat.le_of_ble_eq_true rfl, Nat.le_of_ble_eq_true rfl⟩) hK hP hD hS hA trivial rfl hl.1 rfl (Nat.le_of_ble_eq_true rfl) ⟨Nat.zero_le _, Nat.zero_le _⟩ dX0_over_33 (fun r u H locs hw hP hD hS => ?_)
      try dsimp only at hw
      subst hw
      refine CTi_Vw (pc := 36) (rX_ok tR) (As := [.int (nI ((fmN (t) (P))))]) (rest := []) ⟨hx, hb, hml, hown, hts⟩ (c_X0_agreement l dd hP1 hD1 hm hw24) (cwV 1 hts gX0_over_X0_agreement rfl rfl rfl (by decide +kernel) ⟨Nat.le_of_ble_eq_true rfl, Nat.le_of_ble_eq_true rfl⟩) hK hP hD hS hA hX hK 0 0 rfl rfl rfl rfl hl.1 rfl (Nat.le_of_ble_eq_true rfl) ⟨Nat.zero_le _, Nat.zero_le _⟩ dX0_over_36 (fun r u H locs hw hP hD hS => ?_)
      try dsimp only at hw
      subst hw
      exact hret _ _ _ _ _ (sg24) (by unfold overS; rw [if_pos h5, if_pos h15]) hP hD hS dX0_over_39
    · skip
      refine tq_ldc (pc := 18) (k := (-2147483648)) hx hb hown (hts (.constant RX0 96 (-2147483648)) (by decide +kernel)) dX0_over_18 ?_
      exact hret _ _ _ _ _ (sg) (by unfold overS; rw [if_pos h5, if_neg h15]) hP hD hS dX0_over_20
  · skip
    refine tq_ldc (pc := 8) (k := (-2147483648)) hx hb hown (hts (.constant RX0 96 (-2147483648)) (by decide +kernel)) dX0_over_8 ?_
    exact hret _ _ _ _ _ (sg) (by unfold overS; rw [if_neg h5]) hP hD hS dX0_over_10
set_option maxHeartbeats 4000000 in
set_option maxRecDepth 100000 in
theorem c_X0_peak (l : Launch) (dd : va_G) {ad : Nat → Nat} {cI cL cQ : ClassId} {tR : Nat}  {ix : Nat → Int32} {pw : Nat → Int32} {sg : Nat → Int32} {tm : Nat → Int32} {hd : Nat → Nat → Int32} {wk : Nat → Int64} {rc : Nat → Int64} {lc : Nat → Int64} {P : Nat} {D : Nat} {b : Int} {ee : Int} (hbr : -2147483648 ≤ b ∧ b < 2147483648) (her : -2147483648 ≤ ee ∧ ee < 2147483648) (hP1 : okP P) (hD1 : 1 ≤ D ∧ D ≤ 12) (hdv : (P - 1) % D = 0) (hI : okI P ix pw) : CTi l yX0_peak wsX0_peak ({ frames := 2, cells := 0, slots := 0, locals := 44 } : Room) dd (tysA cI cL cQ) (rX tR) [.ref (ad 0), .int (zI (b)), .int (zI (ee))] (wC ad cI cL cQ (ix) (pw) (sg) (tm) (hd) (wk) (rc) (lc) (P) ((rootN P)) (D) ((phN D))) (fun (r : Int32) (u : Nat → Int32) => r = peakS P D b ee) (fun (u : Nat → Int32) => (wC ad cI cL cQ (ix) (pw) (u) (tm) (hd) (wk) (rc) (lc) (P) ((rootN P)) (D) ((phN D)))) := by
  refine CTi_of (cc := cX0_peak) (maxL := 5) (by decide +kernel) rfl (Nat.le_of_ble_eq_true rfl) ?_
  intro p e s m args below meth c A Q ls H locs hx hb hts hown hml hP hK hD hS hA hX hl hret
  have hin : ∀ w ∈ wsX00, w ∈ wsX0_peak := by decide +kernel
  have hl : lv_has ls 5 [(0, .ref (ad 0)), (1, .int (zI (b))), (2, .int (zI (ee)))] := hl
  obtain ⟨o1, o2, o3, o4, o5, o6⟩ := id hP1
  have hph := ph_rng D (by omega) hD1.1
  obtain ⟨hix, hpw⟩ := id hI
  have hDP : D ≤ P - 1 := Nat.le_of_dvd (by omega) (Nat.dvd_of_mod_eq_zero hdv)
  refine lv_aload_n (pc := 0) hx hb dX0_peak_0 rfl (lv_at hl 0 rfl) ?_
  refine lv_iload_n (pc := 1) hx hb dX0_peak_1 rfl (lv_at hl 1 rfl) ?_
  refine CTi_Vw (pc := 2) (rX_ok tR) (As := [.int (zI (b))]) (rest := []) ⟨hx, hb, hml, hown, hts⟩ (c_X0_isSet l dd (by omega) (by omega) (by omega)) (cwV 1 hts gX0_peak_X0_isSet rfl rfl rfl (by decide +kernel) ⟨Nat.le_of_ble_eq_true rfl, Nat.le_of_ble_eq_true rfl⟩) hK hP hD hS hA hX hK 0 0 rfl rfl rfl rfl hl.1 rfl (Nat.le_of_ble_eq_true rfl) ⟨Nat.zero_le _, Nat.zero_le _⟩ dX0_peak_2 (fun r u H locs hw hP hD hS => ?_)
  try dsimp only at hw
  subst hw
  refine bv_if_ne (pc := 5) (tgt := 11) hx hb dX0_peak_5 (by decide) (fun h5 => ?_) (fun h5 => ?_)
  · skip
    refine lv_iload_n (pc := 11) hx hb dX0_peak_11 rfl (lv_at hl 2 rfl) ?_
    refine CTi_S0 (pc := 12) am_no_ok (As := [.int (zI (ee))]) (rest := []) ⟨hx, hb, hml, hown, hts⟩ (c_X0_isSign l dd (by omega)) (va_cwS 1 hts gX0_peak_X0_isSign rfl rfl rfl (by decide +kernel) ⟨Nat.le_of_ble_eq_true rfl, Nat.le_of_ble_eq_true rfl⟩) hK hP hD hS hA trivial rfl hl.1 rfl (Nat.le_of_ble_eq_true rfl) ⟨Nat.zero_le _, Nat.zero_le _⟩ dX0_peak_12 (fun r u H locs hw hP hD hS => ?_)
    try dsimp only at hw
    subst hw
    refine bv_if_ne (pc := 15) (tgt := 21) hx hb dX0_peak_15 (by decide) (fun h15 => ?_) (fun h15 => ?_)
    · skip
      refine lv_aload_n (pc := 21) hx hb dX0_peak_21 rfl (lv_at hl 0 rfl) ?_
      refine lv_iload_n (pc := 22) hx hb dX0_peak_22 rfl (lv_at hl 1 rfl) ?_
      refine lv_iload_n (pc := 23) hx hb dX0_peak_23 rfl (lv_at hl 2 rfl) ?_
      refine CTv_Vw (pc := 24) (rX_ok tR) (As := [.int (zI (b)), .int (zI (ee))]) (rest := []) ⟨hx, hb, hml, hown, hts⟩ (c_X0_fillSigns l dd hP1 hD1 hix) (cwV 2 hts gX0_peak_X0_fillSigns rfl rfl rfl (by decide +kernel) ⟨Nat.le_of_ble_eq_true rfl, Nat.le_of_ble_eq_true rfl⟩) hK hP hD hS hA hX hK 0 0 rfl rfl rfl rfl hl.1 rfl (Nat.le_of_ble_eq_true rfl) ⟨Nat.zero_le _, Nat.zero_le _⟩ dX0_peak_24 (fun u H locs hw hP hD hS => ?_)
      try dsimp only at hw
      obtain ⟨sg24, e9⟩ : ∃ z, z = u := ⟨_, rfl⟩
      rw [← e9] at hw hP hD
      have hw24 := hw
      have hP : va_P dd vwCl (wC ad cI cL cQ (ix) (pw) (sg24) (tm) (hd) (wk) (rc) (lc) (P) ((rootN P)) (D) ((phN D))) H := hP
      have hD : va_D A (wC ad cI cL cQ (ix) (pw) (sg24) (tm) (hd) (wk) (rc) (lc) (P) ((rootN P)) (D) ((phN D))) := hD
      refine nv_iconst (pc := 27) (k := 0) hx hb dX0_peak_27 rfl ?_
      refine lv_istore_n (pc := 28) (lv' := [(3, .int (nI (0))), (0, .ref (ad 0)), (1, .int (zI (b))), (2, .int (zI (ee)))]) hx hb dX0_peak_28 rfl hl (by decide) rfl (fun ls hl => ?_)
      refine nv_iconst (pc := 29) (k := 0) hx hb dX0_peak_29 rfl ?_
      refine lv_istore (pc := 30) (lv' := [(4, .int (nI (0))), (3, .int (nI (0))), (0, .ref (ad 0)), (1, .int (zI (b))), (2, .int (zI (ee)))]) hx hb dX0_peak_30 hl (by decide) rfl (fun ls hl => ?_)
      have hl : lv_has ls 5 [(4, .int (nI (0))), (3, .int (zI (0))), (0, .ref (ad 0)), (1, .int (zI (b))), (2, .int (zI (ee)))] := by
        have e9 : nI (0) = zI (0) := rfl
        rw [← e9]
        exact hl
      have L32 : ∀ (n9_32 : Nat), ∀ (c9 : Nat) (gr : Int), D + 1 - c9 < n9_32 → (c9 ≤ D) → (gr = pkC P D b ee c9) → ∀ (H : Heap) (locs : List Loc) (ls : Array Slot), va_P dd vwCl (wC ad cI cL cQ (ix) (pw) (sg24) (tm) (hd) (wk) (rc) (lc) (P) ((rootN P)) (D) ((phN D))) H → va_D A (wC ad cI cL cQ (ix) (pw) (sg24) (tm) (hd) (wk) (rc) (lc) (P) ((rootN P)) (D) ((phN D))) → va_S A s.heap H locs → lv_has ls 5 [(0, .ref (ad 0)), (1, .int (zI (b))), (2, .int (zI (ee))), (3, .int (zI (gr))), (4, .int (nI (c9)))] → W p l e ({ frames := 2, cells := 0, slots := 0, locals := 44 } : Room) s m args below meth c H locs 0 0 Q (F0 m 32 ls []) := by
        intro n9_32
        induction n9_32 with
        | zero => intro c9 gr hm; exact absurd hm (Nat.not_lt_zero _)
        | succ n9_32 ih_32 =>
          intro c9 gr hm_32 hc9 hgr H locs ls hP hD hS hl
          have hg9 := pkC_rng (P := P) (D := D) (b := b) h15 c9
          have ha9 := ab_rng (P := P) (D := D) (b := b) (t := rootN P ^ c9 % P) h15
          have hv9 := ov_rng (P := P) (D := D) (b := b) (t := rootN P ^ c9 % P) (n := P) h15
          refine lv_iload (pc := 32) hx hb dX0_peak_32 (lv_at hl 4 rfl) ?_
          refine lv_aload_n (pc := 34) hx hb dX0_peak_34 rfl (lv_at hl 0 rfl) ?_
          refine va_get (pc := 35) (D := dd) (ci := 0) (v := .int (nI (D))) (C := RX0) (T := TX0) (N := 12) hx hb hts hin hown hK hP 0 rfl rfl 10 (by decide) (hts (.fieldLink RX0 74 "TurningSums" "d" "I") (by decide +kernel)) (fun _ h9 => h9) rfl dX0_peak_35 ?_
          refine nv_icmp_ge (pc := 38) (tgt := 66) hx hb (a := c9) (b := D) (by omega) (by omega) dX0_peak_38 (by decide) (fun h38 => ?_) (fun h38 => ?_)
          · skip
            refine lv_iload_n (pc := 66) hx hb dX0_peak_66 rfl (lv_at hl 3 rfl) ?_
            exact hret _ _ _ _ _ (sg24) (by unfold peakS; rw [if_pos h5, if_pos h15, ← peak_eq hP1 hD1.1 hdv, hgr, show c9 = D by omega]) hP hD hS dX0_peak_67
          · skip
            refine lv_iload_n (pc := 41) hx hb dX0_peak_41 rfl (lv_at hl 3 rfl) ?_
            refine lv_aload_n (pc := 42) hx hb dX0_peak_42 rfl (lv_at hl 0 rfl) ?_
            refine lv_aload_n (pc := 43) hx hb dX0_peak_43 rfl (lv_at hl 0 rfl) ?_
            refine va_get (pc := 44) (D := dd) (ci := 0) (v := .ref (ad 2)) (C := RX0) (T := TX0) (N := 12) hx hb hts hin hown hK hP 0 rfl rfl 1 (by decide) (hts (.fieldLink RX0 13 "TurningSums" "powerOf" "[I") (by decide +kernel)) (fun _ h9 => h9) rfl dX0_peak_44 ?_
            refine lv_iload (pc := 47) hx hb dX0_peak_47 (lv_at hl 4 rfl) ?_
            refine nv_iald (pc := 49) hx hb hK hP 2 0 rfl rfl (i := c9) (by omega) (by decide) (v := nI ((rootN P ^ (c9) % P))) (hpw _ (by omega)) dX0_peak_49 ?_
            refine CTi_Vw (pc := 50) (rX_ok tR) (As := [.int (nI ((rootN P ^ (c9) % P)))]) (rest := [.int (zI (gr))]) ⟨hx, hb, hml, hown, hts⟩ (c_X0_agreement l dd hP1 hD1 (Nat.mod_lt _ (by omega)) hw24) (cwV 1 hts gX0_peak_X0_agreement rfl rfl rfl (by decide +kernel) ⟨Nat.le_of_ble_eq_true rfl, Nat.le_of_ble_eq_true rfl⟩) hK hP hD hS hA hX hK 0 0 rfl rfl rfl rfl hl.1 rfl (Nat.le_of_ble_eq_true rfl) ⟨Nat.zero_le _, Nat.zero_le _⟩ dX0_peak_50 (fun r u H locs hw hP hD hS => ?_)
            try dsimp only at hw
            subst hw
            refine va_mabs (pc := 53) hx hb (hml.trans hl.1.symm) hown (hts (.methodLink RX0 133 Lib.Math.abs.name) (by decide +kernel)) (hts (.static Lib.Math.abs.name) (by decide +kernel)) (hts (.initialized "java/lang/Math") (by decide +kernel)) (hts (.code Lib.Math.abs.name Lib.Math.abs.code 1 (some .int)) (by decide +kernel)) (Nat.le_of_ble_eq_true rfl) (Nat.le_of_ble_eq_true rfl) (Nat.zero_le _) (Nat.zero_le _) dX0_peak_53 ?_
            refine tq_i (y := zI ((abI (ovS P D b ee (rootN P ^ c9 % P) P)))) (ab_z (by omega)) ?_
            refine va_mmax (pc := 56) hx hb (hml.trans hl.1.symm) hown (hts (.methodLink RX0 136 Lib.Math.max.name) (by decide +kernel)) (hts (.static Lib.Math.max.name) (by decide +kernel)) (hts (.initialized "java/lang/Math") (by decide +kernel)) (hts (.code Lib.Math.max.name Lib.Math.max.code 2 (some .int)) (by decide +kernel)) (Nat.le_of_ble_eq_true rfl) (Nat.le_of_ble_eq_true rfl) (Nat.zero_le _) (Nat.zero_le _) dX0_peak_56 ?_
            refine tq_i (y := zI ((if gr < abI (ovS P D b ee (rootN P ^ c9 % P) P) then abI (ovS P D b ee (rootN P ^ c9 % P) P) else gr))) (mx_z (by omega) (by omega)) ?_
            refine lv_istore_n (pc := 59) (lv' := [(3, .int (zI ((if gr < abI (ovS P D b ee (rootN P ^ c9 % P) P) then abI (ovS P D b ee (rootN P ^ c9 % P) P) else gr)))), (0, .ref (ad 0)), (1, .int (zI (b))), (2, .int (zI (ee))), (4, .int (nI (c9)))]) hx hb dX0_peak_59 rfl hl (by decide) rfl (fun ls hl => ?_)
            refine lv_iinc (pc := 60) (v := nI ((c9 + 1))) (lv' := [(4, .int (nI ((c9 + 1)))), (3, .int (zI ((if gr < abI (ovS P D b ee (rootN P ^ c9 % P) P) then abI (ovS P D b ee (rootN P ^ c9 % P) P) else gr)))), (0, .ref (ad 0)), (1, .int (zI (b))), (2, .int (zI (ee)))]) hx hb dX0_peak_60 hl (k := 4) rfl (nI_inc _) (by decide) rfl (fun ls hl => ?_)
            refine lv_goto (pc := 63) (tgt := 32) hx hb dX0_peak_63 (by decide) ?_
            exact ih_32 ((c9 + 1)) ((if gr < abI (ovS P D b ee (rootN P ^ c9 % P) P) then abI (ovS P D b ee (rootN P ^ c9 % P) P) else gr)) (by omega) (by omega) (by rw [hgr]; rfl) _ _ _ hP hD hS (lv_sub hl [2, 3, 4, 1, 0] rfl)
      exact L32 _ (0) (0) (Nat.lt_succ_self _) (by omega) (rfl) _ _ _ hP hD hS (lv_sub hl [2, 3, 4, 1, 0] rfl)
    · skip
      refine lv_bipush (pc := 18) (v := zI (-3)) hx hb dX0_peak_18 (by decide) ?_
      exact hret _ _ _ _ _ (sg) (by unfold peakS; rw [if_pos h5, if_neg h15]) hP hD hS dX0_peak_20
  · skip
    refine lv_bipush (pc := 8) (v := zI (-2)) hx hb dX0_peak_8 (by decide) ?_
    exact hret _ _ _ _ _ (sg) (by unfold peakS; rw [if_neg h5]) hP hD hS dX0_peak_10
set_option maxHeartbeats 4000000 in
set_option maxRecDepth 100000 in
theorem c_X0_differences (l : Launch) (dd : va_G) {ad : Nat → Nat} {cI cL cQ : ClassId} {tR : Nat} {b : Int} {ix : Nat → Int32} {pw : Nat → Int32} {sg : Nat → Int32} {tm : Nat → Int32} {hd : Nat → Nat → Int32} {wk : Nat → Int64} {rc : Nat → Int64} {lc : Nat → Int64} {P : Nat} {D : Nat} {t : Nat} (hP1 : okP P) (hD1 : 1 ≤ D ∧ D ≤ 12) (ht9 : t < P) (hsg : ∀ q, q < P → sg q = zI (sgS P D b (-1) q)) : CTi l yX0_differences wsX0_differences ({ frames := 0, cells := 0, slots := 0, locals := 0 } : Room) dd (tysA cI cL cQ) (rX tR) [.ref (ad 0), .int (nI (t))] (wC ad cI cL cQ (ix) (pw) (sg) (tm) (hd) (wk) (rc) (lc) (P) ((rootN P)) (D) ((phN D))) (fun (r : Int32) (u : Unit) => r = zI (dfS P D b t P)) (fun (_ : Unit) => (wC ad cI cL cQ (ix) (pw) (sg) (tm) (hd) (wk) (rc) (lc) (P) ((rootN P)) (D) ((phN D)))) := by
  refine CTi_of (cc := cX0_differences) (maxL := 4) (by decide +kernel) rfl (Nat.le_of_ble_eq_true rfl) ?_
  intro p e s m args below meth c A Q ls H locs hx hb hts hown hml hP hK hD hS hA hX hl hret
  have hin : ∀ w ∈ wsX00, w ∈ wsX0_differences := by decide +kernel
  have hl : lv_has ls 4 [(0, .ref (ad 0)), (1, .int (nI (t)))] := hl
  obtain ⟨o1, o2, o3, o4, o5, o6⟩ := id hP1
  have hph := ph_rng D (by omega) hD1.1
  refine nv_iconst (pc := 0) (k := 0) hx hb dX0_differences_0 rfl ?_
  refine lv_istore_n (pc := 1) (lv' := [(2, .int (nI (0))), (0, .ref (ad 0)), (1, .int (nI (t)))]) hx hb dX0_differences_1 rfl hl (by decide) rfl (fun ls hl => ?_)
  refine nv_iconst (pc := 2) (k := 0) hx hb dX0_differences_2 rfl ?_
  refine lv_istore_n (pc := 3) (lv' := [(3, .int (nI (0))), (2, .int (nI (0))), (0, .ref (ad 0)), (1, .int (nI (t)))]) hx hb dX0_differences_3 rfl hl (by decide) rfl (fun ls hl => ?_)
  have hl : lv_has ls 4 [(3, .int (nI (0))), (2, .int (zI (0))), (0, .ref (ad 0)), (1, .int (nI (t)))] := by
    have e9 : nI (0) = zI (0) := rfl
    rw [← e9]
    exact hl
  have L4 : ∀ (n9_4 : Nat), ∀ (x : Nat) (of9 : Int), P + 1 - x < n9_4 → (x ≤ P) → (of9 = dfS P D b t x) → ∀ (H : Heap) (locs : List Loc) (ls : Array Slot), va_P dd vwCl (wC ad cI cL cQ (ix) (pw) (sg) (tm) (hd) (wk) (rc) (lc) (P) ((rootN P)) (D) ((phN D))) H → va_D A (wC ad cI cL cQ (ix) (pw) (sg) (tm) (hd) (wk) (rc) (lc) (P) ((rootN P)) (D) ((phN D))) → va_S A s.heap H locs → lv_has ls 4 [(0, .ref (ad 0)), (1, .int (nI (t))), (2, .int (zI (of9))), (3, .int (nI (x)))] → W p l e ({ frames := 0, cells := 0, slots := 0, locals := 0 } : Room) s m args below meth c H locs 0 0 Q (F0 m 4 ls []) := by
    intro n9_4
    induction n9_4 with
    | zero => intro x of9 hm; exact absurd hm (Nat.not_lt_zero _)
    | succ n9_4 ih_4 =>
      intro x of9 hm_4 hx9 hof H locs ls hP hD hS hl
      have hm := Nat.mod_lt (x + t) (show 0 < P by omega)
      have hs1 := sg_rng (P := P) (D := D) (x := x) (b := b) (e := -1) (Or.inr rfl)
      have hs2 := sg_rng (P := P) (D := D) (x := (x + t) % P) (b := b) (e := -1) (Or.inr rfl)
      refine lv_iload_n (pc := 4) hx hb dX0_differences_4 rfl (lv_at hl 3 rfl) ?_
      refine lv_aload_n (pc := 5) hx hb dX0_differences_5 rfl (lv_at hl 0 rfl) ?_
      refine va_get (pc := 6) (D := dd) (ci := 0) (v := .int (nI (P))) (C := RX0) (T := TX0) (N := 12) hx hb hts hin hown hK hP 0 rfl rfl 8 (by decide) (hts (.fieldLink RX0 49 "TurningSums" "p" "I") (by decide +kernel)) (fun _ h9 => h9) rfl dX0_differences_6 ?_
      refine nv_icmp_ge (pc := 9) (tgt := 48) hx hb (a := x) (b := P) (by omega) (by omega) dX0_differences_9 (by decide) (fun h9 => ?_) (fun h9 => ?_)
      · skip
        refine lv_iload_n (pc := 48) hx hb dX0_differences_48 rfl (lv_at hl 2 rfl) ?_
        exact hret _ _ _ _ _ (()) (by rw [hof, show x = P by omega]) hP hD hS dX0_differences_49
      · skip
        refine lv_aload_n (pc := 12) hx hb dX0_differences_12 rfl (lv_at hl 0 rfl) ?_
        refine va_get (pc := 13) (D := dd) (ci := 0) (v := .ref (ad 3)) (C := RX0) (T := TX0) (N := 12) hx hb hts hin hown hK hP 0 rfl rfl 2 (by decide) (hts (.fieldLink RX0 16 "TurningSums" "signOf" "[I") (by decide +kernel)) (fun _ h9 => h9) rfl dX0_differences_13 ?_
        refine lv_iload_n (pc := 16) hx hb dX0_differences_16 rfl (lv_at hl 3 rfl) ?_
        refine nv_iald (pc := 17) hx hb hK hP 3 0 rfl rfl (i := x) (by omega) (by decide) (v := zI ((sgS P D b (-1) (x)))) (hsg _ (by omega)) dX0_differences_17 ?_
        refine nv_iconst (pc := 18) (k := 1) hx hb dX0_differences_18 rfl ?_
        refine zv_2 (pc := 19) (a := ((1 : Nat) : Int)) (b := (sgS P D b (-1) (x))) ((nI_zI _)) (rfl) ?_
        refine zv_icmp_ne (pc := 19) (tgt := 42) hx hb (by omega) (by omega) dX0_differences_19 (by decide) (fun h19 => ?_) (fun h19 => ?_)
        · skip
          refine lv_iinc (pc := 42) (v := nI ((x + 1))) (lv' := [(3, .int (nI ((x + 1)))), (0, .ref (ad 0)), (1, .int (nI (t))), (2, .int (zI (of9)))]) hx hb dX0_differences_42 hl (k := 3) rfl (nI_inc _) (by decide) rfl (fun ls hl => ?_)
          refine lv_goto (pc := 45) (tgt := 4) hx hb dX0_differences_45 (by decide) ?_
          exact ih_4 ((x + 1)) (of9) (by omega) (by omega) (by rw [hof]; show _ = dfS P D b t x + dfF P D b t x; rw [df_0 (fun w => by omega)]; omega) _ _ _ hP hD hS (lv_sub hl [1, 2, 3, 0] rfl)
        · skip
          refine lv_aload_n (pc := 22) hx hb dX0_differences_22 rfl (lv_at hl 0 rfl) ?_
          refine va_get (pc := 23) (D := dd) (ci := 0) (v := .ref (ad 3)) (C := RX0) (T := TX0) (N := 12) hx hb hts hin hown hK hP 0 rfl rfl 2 (by decide) (hts (.fieldLink RX0 16 "TurningSums" "signOf" "[I") (by decide +kernel)) (fun _ h9 => h9) rfl dX0_differences_23 ?_
          refine lv_iload_n (pc := 26) hx hb dX0_differences_26 rfl (lv_at hl 3 rfl) ?_
          refine lv_iload_n (pc := 27) hx hb dX0_differences_27 rfl (lv_at hl 1 rfl) ?_
          refine nv_iadd (pc := 28) hx hb dX0_differences_28 ?_
          refine lv_aload_n (pc := 29) hx hb dX0_differences_29 rfl (lv_at hl 0 rfl) ?_
          refine va_get (pc := 30) (D := dd) (ci := 0) (v := .int (nI (P))) (C := RX0) (T := TX0) (N := 12) hx hb hts hin hown hK hP 0 rfl rfl 8 (by decide) (hts (.fieldLink RX0 49 "TurningSums" "p" "I") (by decide +kernel)) (fun _ h9 => h9) rfl dX0_differences_30 ?_
          refine nv_irem (pc := 33) hx hb (by omega) (by omega) (by omega) dX0_differences_33 ?_
          refine nv_iald (pc := 34) hx hb hK hP 3 0 rfl rfl (i := ((x + t) % P)) (by omega) (by decide) (v := zI ((sgS P D b (-1) (((x + t) % P))))) (hsg _ (by omega)) dX0_differences_34 ?_
          refine nv_iconst (pc := 35) (k := 1) hx hb dX0_differences_35 rfl ?_
          refine zv_2 (pc := 36) (a := ((1 : Nat) : Int)) (b := (sgS P D b (-1) (((x + t) % P)))) ((nI_zI _)) (rfl) ?_
          refine zv_icmp_ne (pc := 36) (tgt := 42) hx hb (by omega) (by omega) dX0_differences_36 (by decide) (fun h36 => ?_) (fun h36 => ?_)
          · skip
            refine lv_iinc (pc := 42) (v := nI ((x + 1))) (lv' := [(3, .int (nI ((x + 1)))), (0, .ref (ad 0)), (1, .int (nI (t))), (2, .int (zI (of9)))]) hx hb dX0_differences_42 hl (k := 3) rfl (nI_inc _) (by decide) rfl (fun ls hl => ?_)
            refine lv_goto (pc := 45) (tgt := 4) hx hb dX0_differences_45 (by decide) ?_
            exact ih_4 ((x + 1)) (of9) (by omega) (by omega) (by rw [hof]; show _ = dfS P D b t x + dfF P D b t x; rw [df_0 (fun w => by omega)]; omega) _ _ _ hP hD hS (lv_sub hl [1, 2, 3, 0] rfl)
          · skip
            refine lv_iinc (pc := 39) (v := zI ((of9 + 1))) (lv' := [(2, .int (zI ((of9 + 1)))), (0, .ref (ad 0)), (1, .int (nI (t))), (3, .int (nI (x)))]) hx hb dX0_differences_39 hl (k := 2) rfl (zI_inc _) (by decide) rfl (fun ls hl => ?_)
            refine lv_iinc (pc := 42) (v := nI ((x + 1))) (lv' := [(3, .int (nI ((x + 1)))), (2, .int (zI ((of9 + 1)))), (0, .ref (ad 0)), (1, .int (nI (t)))]) hx hb dX0_differences_42 hl (k := 3) rfl (nI_inc _) (by decide) rfl (fun ls hl => ?_)
            refine lv_goto (pc := 45) (tgt := 4) hx hb dX0_differences_45 (by decide) ?_
            exact ih_4 ((x + 1)) ((of9 + 1)) (by omega) (by omega) (by rw [hof]; show _ = dfS P D b t x + dfF P D b t x; rw [df_1 (by omega) (by omega)]) _ _ _ hP hD hS (lv_sub hl [2, 3, 1, 0] rfl)
  exact L4 _ (0) (0) (Nat.lt_succ_self _) (by omega) (rfl) _ _ _ hP hD hS (lv_sub hl [2, 3, 1, 0] rfl)
set_option maxHeartbeats 4000000 in
set_option maxRecDepth 100000 in
theorem c_X0_even (l : Launch) (dd : va_G) {ad : Nat → Nat} {cI cL cQ : ClassId} {tR : Nat}  {ix : Nat → Int32} {pw : Nat → Int32} {sg : Nat → Int32} {tm : Nat → Int32} {hd : Nat → Nat → Int32} {wk : Nat → Int64} {rc : Nat → Int64} {lc : Nat → Int64} {P : Nat} {D : Nat} {b : Int} (hbr : -2147483648 ≤ b ∧ b < 2147483648) (hP1 : okP P) (hD1 : 1 ≤ D ∧ D ≤ 12) (hdv : (P - 1) % D = 0) (hI : okI P ix pw) : CTi l yX0_even wsX0_even ({ frames := 2, cells := 0, slots := 0, locals := 44 } : Room) dd (tysA cI cL cQ) (rX tR) [.ref (ad 0), .int (zI (b))] (wC ad cI cL cQ (ix) (pw) (sg) (tm) (hd) (wk) (rc) (lc) (P) ((rootN P)) (D) ((phN D))) (fun (r : Int32) (u : Nat → Int32) => (¬ (0 ≤ b ∧ b < ((2 ^ D : Nat) : Int)) ∧ r = zI (-2)) ∨ ((0 ≤ b ∧ b < ((2 ^ D : Nat) : Int)) ∧ evA P D b ∧ r = zI (dfS P D b 1 P)) ∨ ((0 ≤ b ∧ b < ((2 ^ D : Nat) : Int)) ∧ ¬ evA P D b ∧ r = zI (-1))) (fun (u : Nat → Int32) => (wC ad cI cL cQ (ix) (pw) (u) (tm) (hd) (wk) (rc) (lc) (P) ((rootN P)) (D) ((phN D)))) := by
  refine CTi_of (cc := cX0_even) (maxL := 4) (by decide +kernel) rfl (Nat.le_of_ble_eq_true rfl) ?_
  intro p e s m args below meth c A Q ls H locs hx hb hts hown hml hP hK hD hS hA hX hl hret
  have hin : ∀ w ∈ wsX00, w ∈ wsX0_even := by decide +kernel
  have hl : lv_has ls 4 [(0, .ref (ad 0)), (1, .int (zI (b)))] := hl
  obtain ⟨o1, o2, o3, o4, o5, o6⟩ := id hP1
  have hph := ph_rng D (by omega) hD1.1
  obtain ⟨hix, hpw⟩ := id hI
  have hDP : D ≤ P - 1 := Nat.le_of_dvd (by omega) (Nat.dvd_of_mod_eq_zero hdv)
  refine lv_aload_n (pc := 0) hx hb dX0_even_0 rfl (lv_at hl 0 rfl) ?_
  refine lv_iload_n (pc := 1) hx hb dX0_even_1 rfl (lv_at hl 1 rfl) ?_
  refine CTi_Vw (pc := 2) (rX_ok tR) (As := [.int (zI (b))]) (rest := []) ⟨hx, hb, hml, hown, hts⟩ (c_X0_isSet l dd (by omega) (by omega) (by omega)) (cwV 1 hts gX0_even_X0_isSet rfl rfl rfl (by decide +kernel) ⟨Nat.le_of_ble_eq_true rfl, Nat.le_of_ble_eq_true rfl⟩) hK hP hD hS hA hX hK 0 0 rfl rfl rfl rfl hl.1 rfl (Nat.le_of_ble_eq_true rfl) ⟨Nat.zero_le _, Nat.zero_le _⟩ dX0_even_2 (fun r u H locs hw hP hD hS => ?_)
  try dsimp only at hw
  subst hw
  refine bv_if_ne (pc := 5) (tgt := 11) hx hb dX0_even_5 (by decide) (fun h5 => ?_) (fun h5 => ?_)
  · skip
    refine lv_aload_n (pc := 11) hx hb dX0_even_11 rfl (lv_at hl 0 rfl) ?_
    refine lv_iload_n (pc := 12) hx hb dX0_even_12 rfl (lv_at hl 1 rfl) ?_
    refine lv_iconst (pc := 13) (v := zI (-1)) hx hb dX0_even_13 rfl ?_
    refine CTv_Vw (pc := 14) (rX_ok tR) (As := [.int (zI (b)), .int (zI ((-1)))]) (rest := []) ⟨hx, hb, hml, hown, hts⟩ (c_X0_fillSigns l dd hP1 hD1 hix) (cwV 2 hts gX0_even_X0_fillSigns rfl rfl rfl (by decide +kernel) ⟨Nat.le_of_ble_eq_true rfl, Nat.le_of_ble_eq_true rfl⟩) hK hP hD hS hA hX hK 0 0 rfl rfl rfl rfl hl.1 rfl (Nat.le_of_ble_eq_true rfl) ⟨Nat.zero_le _, Nat.zero_le _⟩ dX0_even_14 (fun u H locs hw hP hD hS => ?_)
    try dsimp only at hw
    obtain ⟨sg14, e9⟩ : ∃ z, z = u := ⟨_, rfl⟩
    rw [← e9] at hw hP hD
    have hw14 := hw
    have hP : va_P dd vwCl (wC ad cI cL cQ (ix) (pw) (sg14) (tm) (hd) (wk) (rc) (lc) (P) ((rootN P)) (D) ((phN D))) H := hP
    have hD : va_D A (wC ad cI cL cQ (ix) (pw) (sg14) (tm) (hd) (wk) (rc) (lc) (P) ((rootN P)) (D) ((phN D))) := hD
    refine lv_aload_n (pc := 17) hx hb dX0_even_17 rfl (lv_at hl 0 rfl) ?_
    refine lv_aload_n (pc := 18) hx hb dX0_even_18 rfl (lv_at hl 0 rfl) ?_
    refine va_get (pc := 19) (D := dd) (ci := 0) (v := .ref (ad 2)) (C := RX0) (T := TX0) (N := 12) hx hb hts hin hown hK hP 0 rfl rfl 1 (by decide) (hts (.fieldLink RX0 13 "TurningSums" "powerOf" "[I") (by decide +kernel)) (fun _ h9 => h9) rfl dX0_even_19 ?_
    refine nv_iconst (pc := 22) (k := 0) hx hb dX0_even_22 rfl ?_
    refine nv_iald (pc := 23) hx hb hK hP 2 0 rfl rfl (i := 0) (by omega) (by decide) (v := nI ((rootN P ^ (0) % P))) (hpw _ (by omega)) dX0_even_23 ?_
    refine CTi_Vw (pc := 24) (rX_ok tR) (As := [.int (nI ((rootN P ^ (0) % P)))]) (rest := []) ⟨hx, hb, hml, hown, hts⟩ (c_X0_differences l dd hP1 hD1 (Nat.mod_lt _ (by omega)) hw14) (cwV 1 hts gX0_even_X0_differences rfl rfl rfl (by decide +kernel) ⟨Nat.le_of_ble_eq_true rfl, Nat.le_of_ble_eq_true rfl⟩) hK hP hD hS hA hX hK 0 0 rfl rfl rfl rfl hl.1 rfl (Nat.le_of_ble_eq_true rfl) ⟨Nat.zero_le _, Nat.zero_le _⟩ dX0_even_24 (fun r u H locs hw hP hD hS => ?_)
    try dsimp only at hw
    subst hw
    refine lv_istore_n (pc := 27) (lv' := [(2, .int (zI ((dfS P D b ((rootN P ^ (0) % P)) P)))), (0, .ref (ad 0)), (1, .int (zI (b)))]) hx hb dX0_even_27 rfl hl (by decide) rfl (fun ls hl => ?_)
    refine nv_iconst (pc := 28) (k := 1) hx hb dX0_even_28 rfl ?_
    refine lv_istore_n (pc := 29) (lv' := [(3, .int (nI (1))), (2, .int (zI ((dfS P D b ((rootN P ^ (0) % P)) P)))), (0, .ref (ad 0)), (1, .int (zI (b)))]) hx hb dX0_even_29 rfl hl (by decide) rfl (fun ls hl => ?_)
    have L30 : ∀ (n9_30 : Nat), ∀ (c9 : Nat), D + 1 - c9 < n9_30 → (1 ≤ c9 ∧ c9 ≤ D) → (∀ k, k < c9 → dfS P D b (rootN P ^ k % P) P = dfS P D b (rootN P ^ 0 % P) P) → ∀ (H : Heap) (locs : List Loc) (ls : Array Slot), va_P dd vwCl (wC ad cI cL cQ (ix) (pw) (sg14) (tm) (hd) (wk) (rc) (lc) (P) ((rootN P)) (D) ((phN D))) H → va_D A (wC ad cI cL cQ (ix) (pw) (sg14) (tm) (hd) (wk) (rc) (lc) (P) ((rootN P)) (D) ((phN D))) → va_S A s.heap H locs → lv_has ls 4 [(0, .ref (ad 0)), (1, .int (zI (b))), (2, .int (zI ((dfS P D b ((rootN P ^ (0) % P)) P)))), (3, .int (nI (c9)))] → W p l e ({ frames := 2, cells := 0, slots := 0, locals := 44 } : Room) s m args below meth c H locs 0 0 Q (F0 m 30 ls []) := by
      intro n9_30
      induction n9_30 with
      | zero => intro c9 hm; exact absurd hm (Nat.not_lt_zero _)
      | succ n9_30 ih_30 =>
        intro c9 hm_30 hc9 he9 H locs ls hP hD hS hl
        have hr1 := df_rng (P := P) (D := D) (b := b) (t := rootN P ^ c9 % P) P
        have hr2 := df_rng (P := P) (D := D) (b := b) (t := rootN P ^ 0 % P) P
        refine lv_iload_n (pc := 30) hx hb dX0_even_30 rfl (lv_at hl 3 rfl) ?_
        refine lv_aload_n (pc := 31) hx hb dX0_even_31 rfl (lv_at hl 0 rfl) ?_
        refine va_get (pc := 32) (D := dd) (ci := 0) (v := .int (nI (D))) (C := RX0) (T := TX0) (N := 12) hx hb hts hin hown hK hP 0 rfl rfl 10 (by decide) (hts (.fieldLink RX0 74 "TurningSums" "d" "I") (by decide +kernel)) (fun _ h9 => h9) rfl dX0_even_32 ?_
        refine nv_icmp_ge (pc := 35) (tgt := 60) hx hb (a := c9) (b := D) (by omega) (by omega) dX0_even_35 (by decide) (fun h35 => ?_) (fun h35 => ?_)
        · skip
          refine lv_iload_n (pc := 60) hx hb dX0_even_60 rfl (lv_at hl 2 rfl) ?_
          exact hret _ _ _ _ _ (sg14) (Or.inr (Or.inl ⟨h5, ev_of hP1 hD1.1 hdv (fun k z => he9 k (by omega)), by rw [Nat.pow_zero, Nat.mod_eq_of_lt (by omega)]⟩)) hP hD hS dX0_even_61
        · skip
          refine lv_aload_n (pc := 38) hx hb dX0_even_38 rfl (lv_at hl 0 rfl) ?_
          refine lv_aload_n (pc := 39) hx hb dX0_even_39 rfl (lv_at hl 0 rfl) ?_
          refine va_get (pc := 40) (D := dd) (ci := 0) (v := .ref (ad 2)) (C := RX0) (T := TX0) (N := 12) hx hb hts hin hown hK hP 0 rfl rfl 1 (by decide) (hts (.fieldLink RX0 13 "TurningSums" "powerOf" "[I") (by decide +kernel)) (fun _ h9 => h9) rfl dX0_even_40 ?_
          refine lv_iload_n (pc := 43) hx hb dX0_even_43 rfl (lv_at hl 3 rfl) ?_
          refine nv_iald (pc := 44) hx hb hK hP 2 0 rfl rfl (i := c9) (by omega) (by decide) (v := nI ((rootN P ^ (c9) % P))) (hpw _ (by omega)) dX0_even_44 ?_
          refine CTi_Vw (pc := 45) (rX_ok tR) (As := [.int (nI ((rootN P ^ (c9) % P)))]) (rest := []) ⟨hx, hb, hml, hown, hts⟩ (c_X0_differences l dd hP1 hD1 (Nat.mod_lt _ (by omega)) hw14) (cwV 1 hts gX0_even_X0_differences rfl rfl rfl (by decide +kernel) ⟨Nat.le_of_ble_eq_true rfl, Nat.le_of_ble_eq_true rfl⟩) hK hP hD hS hA hX hK 0 0 rfl rfl rfl rfl hl.1 rfl (Nat.le_of_ble_eq_true rfl) ⟨Nat.zero_le _, Nat.zero_le _⟩ dX0_even_45 (fun r u H locs hw hP hD hS => ?_)
          try dsimp only at hw
          subst hw
          refine lv_iload_n (pc := 48) hx hb dX0_even_48 rfl (lv_at hl 2 rfl) ?_
          refine zv_icmp_eq (pc := 49) (tgt := 54) hx hb (by omega) (by omega) dX0_even_49 (by decide) (fun h49 => ?_) (fun h49 => ?_)
          · skip
            refine lv_iinc (pc := 54) (v := nI ((c9 + 1))) (lv' := [(3, .int (nI ((c9 + 1)))), (0, .ref (ad 0)), (1, .int (zI (b))), (2, .int (zI ((dfS P D b ((rootN P ^ (0) % P)) P))))]) hx hb dX0_even_54 hl (k := 3) rfl (nI_inc _) (by decide) rfl (fun ls hl => ?_)
            refine lv_goto (pc := 57) (tgt := 30) hx hb dX0_even_57 (by decide) ?_
            exact ih_30 ((c9 + 1)) (by omega) (by omega) (fun k z => (Nat.lt_or_ge k c9).elim (fun w => he9 k w) (fun w => by have e : k = c9 := (by omega); subst e; exact h49)) _ _ _ hP hD hS (lv_sub hl [1, 2, 3, 0] rfl)
          · skip
            refine lv_iconst (pc := 52) (v := zI (-1)) hx hb dX0_even_52 rfl ?_
            exact hret _ _ _ _ _ (sg14) (Or.inr (Or.inr ⟨h5, ev_no hP1 (show c9 < D by omega) hDP h49, rfl⟩)) hP hD hS dX0_even_53
    exact L30 _ (1) (Nat.lt_succ_self _) (by omega) (fun k z => by rw [show k = 0 by omega]) _ _ _ hP hD hS (lv_sub hl [2, 3, 1, 0] rfl)
  · skip
    refine lv_bipush (pc := 8) (v := zI (-2)) hx hb dX0_even_8 (by decide) ?_
    exact hret _ _ _ _ _ (sg) (Or.inl ⟨h5, rfl⟩) hP hD hS dX0_even_10
set_option maxHeartbeats 4000000 in
set_option maxRecDepth 100000 in
theorem c_X0_classNumberBySums (l : Launch) (dd : va_G) {ad : Nat → Nat} {cI cL cQ : ClassId} {tR : Nat}  {ix : Nat → Int32} {pw : Nat → Int32} {sg : Nat → Int32} {tm : Nat → Int32} {hd : Nat → Nat → Int32} {wk : Nat → Int64} {rc : Nat → Int64} {lc : Nat → Int64} {P : Nat} {D : Nat}  (hP1 : okP P) (hD1 : 1 ≤ D ∧ D ≤ 12) (hix : ∀ y, 1 ≤ y → y < P → ix y = nI (ixN P y)) : CTi l yX0_classNumberBySums wsX0_classNumberBySums ({ frames := 0, cells := 0, slots := 0, locals := 0 } : Room) dd (tysA cI cL cQ) (rX tR) [.ref (ad 0)] (wC ad cI cL cQ (ix) (pw) (sg) (tm) (hd) (wk) (rc) (lc) (P) ((rootN P)) (D) ((phN D))) (fun (r : Int32) (u : Unit) => r = c0S P) (fun (_ : Unit) => (wC ad cI cL cQ (ix) (pw) (sg) (tm) (hd) (wk) (rc) (lc) (P) ((rootN P)) (D) ((phN D)))) := by
  refine CTi_of (cc := cX0_classNumberBySums) (maxL := 3) (by decide +kernel) rfl (Nat.le_of_ble_eq_true rfl) ?_
  intro p e s m args below meth c A Q ls H locs hx hb hts hown hml hP hK hD hS hA hX hl hret
  have hin : ∀ w ∈ wsX00, w ∈ wsX0_classNumberBySums := by decide +kernel
  have hl : lv_has ls 3 [(0, .ref (ad 0))] := hl
  obtain ⟨o1, o2, o3, o4, o5, o6⟩ := id hP1
  have hph := ph_rng D (by omega) hD1.1
  refine nv_iconst (pc := 0) (k := 0) hx hb dX0_classNumberBySums_0 rfl ?_
  refine lv_istore_n (pc := 1) (lv' := [(1, .int (nI (0))), (0, .ref (ad 0))]) hx hb dX0_classNumberBySums_1 rfl hl (by decide) rfl (fun ls hl => ?_)
  refine nv_iconst (pc := 2) (k := 1) hx hb dX0_classNumberBySums_2 rfl ?_
  refine lv_istore_n (pc := 3) (lv' := [(2, .int (nI (1))), (1, .int (nI (0))), (0, .ref (ad 0))]) hx hb dX0_classNumberBySums_3 rfl hl (by decide) rfl (fun ls hl => ?_)
  have hl : lv_has ls 3 [(2, .int (nI (1))), (1, .int (zI (0))), (0, .ref (ad 0))] := by
    have e9 : nI (0) = zI (0) := rfl
    rw [← e9]
    exact hl
  have L4 : ∀ (n9_4 : Nat), ∀ (x : Nat) (al : Int), P + 1 - x < n9_4 → (1 ≤ x ∧ x ≤ P) → (al = siS (c0F P) x) → ∀ (H : Heap) (locs : List Loc) (ls : Array Slot), va_P dd vwCl (wC ad cI cL cQ (ix) (pw) (sg) (tm) (hd) (wk) (rc) (lc) (P) ((rootN P)) (D) ((phN D))) H → va_D A (wC ad cI cL cQ (ix) (pw) (sg) (tm) (hd) (wk) (rc) (lc) (P) ((rootN P)) (D) ((phN D))) → va_S A s.heap H locs → lv_has ls 3 [(0, .ref (ad 0)), (1, .int (zI (al))), (2, .int (nI (x)))] → W p l e ({ frames := 0, cells := 0, slots := 0, locals := 0 } : Room) s m args below meth c H locs 0 0 Q (F0 m 4 ls []) := by
    intro n9_4
    induction n9_4 with
    | zero => intro x al hm; exact absurd hm (Nat.not_lt_zero _)
    | succ n9_4 ih_4 =>
      intro x al hm_4 hx9 hal H locs ls hP hD hS hl
      have hlt := ixN_le P x
      refine lv_iload_n (pc := 4) hx hb dX0_classNumberBySums_4 rfl (lv_at hl 2 rfl) ?_
      refine lv_aload_n (pc := 5) hx hb dX0_classNumberBySums_5 rfl (lv_at hl 0 rfl) ?_
      refine va_get (pc := 6) (D := dd) (ci := 0) (v := .int (nI (P))) (C := RX0) (T := TX0) (N := 12) hx hb hts hin hown hK hP 0 rfl rfl 8 (by decide) (hts (.fieldLink RX0 49 "TurningSums" "p" "I") (by decide +kernel)) (fun _ h9 => h9) rfl dX0_classNumberBySums_6 ?_
      refine nv_icmp_ge (pc := 9) (tgt := 38) hx hb (a := x) (b := P) (by omega) (by omega) dX0_classNumberBySums_9 (by decide) (fun h9 => ?_) (fun h9 => ?_)
      · skip
        have hc9 := c0_rng (P := P) (n := x) (by omega)
        have ex : x = P := (by omega)
        refine lv_iload_n (pc := 38) hx hb dX0_classNumberBySums_38 rfl (lv_at hl 1 rfl) ?_
        refine lv_aload_n (pc := 39) hx hb dX0_classNumberBySums_39 rfl (lv_at hl 0 rfl) ?_
        refine va_get (pc := 40) (D := dd) (ci := 0) (v := .int (nI (P))) (C := RX0) (T := TX0) (N := 12) hx hb hts hin hown hK hP 0 rfl rfl 8 (by decide) (hts (.fieldLink RX0 49 "TurningSums" "p" "I") (by decide +kernel)) (fun _ h9 => h9) rfl dX0_classNumberBySums_40 ?_
        refine zv_1 (pc := 43) (a := ((P : Nat) : Int)) ((nI_zI _)) ?_
        refine zv_ineg (pc := 43) hx hb dX0_classNumberBySums_43 ?_
        refine lv_idiv (pc := 44) hx hb dX0_classNumberBySums_44 (fun q => by have := congrArg Int32.toInt q; rw [zI_toInt (by omega) (by omega)] at this; have h9 : (0 : Int32).toInt = 0 := (by decide); omega) ?_
        refine tq_i (y := zI ((al.tdiv (-(P : Int))))) (zI_div (by omega) (by omega) (by omega)) ?_
        exact hret _ _ _ _ _ (()) (by rw [hal, ex]; rfl) hP hD hS dX0_classNumberBySums_45
      · skip
        refine lv_iload_n (pc := 12) hx hb dX0_classNumberBySums_12 rfl (lv_at hl 1 rfl) ?_
        refine lv_aload_n (pc := 13) hx hb dX0_classNumberBySums_13 rfl (lv_at hl 0 rfl) ?_
        refine va_get (pc := 14) (D := dd) (ci := 0) (v := .ref (ad 1)) (C := RX0) (T := TX0) (N := 12) hx hb hts hin hown hK hP 0 rfl rfl 0 (by decide) (hts (.fieldLink RX0 9 "TurningSums" "indexOf" "[I") (by decide +kernel)) (fun _ h9 => h9) rfl dX0_classNumberBySums_14 ?_
        refine lv_iload_n (pc := 17) hx hb dX0_classNumberBySums_17 rfl (lv_at hl 2 rfl) ?_
        refine nv_iald (pc := 18) hx hb hK hP 1 0 rfl rfl (i := x) (by omega) (by decide) (v := nI ((ixN P (x)))) (hix _ (by omega) (by omega)) dX0_classNumberBySums_18 ?_
        refine nv_iconst (pc := 19) (k := 2) hx hb dX0_classNumberBySums_19 rfl ?_
        refine nv_irem (pc := 20) hx hb (by omega) (by omega) (by omega) dX0_classNumberBySums_20 ?_
        refine nv_if_ne (pc := 21) (tgt := 28) hx hb (a := ((ixN P (x)) % 2)) (Nat.lt_trans (Nat.mod_lt _ (by omega)) (by omega)) dX0_classNumberBySums_21 (by decide) (fun h21 => ?_) (fun h21 => ?_)
        · skip
          refine lv_iload_n (pc := 28) hx hb dX0_classNumberBySums_28 rfl (lv_at hl 2 rfl) ?_
          refine zv_1 (pc := 29) (a := ((x : Nat) : Int)) ((nI_zI _)) ?_
          refine zv_ineg (pc := 29) hx hb dX0_classNumberBySums_29 ?_
          refine zv_iadd (pc := 30) hx hb dX0_classNumberBySums_30 ?_
          refine lv_istore_n (pc := 31) (lv' := [(1, .int (zI ((al + (-((x : Nat) : Int)))))), (0, .ref (ad 0)), (2, .int (nI (x)))]) hx hb dX0_classNumberBySums_31 rfl hl (by decide) rfl (fun ls hl => ?_)
          refine lv_iinc (pc := 32) (v := nI ((x + 1))) (lv' := [(2, .int (nI ((x + 1)))), (1, .int (zI ((al + (-((x : Nat) : Int)))))), (0, .ref (ad 0))]) hx hb dX0_classNumberBySums_32 hl (k := 2) rfl (nI_inc _) (by decide) rfl (fun ls hl => ?_)
          refine lv_goto (pc := 35) (tgt := 4) hx hb dX0_classNumberBySums_35 (by decide) ?_
          exact ih_4 ((x + 1)) ((al + (-((x : Nat) : Int)))) (by omega) (by omega) (by rw [hal, c0_0 hx9.1 h21]) _ _ _ hP hD hS (lv_sub hl [2, 1, 0] rfl)
        · skip
          refine lv_iload_n (pc := 24) hx hb dX0_classNumberBySums_24 rfl (lv_at hl 2 rfl) ?_
          refine lv_goto (pc := 25) (tgt := 30) hx hb dX0_classNumberBySums_25 (by decide) ?_
          refine zv_2 (pc := 30) (a := ((x : Nat) : Int)) (b := al) ((nI_zI _)) (rfl) ?_
          refine zv_iadd (pc := 30) hx hb dX0_classNumberBySums_30 ?_
          refine lv_istore_n (pc := 31) (lv' := [(1, .int (zI ((al + ((x : Nat) : Int))))), (0, .ref (ad 0)), (2, .int (nI (x)))]) hx hb dX0_classNumberBySums_31 rfl hl (by decide) rfl (fun ls hl => ?_)
          refine lv_iinc (pc := 32) (v := nI ((x + 1))) (lv' := [(2, .int (nI ((x + 1)))), (1, .int (zI ((al + ((x : Nat) : Int))))), (0, .ref (ad 0))]) hx hb dX0_classNumberBySums_32 hl (k := 2) rfl (nI_inc _) (by decide) rfl (fun ls hl => ?_)
          refine lv_goto (pc := 35) (tgt := 4) hx hb dX0_classNumberBySums_35 (by decide) ?_
          exact ih_4 ((x + 1)) ((al + ((x : Nat) : Int))) (by omega) (by omega) (by rw [hal, c0_1 hx9.1 h21]) _ _ _ hP hD hS (lv_sub hl [2, 1, 0] rfl)
  exact L4 _ (1) (0) (Nat.lt_succ_self _) (by omega) (rfl) _ _ _ hP hD hS (lv_sub hl [2, 1, 0] rfl)
set_option maxHeartbeats 4000000 in
set_option maxRecDepth 100000 in
theorem c_X0_isForm (l : Launch) (dd : va_G) {ad : Nat → Nat} {cI cL cQ : ClassId} {tR : Nat}  {ix : Nat → Int32} {pw : Nat → Int32} {sg : Nat → Int32} {tm : Nat → Int32} {hd : Nat → Nat → Int32} {wk : Nat → Int64} {rc : Nat → Int64} {lc : Nat → Int64} {P : Nat} {D : Nat} {u9 : Nat} {v : Int} (hP1 : okP P) (hD1 : 1 ≤ D ∧ D ≤ 12) (hu9 : 1 ≤ u9 ∧ u9 ≤ 199) (hv9 : -(u9 : Int) ≤ v ∧ v ≤ (u9 : Int)) : CTi l yX0_isForm wsX0_isForm ({ frames := 0, cells := 0, slots := 0, locals := 0 } : Room) dd (tysA cI cL cQ) (rX tR) [.ref (ad 0), .int (nI (u9)), .int (zI (v))] (wC ad cI cL cQ (ix) (pw) (sg) (tm) (hd) (wk) (rc) (lc) (P) ((rootN P)) (D) ((phN D))) (fun (r : Int32) (u : Unit) => r = if (frB P u9 v = true) then 1 else 0) (fun (_ : Unit) => (wC ad cI cL cQ (ix) (pw) (sg) (tm) (hd) (wk) (rc) (lc) (P) ((rootN P)) (D) ((phN D)))) := by
  refine CTz_of (cc := cX0_isForm) (maxL := 6) (by decide +kernel) rfl (Nat.le_of_ble_eq_true rfl) ?_
  intro p e s m args below meth c A Q ls H locs hx hb hts hown hml hP hK hD hS hA hX hl hret
  have hin : ∀ w ∈ wsX00, w ∈ wsX0_isForm := by decide +kernel
  have hl : lv_has ls 6 [(0, .ref (ad 0)), (1, .int (nI (u9))), (2, .int (zI (v)))] := hl
  obtain ⟨o1, o2, o3, o4, o5, o6⟩ := id hP1
  have hph := ph_rng D (by omega) hD1.1
  have hsq := sq_le hv9.1 hv9.2
  have huu := Nat.mul_le_mul hu9.2 hu9.2
  have hsc := sq_cast (P := P) (v := v)
  have hnc : ((u9 * u9 : Nat) : Int) = (u9 : Int) * (u9 : Int) := Int.natCast_mul _ _
  have hdl := Nat.div_le_self (sqN P v) (4 * u9)
  have hml := Nat.mod_lt (sqN P v) (show 0 < 4 * u9 by omega)
  refine lv_iload_n (pc := 0) hx hb dX0_isForm_0 rfl (lv_at hl 2 rfl) ?_
  refine lv_iload_n (pc := 1) hx hb dX0_isForm_1 rfl (lv_at hl 2 rfl) ?_
  refine zv_imul (pc := 2) hx hb dX0_isForm_2 ?_
  refine lv_aload_n (pc := 3) hx hb dX0_isForm_3 rfl (lv_at hl 0 rfl) ?_
  refine va_get (pc := 4) (D := dd) (ci := 0) (v := .int (nI (P))) (C := RX0) (T := TX0) (N := 12) hx hb hts hin hown hK hP 0 rfl rfl 8 (by decide) (hts (.fieldLink RX0 49 "TurningSums" "p" "I") (by decide +kernel)) (fun _ h9 => h9) rfl dX0_isForm_4 ?_
  refine zv_2 (pc := 7) (a := ((P : Nat) : Int)) (b := (v * v)) ((nI_zI _)) (rfl) ?_
  refine zv_iadd (pc := 7) hx hb dX0_isForm_7 ?_
  refine tq_i (y := nI ((sqN P v))) (by rw [nI_zI, sq_cast]) ?_
  refine lv_istore_n (pc := 8) (lv' := [(3, .int (nI ((sqN P v)))), (0, .ref (ad 0)), (1, .int (nI (u9))), (2, .int (zI (v)))]) hx hb dX0_isForm_8 rfl hl (by decide) rfl (fun ls hl => ?_)
  refine lv_iload_n (pc := 9) hx hb dX0_isForm_9 rfl (lv_at hl 0 rfl) ?_
  refine nv_iconst (pc := 10) (k := 4) hx hb dX0_isForm_10 rfl ?_
  refine lv_iload_n (pc := 11) hx hb dX0_isForm_11 rfl (lv_at hl 2 rfl) ?_
  refine nv_imul (pc := 12) hx hb dX0_isForm_12 ?_
  refine nv_irem (pc := 13) hx hb (by omega) (by omega) (by omega) dX0_isForm_13 ?_
  refine nv_if_eq (pc := 14) (tgt := 19) hx hb (a := ((sqN P v) % (4 * u9))) (Nat.lt_trans (Nat.mod_lt _ (by omega)) (by omega)) dX0_isForm_14 (by decide) (fun h14 => ?_) (fun h14 => ?_)
  · skip
    refine lv_iload_n (pc := 19) hx hb dX0_isForm_19 rfl (lv_at hl 0 rfl) ?_
    refine nv_iconst (pc := 20) (k := 4) hx hb dX0_isForm_20 rfl ?_
    refine lv_iload_n (pc := 21) hx hb dX0_isForm_21 rfl (lv_at hl 2 rfl) ?_
    refine nv_imul (pc := 22) hx hb dX0_isForm_22 ?_
    refine nv_idiv (pc := 23) hx hb (by omega) (by omega) (by omega) dX0_isForm_23 ?_
    refine lv_istore (pc := 24) (lv' := [(4, .int (nI (((sqN P v) / (4 * u9))))), (3, .int (nI ((sqN P v)))), (0, .ref (ad 0)), (1, .int (nI (u9))), (2, .int (zI (v)))]) hx hb dX0_isForm_24 hl (by decide) rfl (fun ls hl => ?_)
    refine lv_iload_n (pc := 26) hx hb dX0_isForm_26 rfl (lv_at hl 4 rfl) ?_
    refine lv_iload_n (pc := 27) hx hb dX0_isForm_27 rfl (lv_at hl 3 rfl) ?_
    refine zv_2 (pc := 28) (a := ((u9 : Nat) : Int)) (b := v) ((nI_zI _)) (rfl) ?_
    refine zv_icmp_eq (pc := 28) (tgt := 43) hx hb (by omega) (by omega) dX0_isForm_28 (by decide) (fun h28 => ?_) (fun h28 => ?_)
    · skip
      refine nv_iconst (pc := 43) (k := 1) hx hb dX0_isForm_43 rfl ?_
      refine lv_goto (pc := 44) (tgt := 48) hx hb dX0_isForm_44 (by decide) ?_
      refine lv_istore (pc := 48) (lv' := [(5, .int (nI (1))), (4, .int (nI (((sqN P v) / (4 * u9))))), (3, .int (nI ((sqN P v)))), (0, .ref (ad 0)), (1, .int (nI (u9))), (2, .int (zI (v)))]) hx hb dX0_isForm_48 hl (by decide) rfl (fun ls hl => ?_)
      refine lv_iload_n (pc := 50) hx hb dX0_isForm_50 rfl (lv_at hl 4 rfl) ?_
      refine lv_iload (pc := 51) hx hb dX0_isForm_51 (lv_at hl 1 rfl) ?_
      refine nv_icmp_gt (pc := 53) (tgt := 69) hx hb (a := u9) (b := ((sqN P v) / (4 * u9))) (by omega) (by omega) dX0_isForm_53 (by decide) (fun h53 => ?_) (fun h53 => ?_)
      · skip
        refine nv_iconst (pc := 69) (k := 0) hx hb dX0_isForm_69 rfl ?_
        exact hret _ _ _ _ _ (()) (by first | rfl | (split <;> rfl)) (by unfold frB; first | exact (if_pos (decide_eq_true ⟨by omega, by omega, by omega⟩)).symm | exact (if_neg (fun q9 => by have q8 := of_decide_eq_true q9; omega)).symm) hP hD hS dX0_isForm_70
      · skip
        refine lv_iload_n (pc := 56) hx hb dX0_isForm_56 rfl (lv_at hl 5 rfl) ?_
        refine zv_if_ge (pc := 57) (tgt := 65) hx hb (by omega) dX0_isForm_57 (by decide) (fun h57 => ?_) (fun h57 => ?_)
        · skip
          refine nv_iconst (pc := 65) (k := 1) hx hb dX0_isForm_65 rfl ?_
          refine lv_goto (pc := 66) (tgt := 70) hx hb dX0_isForm_66 (by decide) ?_
          exact hret _ _ _ _ _ (()) (by first | rfl | (split <;> rfl)) (by unfold frB; first | exact (if_pos (decide_eq_true ⟨by omega, by omega, by omega⟩)).symm | exact (if_neg (fun q9 => by have q8 := of_decide_eq_true q9; omega)).symm) hP hD hS dX0_isForm_70
        · skip
          refine lv_iload (pc := 60) hx hb dX0_isForm_60 (lv_at hl 0 rfl) ?_
          refine nv_if_ne (pc := 62) (tgt := 69) hx hb (a := 1) (by omega) dX0_isForm_62 (by decide) (fun h62 => ?_) (fun h62 => ?_)
          · skip
            refine nv_iconst (pc := 69) (k := 0) hx hb dX0_isForm_69 rfl ?_
            exact hret _ _ _ _ _ (()) (by first | rfl | (split <;> rfl)) (by unfold frB; first | exact (if_pos (decide_eq_true ⟨by omega, by omega, by omega⟩)).symm | exact (if_neg (fun q9 => by have q8 := of_decide_eq_true q9; omega)).symm) hP hD hS dX0_isForm_70
          · skip
            refine nv_iconst (pc := 65) (k := 1) hx hb dX0_isForm_65 rfl ?_
            refine lv_goto (pc := 66) (tgt := 70) hx hb dX0_isForm_66 (by decide) ?_
            exact hret _ _ _ _ _ (()) (by first | rfl | (split <;> rfl)) (by unfold frB; first | exact (if_pos (decide_eq_true ⟨by omega, by omega, by omega⟩)).symm | exact (if_neg (fun q9 => by have q8 := of_decide_eq_true q9; omega)).symm) hP hD hS dX0_isForm_70
    · skip
      refine lv_iload_n (pc := 31) hx hb dX0_isForm_31 rfl (lv_at hl 4 rfl) ?_
      refine lv_iload_n (pc := 32) hx hb dX0_isForm_32 rfl (lv_at hl 3 rfl) ?_
      refine zv_1 (pc := 33) (a := ((u9 : Nat) : Int)) ((nI_zI _)) ?_
      refine zv_ineg (pc := 33) hx hb dX0_isForm_33 ?_
      refine zv_icmp_eq (pc := 34) (tgt := 43) hx hb (by omega) (by omega) dX0_isForm_34 (by decide) (fun h34 => ?_) (fun h34 => ?_)
      · skip
        refine nv_iconst (pc := 43) (k := 1) hx hb dX0_isForm_43 rfl ?_
        refine lv_goto (pc := 44) (tgt := 48) hx hb dX0_isForm_44 (by decide) ?_
        refine lv_istore (pc := 48) (lv' := [(5, .int (nI (1))), (4, .int (nI (((sqN P v) / (4 * u9))))), (3, .int (nI ((sqN P v)))), (0, .ref (ad 0)), (1, .int (nI (u9))), (2, .int (zI (v)))]) hx hb dX0_isForm_48 hl (by decide) rfl (fun ls hl => ?_)
        refine lv_iload_n (pc := 50) hx hb dX0_isForm_50 rfl (lv_at hl 4 rfl) ?_
        refine lv_iload (pc := 51) hx hb dX0_isForm_51 (lv_at hl 1 rfl) ?_
        refine nv_icmp_gt (pc := 53) (tgt := 69) hx hb (a := u9) (b := ((sqN P v) / (4 * u9))) (by omega) (by omega) dX0_isForm_53 (by decide) (fun h53 => ?_) (fun h53 => ?_)
        · skip
          refine nv_iconst (pc := 69) (k := 0) hx hb dX0_isForm_69 rfl ?_
          exact hret _ _ _ _ _ (()) (by first | rfl | (split <;> rfl)) (by unfold frB; first | exact (if_pos (decide_eq_true ⟨by omega, by omega, by omega⟩)).symm | exact (if_neg (fun q9 => by have q8 := of_decide_eq_true q9; omega)).symm) hP hD hS dX0_isForm_70
        · skip
          refine lv_iload_n (pc := 56) hx hb dX0_isForm_56 rfl (lv_at hl 5 rfl) ?_
          refine zv_if_ge (pc := 57) (tgt := 65) hx hb (by omega) dX0_isForm_57 (by decide) (fun h57 => ?_) (fun h57 => ?_)
          · skip
            refine nv_iconst (pc := 65) (k := 1) hx hb dX0_isForm_65 rfl ?_
            refine lv_goto (pc := 66) (tgt := 70) hx hb dX0_isForm_66 (by decide) ?_
            exact hret _ _ _ _ _ (()) (by first | rfl | (split <;> rfl)) (by unfold frB; first | exact (if_pos (decide_eq_true ⟨by omega, by omega, by omega⟩)).symm | exact (if_neg (fun q9 => by have q8 := of_decide_eq_true q9; omega)).symm) hP hD hS dX0_isForm_70
          · skip
            refine lv_iload (pc := 60) hx hb dX0_isForm_60 (lv_at hl 0 rfl) ?_
            refine nv_if_ne (pc := 62) (tgt := 69) hx hb (a := 1) (by omega) dX0_isForm_62 (by decide) (fun h62 => ?_) (fun h62 => ?_)
            · skip
              refine nv_iconst (pc := 69) (k := 0) hx hb dX0_isForm_69 rfl ?_
              exact hret _ _ _ _ _ (()) (by first | rfl | (split <;> rfl)) (by unfold frB; first | exact (if_pos (decide_eq_true ⟨by omega, by omega, by omega⟩)).symm | exact (if_neg (fun q9 => by have q8 := of_decide_eq_true q9; omega)).symm) hP hD hS dX0_isForm_70
            · skip
              refine nv_iconst (pc := 65) (k := 1) hx hb dX0_isForm_65 rfl ?_
              refine lv_goto (pc := 66) (tgt := 70) hx hb dX0_isForm_66 (by decide) ?_
              exact hret _ _ _ _ _ (()) (by first | rfl | (split <;> rfl)) (by unfold frB; first | exact (if_pos (decide_eq_true ⟨by omega, by omega, by omega⟩)).symm | exact (if_neg (fun q9 => by have q8 := of_decide_eq_true q9; omega)).symm) hP hD hS dX0_isForm_70
      · skip
        refine lv_iload_n (pc := 37) hx hb dX0_isForm_37 rfl (lv_at hl 3 rfl) ?_
        refine lv_iload (pc := 38) hx hb dX0_isForm_38 (lv_at hl 0 rfl) ?_
        refine nv_icmp_ne (pc := 40) (tgt := 47) hx hb (a := u9) (b := ((sqN P v) / (4 * u9))) (by omega) (by omega) dX0_isForm_40 (by decide) (fun h40 => ?_) (fun h40 => ?_)
        · skip
          refine nv_iconst (pc := 47) (k := 0) hx hb dX0_isForm_47 rfl ?_
          refine lv_istore (pc := 48) (lv' := [(5, .int (nI (0))), (4, .int (nI (((sqN P v) / (4 * u9))))), (3, .int (nI ((sqN P v)))), (0, .ref (ad 0)), (1, .int (nI (u9))), (2, .int (zI (v)))]) hx hb dX0_isForm_48 hl (by decide) rfl (fun ls hl => ?_)
          refine lv_iload_n (pc := 50) hx hb dX0_isForm_50 rfl (lv_at hl 4 rfl) ?_
          refine lv_iload (pc := 51) hx hb dX0_isForm_51 (lv_at hl 1 rfl) ?_
          refine nv_icmp_gt (pc := 53) (tgt := 69) hx hb (a := u9) (b := ((sqN P v) / (4 * u9))) (by omega) (by omega) dX0_isForm_53 (by decide) (fun h53 => ?_) (fun h53 => ?_)
          · skip
            refine nv_iconst (pc := 69) (k := 0) hx hb dX0_isForm_69 rfl ?_
            exact hret _ _ _ _ _ (()) (by first | rfl | (split <;> rfl)) (by unfold frB; first | exact (if_pos (decide_eq_true ⟨by omega, by omega, by omega⟩)).symm | exact (if_neg (fun q9 => by have q8 := of_decide_eq_true q9; omega)).symm) hP hD hS dX0_isForm_70
          · skip
            refine lv_iload_n (pc := 56) hx hb dX0_isForm_56 rfl (lv_at hl 5 rfl) ?_
            refine zv_if_ge (pc := 57) (tgt := 65) hx hb (by omega) dX0_isForm_57 (by decide) (fun h57 => ?_) (fun h57 => ?_)
            · skip
              refine nv_iconst (pc := 65) (k := 1) hx hb dX0_isForm_65 rfl ?_
              refine lv_goto (pc := 66) (tgt := 70) hx hb dX0_isForm_66 (by decide) ?_
              exact hret _ _ _ _ _ (()) (by first | rfl | (split <;> rfl)) (by unfold frB; first | exact (if_pos (decide_eq_true ⟨by omega, by omega, by omega⟩)).symm | exact (if_neg (fun q9 => by have q8 := of_decide_eq_true q9; omega)).symm) hP hD hS dX0_isForm_70
            · skip
              refine lv_iload (pc := 60) hx hb dX0_isForm_60 (lv_at hl 0 rfl) ?_
              refine nv_if_ne (pc := 62) (tgt := 69) hx hb (a := 0) (by omega) dX0_isForm_62 (by decide) (fun h62 => ?_) (fun h62 => ?_)
              · skip
                refine nv_iconst (pc := 69) (k := 0) hx hb dX0_isForm_69 rfl ?_
                exact hret _ _ _ _ _ (()) (by first | rfl | (split <;> rfl)) (by unfold frB; first | exact (if_pos (decide_eq_true ⟨by omega, by omega, by omega⟩)).symm | exact (if_neg (fun q9 => by have q8 := of_decide_eq_true q9; omega)).symm) hP hD hS dX0_isForm_70
              · skip
                refine nv_iconst (pc := 65) (k := 1) hx hb dX0_isForm_65 rfl ?_
                refine lv_goto (pc := 66) (tgt := 70) hx hb dX0_isForm_66 (by decide) ?_
                exact hret _ _ _ _ _ (()) (by first | rfl | (split <;> rfl)) (by unfold frB; first | exact (if_pos (decide_eq_true ⟨by omega, by omega, by omega⟩)).symm | exact (if_neg (fun q9 => by have q8 := of_decide_eq_true q9; omega)).symm) hP hD hS dX0_isForm_70
        · skip
          refine nv_iconst (pc := 43) (k := 1) hx hb dX0_isForm_43 rfl ?_
          refine lv_goto (pc := 44) (tgt := 48) hx hb dX0_isForm_44 (by decide) ?_
          refine lv_istore (pc := 48) (lv' := [(5, .int (nI (1))), (4, .int (nI (((sqN P v) / (4 * u9))))), (3, .int (nI ((sqN P v)))), (0, .ref (ad 0)), (1, .int (nI (u9))), (2, .int (zI (v)))]) hx hb dX0_isForm_48 hl (by decide) rfl (fun ls hl => ?_)
          refine lv_iload_n (pc := 50) hx hb dX0_isForm_50 rfl (lv_at hl 4 rfl) ?_
          refine lv_iload (pc := 51) hx hb dX0_isForm_51 (lv_at hl 1 rfl) ?_
          refine nv_icmp_gt (pc := 53) (tgt := 69) hx hb (a := u9) (b := ((sqN P v) / (4 * u9))) (by omega) (by omega) dX0_isForm_53 (by decide) (fun h53 => ?_) (fun h53 => ?_)
          · skip
            refine nv_iconst (pc := 69) (k := 0) hx hb dX0_isForm_69 rfl ?_
            exact hret _ _ _ _ _ (()) (by first | rfl | (split <;> rfl)) (by unfold frB; first | exact (if_pos (decide_eq_true ⟨by omega, by omega, by omega⟩)).symm | exact (if_neg (fun q9 => by have q8 := of_decide_eq_true q9; omega)).symm) hP hD hS dX0_isForm_70
          · skip
            refine lv_iload_n (pc := 56) hx hb dX0_isForm_56 rfl (lv_at hl 5 rfl) ?_
            refine zv_if_ge (pc := 57) (tgt := 65) hx hb (by omega) dX0_isForm_57 (by decide) (fun h57 => ?_) (fun h57 => ?_)
            · skip
              refine nv_iconst (pc := 65) (k := 1) hx hb dX0_isForm_65 rfl ?_
              refine lv_goto (pc := 66) (tgt := 70) hx hb dX0_isForm_66 (by decide) ?_
              exact hret _ _ _ _ _ (()) (by first | rfl | (split <;> rfl)) (by unfold frB; first | exact (if_pos (decide_eq_true ⟨by omega, by omega, by omega⟩)).symm | exact (if_neg (fun q9 => by have q8 := of_decide_eq_true q9; omega)).symm) hP hD hS dX0_isForm_70
            · skip
              refine lv_iload (pc := 60) hx hb dX0_isForm_60 (lv_at hl 0 rfl) ?_
              refine nv_if_ne (pc := 62) (tgt := 69) hx hb (a := 1) (by omega) dX0_isForm_62 (by decide) (fun h62 => ?_) (fun h62 => ?_)
              · skip
                refine nv_iconst (pc := 69) (k := 0) hx hb dX0_isForm_69 rfl ?_
                exact hret _ _ _ _ _ (()) (by first | rfl | (split <;> rfl)) (by unfold frB; first | exact (if_pos (decide_eq_true ⟨by omega, by omega, by omega⟩)).symm | exact (if_neg (fun q9 => by have q8 := of_decide_eq_true q9; omega)).symm) hP hD hS dX0_isForm_70
              · skip
                refine nv_iconst (pc := 65) (k := 1) hx hb dX0_isForm_65 rfl ?_
                refine lv_goto (pc := 66) (tgt := 70) hx hb dX0_isForm_66 (by decide) ?_
                exact hret _ _ _ _ _ (()) (by first | rfl | (split <;> rfl)) (by unfold frB; first | exact (if_pos (decide_eq_true ⟨by omega, by omega, by omega⟩)).symm | exact (if_neg (fun q9 => by have q8 := of_decide_eq_true q9; omega)).symm) hP hD hS dX0_isForm_70
  · skip
    refine nv_iconst (pc := 17) (k := 0) hx hb dX0_isForm_17 rfl ?_
    exact hret _ _ _ _ _ (()) (by first | rfl | (split <;> rfl)) (by unfold frB; first | exact (if_pos (decide_eq_true ⟨by omega, by omega, by omega⟩)).symm | exact (if_neg (fun q9 => by have q8 := of_decide_eq_true q9; omega)).symm) hP hD hS dX0_isForm_18
set_option maxHeartbeats 4000000 in
set_option maxRecDepth 100000 in
theorem c_X0_classNumberByForms (l : Launch) (dd : va_G) {ad : Nat → Nat} {cI cL cQ : ClassId} {tR : Nat}  {ix : Nat → Int32} {pw : Nat → Int32} {sg : Nat → Int32} {tm : Nat → Int32} {hd : Nat → Nat → Int32} {wk : Nat → Int64} {rc : Nat → Int64} {lc : Nat → Int64} {P : Nat} {D : Nat}  (hP1 : okP P) (hD1 : 1 ≤ D ∧ D ≤ 12) : CTi l yX0_classNumberByForms wsX0_classNumberByForms ({ frames := 1, cells := 0, slots := 0, locals := 25 } : Room) dd (tysA cI cL cQ) (rX tR) [.ref (ad 0)] (wC ad cI cL cQ (ix) (pw) (sg) (tm) (hd) (wk) (rc) (lc) (P) ((rootN P)) (D) ((phN D))) (fun (r : Int32) (u : Unit) => r = zI (frT P P)) (fun (_ : Unit) => (wC ad cI cL cQ (ix) (pw) (sg) (tm) (hd) (wk) (rc) (lc) (P) ((rootN P)) (D) ((phN D)))) := by
  refine CTi_of (cc := cX0_classNumberByForms) (maxL := 4) (by decide +kernel) rfl (Nat.le_of_ble_eq_true rfl) ?_
  intro p e s m args below meth c A Q ls H locs hx hb hts hown hml hP hK hD hS hA hX hl hret
  have hin : ∀ w ∈ wsX00, w ∈ wsX0_classNumberByForms := by decide +kernel
  have hl : lv_has ls 4 [(0, .ref (ad 0))] := hl
  obtain ⟨o1, o2, o3, o4, o5, o6⟩ := id hP1
  have hph := ph_rng D (by omega) hD1.1
  refine nv_iconst (pc := 0) (k := 0) hx hb dX0_classNumberByForms_0 rfl ?_
  refine lv_istore_n (pc := 1) (lv' := [(1, .int (nI (0))), (0, .ref (ad 0))]) hx hb dX0_classNumberByForms_1 rfl hl (by decide) rfl (fun ls hl => ?_)
  refine nv_iconst (pc := 2) (k := 1) hx hb dX0_classNumberByForms_2 rfl ?_
  refine lv_istore_n (pc := 3) (lv' := [(2, .int (nI (1))), (1, .int (nI (0))), (0, .ref (ad 0))]) hx hb dX0_classNumberByForms_3 rfl hl (by decide) rfl (fun ls hl => ?_)
  have hl : lv_has ls 4 [(2, .int (nI (1))), (1, .int (zI (0))), (0, .ref (ad 0))] := by
    have e9 : nI (0) = zI (0) := rfl
    rw [← e9]
    exact hl
  have L4 : ∀ (n9_4 : Nat), ∀ (u9 : Nat) (f9 : Int), 10 - u9 < n9_4 → (1 ≤ u9 ∧ u9 ≤ 9) → (f9 = frT P u9) → ∀ (H : Heap) (locs : List Loc) (ls : Array Slot), va_P dd vwCl (wC ad cI cL cQ (ix) (pw) (sg) (tm) (hd) (wk) (rc) (lc) (P) ((rootN P)) (D) ((phN D))) H → va_D A (wC ad cI cL cQ (ix) (pw) (sg) (tm) (hd) (wk) (rc) (lc) (P) ((rootN P)) (D) ((phN D))) → va_S A s.heap H locs → lv_has ls 4 [(0, .ref (ad 0)), (1, .int (zI (f9))), (2, .int (nI (u9)))] → W p l e ({ frames := 1, cells := 0, slots := 0, locals := 25 } : Room) s m args below meth c H locs 0 0 Q (F0 m 4 ls []) := by
    intro n9_4
    induction n9_4 with
    | zero => intro u9 f9 hm; exact absurd hm (Nat.not_lt_zero _)
    | succ n9_4 ih_4 =>
      intro u9 f9 hm_4 hu9 hf9 H locs ls hP hD hS hl
      refine lv_iload_n (pc := 4) hx hb dX0_classNumberByForms_4 rfl (lv_at hl 2 rfl) ?_
      refine nv_bipush (pc := 5) (k := 8) hx hb dX0_classNumberByForms_5 rfl (by decide) ?_
      refine nv_icmp_gt (pc := 7) (tgt := 42) hx hb (a := u9) (b := 8) (by omega) (by omega) dX0_classNumberByForms_7 (by decide) (fun h7 => ?_) (fun h7 => ?_)
      · skip
        refine lv_iload_n (pc := 42) hx hb dX0_classNumberByForms_42 rfl (lv_at hl 1 rfl) ?_
        exact hret _ _ _ _ _ (()) (by rw [hf9, show u9 = 9 by omega, frT_9 o1 o2]) hP hD hS dX0_classNumberByForms_43
      · skip
        refine lv_iload_n (pc := 10) hx hb dX0_classNumberByForms_10 rfl (lv_at hl 2 rfl) ?_
        refine zv_1 (pc := 11) (a := ((u9 : Nat) : Int)) ((nI_zI _)) ?_
        refine zv_ineg (pc := 11) hx hb dX0_classNumberByForms_11 ?_
        refine lv_istore_n (pc := 12) (lv' := [(3, .int (zI ((-((u9 : Nat) : Int))))), (0, .ref (ad 0)), (1, .int (zI (f9))), (2, .int (nI (u9)))]) hx hb dX0_classNumberByForms_12 rfl hl (by decide) rfl (fun ls hl => ?_)
        have hl : lv_has ls 4 [(3, .int (zI ((((0 : Nat) : Int) - (u9 : Int))))), (0, .ref (ad 0)), (1, .int (zI (f9))), (2, .int (nI (u9)))] := by
          have e9 : zI ((-((u9 : Nat) : Int))) = zI ((((0 : Nat) : Int) - (u9 : Int))) := by congr 1; omega
          rw [← e9]
          exact hl
        have L13 : ∀ (n9_13 : Nat), ∀ (k : Nat) (f2 : Int), 2 * u9 + 2 - k < n9_13 → (k ≤ 2 * u9 + 1) → (f2 = frT P u9 + frR P u9 k) → ∀ (H : Heap) (locs : List Loc) (ls : Array Slot), va_P dd vwCl (wC ad cI cL cQ (ix) (pw) (sg) (tm) (hd) (wk) (rc) (lc) (P) ((rootN P)) (D) ((phN D))) H → va_D A (wC ad cI cL cQ (ix) (pw) (sg) (tm) (hd) (wk) (rc) (lc) (P) ((rootN P)) (D) ((phN D))) → va_S A s.heap H locs → lv_has ls 4 [(0, .ref (ad 0)), (1, .int (zI (f2))), (2, .int (nI (u9))), (3, .int (zI (((k : Int) - (u9 : Int)))))] → W p l e ({ frames := 1, cells := 0, slots := 0, locals := 25 } : Room) s m args below meth c H locs 0 0 Q (F0 m 13 ls []) := by
          intro n9_13
          induction n9_13 with
          | zero => intro k f2 hm; exact absurd hm (Nat.not_lt_zero _)
          | succ n9_13 ih_13 =>
            intro k f2 hm_13 hk hf2 H locs ls hP hD hS hl
            refine lv_iload_n (pc := 13) hx hb dX0_classNumberByForms_13 rfl (lv_at hl 3 rfl) ?_
            refine lv_iload_n (pc := 14) hx hb dX0_classNumberByForms_14 rfl (lv_at hl 2 rfl) ?_
            refine zv_2 (pc := 15) (a := ((u9 : Nat) : Int)) (b := ((k : Int) - (u9 : Int))) ((nI_zI _)) (rfl) ?_
            refine zv_icmp_gt (pc := 15) (tgt := 36) hx hb (by omega) (by omega) dX0_classNumberByForms_15 (by decide) (fun h15 => ?_) (fun h15 => ?_)
            · skip
              refine lv_iinc (pc := 36) (v := nI ((u9 + 1))) (lv' := [(2, .int (nI ((u9 + 1)))), (0, .ref (ad 0)), (1, .int (zI (f2))), (3, .int (zI (((k : Int) - (u9 : Int)))))]) hx hb dX0_classNumberByForms_36 hl (k := 2) rfl (nI_inc _) (by decide) rfl (fun ls hl => ?_)
              refine lv_goto (pc := 39) (tgt := 4) hx hb dX0_classNumberByForms_39 (by decide) ?_
              exact ih_4 ((u9 + 1)) (f2) (by omega) (by omega) (by rw [hf2, show k = 2 * u9 + 1 by omega]; show _ = frT P u9 + (if 1 ≤ u9 then frR P u9 (2 * u9 + 1) else 0); rw [if_pos hu9.1]) _ _ _ hP hD hS (lv_sub hl [1, 2, 0] rfl)
            · skip
              refine lv_aload_n (pc := 18) hx hb dX0_classNumberByForms_18 rfl (lv_at hl 0 rfl) ?_
              refine lv_iload_n (pc := 19) hx hb dX0_classNumberByForms_19 rfl (lv_at hl 2 rfl) ?_
              refine lv_iload_n (pc := 20) hx hb dX0_classNumberByForms_20 rfl (lv_at hl 3 rfl) ?_
              refine CTi_Vw (pc := 21) (rX_ok tR) (As := [.int (nI (u9)), .int (zI (((k : Int) - (u9 : Int))))]) (rest := []) ⟨hx, hb, hml, hown, hts⟩ (c_X0_isForm l dd hP1 hD1 (by omega) (by omega)) (cwV 2 hts gX0_classNumberByForms_X0_isForm rfl rfl rfl (by decide +kernel) ⟨Nat.le_of_ble_eq_true rfl, Nat.le_of_ble_eq_true rfl⟩) hK hP hD hS hA hX hK 0 0 rfl rfl rfl rfl hl.1 rfl (Nat.le_of_ble_eq_true rfl) ⟨Nat.zero_le _, Nat.zero_le _⟩ dX0_classNumberByForms_21 (fun r u H locs hw hP hD hS => ?_)
              try dsimp only at hw
              subst hw
              refine bv_if_eq (pc := 24) (tgt := 30) hx hb dX0_classNumberByForms_24 (by decide) (fun h24 => ?_) (fun h24 => ?_)
              · skip
                refine lv_iinc (pc := 30) (v := zI ((((k : Int) - (u9 : Int)) + 1))) (lv' := [(3, .int (zI ((((k : Int) - (u9 : Int)) + 1)))), (0, .ref (ad 0)), (1, .int (zI (f2))), (2, .int (nI (u9)))]) hx hb dX0_classNumberByForms_30 hl (k := 3) rfl (zI_inc _) (by decide) rfl (fun ls hl => ?_)
                refine lv_goto (pc := 33) (tgt := 13) hx hb dX0_classNumberByForms_33 (by decide) ?_
                have hl : lv_has ls 4 [(3, .int (zI ((((k + 1 : Nat) : Int) - (u9 : Int))))), (0, .ref (ad 0)), (1, .int (zI (f2))), (2, .int (nI (u9)))] := by
                  have e9 : zI ((((k : Int) - (u9 : Int)) + 1)) = zI ((((k + 1 : Nat) : Int) - (u9 : Int))) := by congr 1; omega
                  rw [← e9]
                  exact hl
                exact ih_13 (k + 1) (f2) (by omega) (by omega) (by rw [fr_0 (Bool.eq_false_iff.mpr h24)]; exact hf2) _ _ _ hP hD hS (lv_sub hl [1, 2, 3, 0] rfl)
              · skip
                refine lv_iinc (pc := 27) (v := zI ((f2 + 1))) (lv' := [(1, .int (zI ((f2 + 1)))), (0, .ref (ad 0)), (2, .int (nI (u9))), (3, .int (zI (((k : Int) - (u9 : Int)))))]) hx hb dX0_classNumberByForms_27 hl (k := 1) rfl (zI_inc _) (by decide) rfl (fun ls hl => ?_)
                refine lv_iinc (pc := 30) (v := zI ((((k : Int) - (u9 : Int)) + 1))) (lv' := [(3, .int (zI ((((k : Int) - (u9 : Int)) + 1)))), (1, .int (zI ((f2 + 1)))), (0, .ref (ad 0)), (2, .int (nI (u9)))]) hx hb dX0_classNumberByForms_30 hl (k := 3) rfl (zI_inc _) (by decide) rfl (fun ls hl => ?_)
                refine lv_goto (pc := 33) (tgt := 13) hx hb dX0_classNumberByForms_33 (by decide) ?_
                have hl : lv_has ls 4 [(3, .int (zI ((((k + 1 : Nat) : Int) - (u9 : Int))))), (1, .int (zI ((f2 + 1)))), (0, .ref (ad 0)), (2, .int (nI (u9)))] := by
                  have e9 : zI ((((k : Int) - (u9 : Int)) + 1)) = zI ((((k + 1 : Nat) : Int) - (u9 : Int))) := by congr 1; omega
                  rw [← e9]
                  exact hl
                exact ih_13 (k + 1) ((f2 + 1)) (by omega) (by omega) (by rw [fr_1 h24]; omega) _ _ _ hP hD hS (lv_sub hl [2, 1, 3, 0] rfl)
        exact L13 _ (0) (f9) (Nat.lt_succ_self _) (by omega) (by rw [hf9]; exact (Int.add_zero _).symm) _ _ _ hP hD hS (lv_sub hl [1, 2, 3, 0] rfl)
  exact L4 _ (1) (0) (Nat.lt_succ_self _) (by omega) (rfl) _ _ _ hP hD hS (lv_sub hl [2, 1, 0] rfl)
set_option maxHeartbeats 4000000 in
set_option maxRecDepth 100000 in
theorem c_X0_classes (l : Launch) (dd : va_G) {ad : Nat → Nat} {cI cL cQ : ClassId} {tR : Nat}  {ix : Nat → Int32} {pw : Nat → Int32} {sg : Nat → Int32} {tm : Nat → Int32} {hd : Nat → Nat → Int32} {wk : Nat → Int64} {rc : Nat → Int64} {lc : Nat → Int64} {P : Nat} {D : Nat} {way : Int} (hwr : -2147483648 ≤ way ∧ way < 2147483648) (hP1 : okP P) (hD1 : 1 ≤ D ∧ D ≤ 12) (hix : ∀ y, 1 ≤ y → y < P → ix y = nI (ixN P y)) : CTi l yX0_classes wsX0_classes ({ frames := 2, cells := 0, slots := 0, locals := 48 } : Room) dd (tysA cI cL cQ) (rX tR) [.ref (ad 0), .int (zI (way))] (wC ad cI cL cQ (ix) (pw) (sg) (tm) (hd) (wk) (rc) (lc) (P) ((rootN P)) (D) ((phN D))) (fun (r : Int32) (u : Unit) => r = clS P way) (fun (_ : Unit) => (wC ad cI cL cQ (ix) (pw) (sg) (tm) (hd) (wk) (rc) (lc) (P) ((rootN P)) (D) ((phN D)))) := by
  refine CTi_of (cc := cX0_classes) (maxL := 2) (by decide +kernel) rfl (Nat.le_of_ble_eq_true rfl) ?_
  intro p e s m args below meth c A Q ls H locs hx hb hts hown hml hP hK hD hS hA hX hl hret
  have hin : ∀ w ∈ wsX00, w ∈ wsX0_classes := by decide +kernel
  have hl : lv_has ls 2 [(0, .ref (ad 0)), (1, .int (zI (way)))] := hl
  obtain ⟨o1, o2, o3, o4, o5, o6⟩ := id hP1
  have hph := ph_rng D (by omega) hD1.1
  refine lv_iload_n (pc := 0) hx hb dX0_classes_0 rfl (lv_at hl 1 rfl) ?_
  refine zv_if_lt (pc := 1) (tgt := 9) hx hb (by omega) dX0_classes_1 (by decide) (fun h1 => ?_) (fun h1 => ?_)
  · skip
    refine lv_bipush (pc := 9) (v := zI (-3)) hx hb dX0_classes_9 (by decide) ?_
    exact hret _ _ _ _ _ (()) (by unfold clS; rw [if_neg (by omega)]) hP hD hS dX0_classes_11
  · skip
    refine lv_iload_n (pc := 4) hx hb dX0_classes_4 rfl (lv_at hl 1 rfl) ?_
    refine nv_iconst (pc := 5) (k := 1) hx hb dX0_classes_5 rfl ?_
    refine zv_2 (pc := 6) (a := ((1 : Nat) : Int)) (b := way) ((nI_zI _)) (rfl) ?_
    refine zv_icmp_le (pc := 6) (tgt := 12) hx hb (by omega) (by omega) dX0_classes_6 (by decide) (fun h6 => ?_) (fun h6 => ?_)
    · skip
      refine lv_aload_n (pc := 12) hx hb dX0_classes_12 rfl (lv_at hl 0 rfl) ?_
      refine va_get (pc := 13) (D := dd) (ci := 0) (v := .int (nI (P))) (C := RX0) (T := TX0) (N := 12) hx hb hts hin hown hK hP 0 rfl rfl 8 (by decide) (hts (.fieldLink RX0 49 "TurningSums" "p" "I") (by decide +kernel)) (fun _ h9 => h9) rfl dX0_classes_13 ?_
      refine nv_iconst (pc := 16) (k := 4) hx hb dX0_classes_16 rfl ?_
      refine nv_irem (pc := 17) hx hb (by omega) (by omega) (by omega) dX0_classes_17 ?_
      refine nv_iconst (pc := 18) (k := 3) hx hb dX0_classes_18 rfl ?_
      refine nv_icmp_ne (pc := 19) (tgt := 30) hx hb (a := (P % 4)) (b := 3) (Nat.lt_trans (Nat.mod_lt _ (by omega)) (by omega)) (by omega) dX0_classes_19 (by decide) (fun h19 => ?_) (fun h19 => ?_)
      · skip
        refine lv_bipush (pc := 30) (v := zI (-4)) hx hb dX0_classes_30 (by decide) ?_
        exact hret _ _ _ _ _ (()) (by unfold clS; rw [if_pos (by omega), if_neg (by omega)]) hP hD hS dX0_classes_32
      · skip
        refine lv_aload_n (pc := 22) hx hb dX0_classes_22 rfl (lv_at hl 0 rfl) ?_
        refine va_get (pc := 23) (D := dd) (ci := 0) (v := .int (nI (P))) (C := RX0) (T := TX0) (N := 12) hx hb hts hin hown hK hP 0 rfl rfl 8 (by decide) (hts (.fieldLink RX0 49 "TurningSums" "p" "I") (by decide +kernel)) (fun _ h9 => h9) rfl dX0_classes_23 ?_
        refine nv_iconst (pc := 26) (k := 3) hx hb dX0_classes_26 rfl ?_
        refine nv_icmp_ne (pc := 27) (tgt := 33) hx hb (a := P) (b := 3) (by omega) (by omega) dX0_classes_27 (by decide) (fun h27 => ?_) (fun h27 => ?_)
        · skip
          refine lv_iload_n (pc := 33) hx hb dX0_classes_33 rfl (lv_at hl 1 rfl) ?_
          refine zv_if_ne (pc := 34) (tgt := 44) hx hb (by omega) dX0_classes_34 (by decide) (fun h34 => ?_) (fun h34 => ?_)
          · skip
            refine lv_aload_n (pc := 44) hx hb dX0_classes_44 rfl (lv_at hl 0 rfl) ?_
            refine CTi_Vw (pc := 45) (rX_ok tR) (As := []) (rest := []) ⟨hx, hb, hml, hown, hts⟩ (c_X0_classNumberByForms l dd hP1 hD1) (cwV 0 hts gX0_classes_X0_classNumberByForms rfl rfl rfl (by decide +kernel) ⟨Nat.le_of_ble_eq_true rfl, Nat.le_of_ble_eq_true rfl⟩) hK hP hD hS hA hX hK 0 0 rfl rfl rfl rfl hl.1 rfl (Nat.le_of_ble_eq_true rfl) ⟨Nat.zero_le _, Nat.zero_le _⟩ dX0_classes_45 (fun r u H locs hw hP hD hS => ?_)
            try dsimp only at hw
            subst hw
            exact hret _ _ _ _ _ (()) (by unfold clS; first | rw [if_pos (by omega), if_pos (by omega), if_pos (by omega)] | rw [if_pos (by omega), if_pos (by omega), if_neg (by omega)]) hP hD hS dX0_classes_48
          · skip
            refine lv_aload_n (pc := 37) hx hb dX0_classes_37 rfl (lv_at hl 0 rfl) ?_
            refine CTi_Vw (pc := 38) (rX_ok tR) (As := []) (rest := []) ⟨hx, hb, hml, hown, hts⟩ (c_X0_classNumberBySums l dd hP1 hD1 hix) (cwV 0 hts gX0_classes_X0_classNumberBySums rfl rfl rfl (by decide +kernel) ⟨Nat.le_of_ble_eq_true rfl, Nat.le_of_ble_eq_true rfl⟩) hK hP hD hS hA hX hK 0 0 rfl rfl rfl rfl hl.1 rfl (Nat.le_of_ble_eq_true rfl) ⟨Nat.zero_le _, Nat.zero_le _⟩ dX0_classes_38 (fun r u H locs hw hP hD hS => ?_)
            try dsimp only at hw
            subst hw
            refine lv_goto (pc := 41) (tgt := 48) hx hb dX0_classes_41 (by decide) ?_
            exact hret _ _ _ _ _ (()) (by unfold clS; first | rw [if_pos (by omega), if_pos (by omega), if_pos (by omega)] | rw [if_pos (by omega), if_pos (by omega), if_neg (by omega)]) hP hD hS dX0_classes_48
        · skip
          refine lv_bipush (pc := 30) (v := zI (-4)) hx hb dX0_classes_30 (by decide) ?_
          exact hret _ _ _ _ _ (()) (by unfold clS; rw [if_pos (by omega), if_neg (by omega)]) hP hD hS dX0_classes_32
    · skip
      refine lv_bipush (pc := 9) (v := zI (-3)) hx hb dX0_classes_9 (by decide) ?_
      exact hret _ _ _ _ _ (()) (by unfold clS; rw [if_neg (by omega)]) hP hD hS dX0_classes_11
