set_option maxHeartbeats 4000000 in
set_option maxRecDepth 100000 in
theorem c_X0_hasAllPowers (l : Launch) (dd : va_G) {ad : Nat → Nat} {cI cL cQ : ClassId} {tR : Nat}  {ix : Nat → Int32} {pw : Nat → Int32} {sg : Nat → Int32} {tm : Nat → Int32} {hd : Nat → Nat → Int32} {wk : Nat → Int64} {rc : Nat → Int64} {lc : Nat → Int64} {P : Nat} {G : Nat} {D : Nat} {F : Nat} {g : Nat} (hP2 : P ≤ 199) (hg : 2 ≤ g ∧ g < P) : CTi l yX0_hasAllPowers wsX0_hasAllPowers ({ frames := 0, cells := 0, slots := 0, locals := 0 } : Room) dd (tysA cI cL cQ) (rX tR) [.ref (ad 0), .int (nI (g))] (wC ad cI cL cQ (ix) (pw) (sg) (tm) (hd) (wk) (rc) (lc) (P) (G) (D) (F)) (fun (r : Int32) (u : Unit) => r = if (ordB P g = true) then 1 else 0) (fun (_ : Unit) => (wC ad cI cL cQ (ix) (pw) (sg) (tm) (hd) (wk) (rc) (lc) (P) (G) (D) (F))) := by
  refine CTz_of (cc := cX0_hasAllPowers) (maxL := 4) (by decide +kernel) rfl (Nat.le_of_ble_eq_true rfl) ?_
  intro p e s m args below meth c A Q ls H locs hx hb hts hown hml hP hK hD hS hA hX hl hret
  have hin : ∀ w ∈ wsX00, w ∈ wsX0_hasAllPowers := by decide +kernel
  have hl : lv_has ls 4 [(0, .ref (ad 0)), (1, .int (nI (g)))] := hl
  refine lv_iload_n (pc := 0) hx hb dX0_hasAllPowers_0 rfl (lv_at hl 1 rfl) ?_
  refine lv_istore_n (pc := 1) (lv' := [(2, .int (nI (g))), (0, .ref (ad 0)), (1, .int (nI (g)))]) hx hb dX0_hasAllPowers_1 rfl hl (by decide) rfl (fun ls hl => ?_)
  refine nv_iconst (pc := 2) (k := 1) hx hb dX0_hasAllPowers_2 rfl ?_
  refine lv_istore_n (pc := 3) (lv' := [(3, .int (nI (1))), (2, .int (nI (g))), (0, .ref (ad 0)), (1, .int (nI (g)))]) hx hb dX0_hasAllPowers_3 rfl hl (by decide) rfl (fun ls hl => ?_)
  have hl : lv_has ls 4 [(3, .int (nI (1))), (2, .int (nI ((g ^ 1 % P)))), (0, .ref (ad 0)), (1, .int (nI (g)))] := by
    have e9 : nI (g) = nI ((g ^ 1 % P)) := by rw [Nat.pow_one, Nat.mod_eq_of_lt hg.2]
    rw [← e9]
    exact hl
  have L4 : ∀ (n9_4 : Nat), ∀ (k : Nat), P - k < n9_4 → (1 ≤ k ∧ k ≤ P - 1) → (∀ j, 1 ≤ j → j < k → g ^ j % P ≠ 1) → ∀ (H : Heap) (locs : List Loc) (ls : Array Slot), va_P dd vwCl (wC ad cI cL cQ (ix) (pw) (sg) (tm) (hd) (wk) (rc) (lc) (P) (G) (D) (F)) H → va_D A (wC ad cI cL cQ (ix) (pw) (sg) (tm) (hd) (wk) (rc) (lc) (P) (G) (D) (F)) → va_S A s.heap H locs → lv_has ls 4 [(0, .ref (ad 0)), (1, .int (nI (g))), (2, .int (nI ((g ^ k % P)))), (3, .int (nI (k)))] → W p l e ({ frames := 0, cells := 0, slots := 0, locals := 0 } : Room) s m args below meth c H locs 0 0 Q (F0 m 4 ls []) := by
    intro n9_4
    induction n9_4 with
    | zero => intro k hm; exact absurd hm (Nat.not_lt_zero _)
    | succ n9_4 ih_4 =>
      intro k hm_4 hk hno H locs ls hP hD hS hl
      refine lv_iload_n (pc := 4) hx hb dX0_hasAllPowers_4 rfl (lv_at hl 3 rfl) ?_
      refine lv_aload_n (pc := 5) hx hb dX0_hasAllPowers_5 rfl (lv_at hl 0 rfl) ?_
      refine va_get (pc := 6) (D := dd) (ci := 0) (v := .int (nI (P))) (C := RX0) (T := TX0) (N := 12) hx hb hts hin hown hK hP 0 rfl rfl 8 (by decide) (hts (.fieldLink RX0 49 "TurningSums" "p" "I") (by decide +kernel)) (fun _ h9 => h9) rfl dX0_hasAllPowers_6 ?_
      refine nv_iconst (pc := 9) (k := 1) hx hb dX0_hasAllPowers_9 rfl ?_
      refine nv_isub (pc := 10) hx hb (by omega) dX0_hasAllPowers_10 ?_
      refine nv_icmp_ge (pc := 11) (tgt := 36) hx hb (a := k) (b := (P - 1)) (by omega) (by omega) dX0_hasAllPowers_11 (by decide) (fun h11 => ?_) (fun h11 => ?_)
      · skip
        refine nv_iconst (pc := 36) (k := 1) hx hb dX0_hasAllPowers_36 rfl ?_
        exact hret _ _ _ _ _ (()) (by first | rfl | (split <;> rfl)) ((if_pos ((ordB_iff P g).mpr (fun j hj => hno (j + 1) (by omega) (by omega)))).symm) hP hD hS dX0_hasAllPowers_37
      · skip
        refine lv_iload_n (pc := 14) hx hb dX0_hasAllPowers_14 rfl (lv_at hl 2 rfl) ?_
        refine nv_iconst (pc := 15) (k := 1) hx hb dX0_hasAllPowers_15 rfl ?_
        refine nv_icmp_ne (pc := 16) (tgt := 21) hx hb (a := (g ^ k % P)) (b := 1) (Nat.lt_trans (Nat.mod_lt _ (by omega)) (by omega)) (by omega) dX0_hasAllPowers_16 (by decide) (fun h16 => ?_) (fun h16 => ?_)
        · skip
          refine lv_iload_n (pc := 21) hx hb dX0_hasAllPowers_21 rfl (lv_at hl 2 rfl) ?_
          refine lv_iload_n (pc := 22) hx hb dX0_hasAllPowers_22 rfl (lv_at hl 1 rfl) ?_
          refine nv_imul (pc := 23) hx hb dX0_hasAllPowers_23 ?_
          refine lv_aload_n (pc := 24) hx hb dX0_hasAllPowers_24 rfl (lv_at hl 0 rfl) ?_
          refine va_get (pc := 25) (D := dd) (ci := 0) (v := .int (nI (P))) (C := RX0) (T := TX0) (N := 12) hx hb hts hin hown hK hP 0 rfl rfl 8 (by decide) (hts (.fieldLink RX0 49 "TurningSums" "p" "I") (by decide +kernel)) (fun _ h9 => h9) rfl dX0_hasAllPowers_25 ?_
          refine nv_irem (pc := 28) hx hb (mul_b hP2 (Nat.mod_lt _ (by omega)) hg.2) (by omega) (by omega) dX0_hasAllPowers_28 ?_
          refine tq_i (y := nI ((g ^ (k + 1) % P))) (by rw [pw_step]) ?_
          refine lv_istore_n (pc := 29) (lv' := [(2, .int (nI ((g ^ (k + 1) % P)))), (0, .ref (ad 0)), (1, .int (nI (g))), (3, .int (nI (k)))]) hx hb dX0_hasAllPowers_29 rfl hl (by decide) rfl (fun ls hl => ?_)
          refine lv_iinc (pc := 30) (v := nI ((k + 1))) (lv' := [(3, .int (nI ((k + 1)))), (2, .int (nI ((g ^ (k + 1) % P)))), (0, .ref (ad 0)), (1, .int (nI (g)))]) hx hb dX0_hasAllPowers_30 hl (k := 3) rfl (nI_inc _) (by decide) rfl (fun ls hl => ?_)
          refine lv_goto (pc := 33) (tgt := 4) hx hb dX0_hasAllPowers_33 (by decide) ?_
          exact ih_4 ((k + 1)) (by omega) (by omega) (fun j a b => (Nat.lt_or_ge j k).elim (fun z => hno j a z) (fun z => by have e : j = k := (by omega); subst e; exact h16)) _ _ _ hP hD hS (lv_sub hl [2, 3, 1, 0] rfl)
        · skip
          refine nv_iconst (pc := 19) (k := 0) hx hb dX0_hasAllPowers_19 rfl ?_
          exact hret _ _ _ _ _ (()) (by first | rfl | (split <;> rfl)) ((if_neg (fun q => by have := (ordB_iff P g).mp q (k - 1) (by omega); rw [show k - 1 + 1 = k by omega] at this; exact this h16)).symm) hP hD hS dX0_hasAllPowers_20
  exact L4 _ (1) (Nat.lt_succ_self _) (by omega) (fun j a b => by omega) _ _ _ hP hD hS (lv_sub hl [2, 3, 1, 0] rfl)
set_option maxHeartbeats 4000000 in
set_option maxRecDepth 100000 in
theorem c_X0_leastRoot (l : Launch) (dd : va_G) {ad : Nat → Nat} {cI cL cQ : ClassId} {tR : Nat}  {ix : Nat → Int32} {pw : Nat → Int32} {sg : Nat → Int32} {tm : Nat → Int32} {hd : Nat → Nat → Int32} {wk : Nat → Int64} {rc : Nat → Int64} {lc : Nat → Int64} {P : Nat} {G : Nat} {D : Nat} {F : Nat}  (hP1 : okP P) : CTi l yX0_leastRoot wsX0_leastRoot ({ frames := 1, cells := 0, slots := 0, locals := 23 } : Room) dd (tysA cI cL cQ) (rX tR) [.ref (ad 0)] (wC ad cI cL cQ (ix) (pw) (sg) (tm) (hd) (wk) (rc) (lc) (P) (G) (D) (F)) (fun (r : Int32) (u : Unit) => r = nI (rootN P)) (fun (_ : Unit) => (wC ad cI cL cQ (ix) (pw) (sg) (tm) (hd) (wk) (rc) (lc) (P) (G) (D) (F))) := by
  refine CTi_of (cc := cX0_leastRoot) (maxL := 2) (by decide +kernel) rfl (Nat.le_of_ble_eq_true rfl) ?_
  intro p e s m args below meth c A Q ls H locs hx hb hts hown hml hP hK hD hS hA hX hl hret
  have hin : ∀ w ∈ wsX00, w ∈ wsX0_leastRoot := by decide +kernel
  have hl : lv_has ls 2 [(0, .ref (ad 0))] := hl
  obtain ⟨o1, o2, o3, o4, o5, o6⟩ := id hP1
  refine nv_iconst (pc := 0) (k := 2) hx hb dX0_leastRoot_0 rfl ?_
  refine lv_istore_n (pc := 1) (lv' := [(1, .int (nI (2))), (0, .ref (ad 0))]) hx hb dX0_leastRoot_1 rfl hl (by decide) rfl (fun ls hl => ?_)
  have L2 : ∀ (n9_2 : Nat), ∀ (g : Nat), P + 1 - g < n9_2 → (2 ≤ g ∧ g ≤ P) → (∀ k, 2 ≤ k → k < g → ordB P k = false) → ∀ (H : Heap) (locs : List Loc) (ls : Array Slot), va_P dd vwCl (wC ad cI cL cQ (ix) (pw) (sg) (tm) (hd) (wk) (rc) (lc) (P) (G) (D) (F)) H → va_D A (wC ad cI cL cQ (ix) (pw) (sg) (tm) (hd) (wk) (rc) (lc) (P) (G) (D) (F)) → va_S A s.heap H locs → lv_has ls 2 [(0, .ref (ad 0)), (1, .int (nI (g)))] → W p l e ({ frames := 1, cells := 0, slots := 0, locals := 23 } : Room) s m args below meth c H locs 0 0 Q (F0 m 2 ls []) := by
    intro n9_2
    induction n9_2 with
    | zero => intro g hm; exact absurd hm (Nat.not_lt_zero _)
    | succ n9_2 ih_2 =>
      intro g hm_2 hq hno H locs ls hP hD hS hl
      refine lv_iload_n (pc := 2) hx hb dX0_leastRoot_2 rfl (lv_at hl 1 rfl) ?_
      refine lv_aload_n (pc := 3) hx hb dX0_leastRoot_3 rfl (lv_at hl 0 rfl) ?_
      refine va_get (pc := 4) (D := dd) (ci := 0) (v := .int (nI (P))) (C := RX0) (T := TX0) (N := 12) hx hb hts hin hown hK hP 0 rfl rfl 8 (by decide) (hts (.fieldLink RX0 49 "TurningSums" "p" "I") (by decide +kernel)) (fun _ h9 => h9) rfl dX0_leastRoot_4 ?_
      refine nv_icmp_ge (pc := 7) (tgt := 26) hx hb (a := g) (b := P) (by omega) (by omega) dX0_leastRoot_7 (by decide) (fun h7 => ?_) (fun h7 => ?_)
      · skip
        have := hno (rootN P) o3 (by omega)
        rw [o5] at this
        cases this
      · skip
        refine lv_aload_n (pc := 10) hx hb dX0_leastRoot_10 rfl (lv_at hl 0 rfl) ?_
        refine lv_iload_n (pc := 11) hx hb dX0_leastRoot_11 rfl (lv_at hl 1 rfl) ?_
        refine CTi_Vw (pc := 12) (rX_ok tR) (As := [.int (nI (g))]) (rest := []) ⟨hx, hb, hml, hown, hts⟩ (c_X0_hasAllPowers l dd (by omega) (by omega)) (cwV 1 hts gX0_leastRoot_X0_hasAllPowers rfl rfl rfl (by decide +kernel) ⟨Nat.le_of_ble_eq_true rfl, Nat.le_of_ble_eq_true rfl⟩) hK hP hD hS hA hX hK 0 0 rfl rfl rfl rfl hl.1 rfl (Nat.le_of_ble_eq_true rfl) ⟨Nat.zero_le _, Nat.zero_le _⟩ dX0_leastRoot_12 (fun r u H locs hw hP hD hS => ?_)
        try dsimp only at hw
        subst hw
        refine bv_if_eq (pc := 15) (tgt := 20) hx hb dX0_leastRoot_15 (by decide) (fun h15 => ?_) (fun h15 => ?_)
        · skip
          refine lv_iinc (pc := 20) (v := nI ((g + 1))) (lv' := [(1, .int (nI ((g + 1)))), (0, .ref (ad 0))]) hx hb dX0_leastRoot_20 hl (k := 1) rfl (nI_inc _) (by decide) rfl (fun ls hl => ?_)
          refine lv_goto (pc := 23) (tgt := 2) hx hb dX0_leastRoot_23 (by decide) ?_
          exact ih_2 ((g + 1)) (by omega) (by omega) (fun k a b => (Nat.lt_or_ge k g).elim (fun z => hno k a z) (fun z => by have e : k = g := (by omega); subst e; exact Bool.eq_false_iff.mpr h15)) _ _ _ hP hD hS (lv_sub hl [1, 0] rfl)
        · skip
          refine lv_iload_n (pc := 18) hx hb dX0_leastRoot_18 rfl (lv_at hl 1 rfl) ?_
          exact hret _ _ _ _ _ (()) (congrArg nI (root_eq hq.1 (by omega) h15 hno).symm) hP hD hS dX0_leastRoot_19
  exact L2 _ (2) (Nat.lt_succ_self _) (by omega) (fun k a b => by omega) _ _ _ hP hD hS (lv_sub hl [1, 0] rfl)
set_option maxHeartbeats 4000000 in
set_option maxRecDepth 100000 in
theorem c_X0_setDegree (l : Launch) (dd : va_G) {ad : Nat → Nat} {cI cL cQ : ClassId} {tR : Nat}  {ix : Nat → Int32} {pw : Nat → Int32} {sg : Nat → Int32} {tm : Nat → Int32} {hd : Nat → Nat → Int32} {wk : Nat → Int64} {rc : Nat → Int64} {lc : Nat → Int64} {P : Nat} {G : Nat} {D : Nat} {F : Nat} {n : Nat} (h1 : 1 ≤ n) (h2 : n ≤ 12) : CTv l yX0_setDegree wsX0_setDegree ({ frames := 1, cells := 0, slots := 0, locals := 23 } : Room) dd (tysA cI cL cQ) (rX tR) [.ref (ad 0), .int (nI (n))] (wC ad cI cL cQ (ix) (pw) (sg) (tm) (hd) (wk) (rc) (lc) (P) (G) (D) (F)) (fun (u : Nat → Nat → Int32) => ∀ a, a < 6 → ∀ b, b < 10 → u a b = nI 0) (fun (u : Nat → Nat → Int32) => (wC ad cI cL cQ (ix) (pw) (sg) (tm) (u) (wk) (rc) (lc) (P) (G) (n) ((phN n)))) := by
  refine CTv_of (cc := cX0_setDegree) (maxL := 3) (by decide +kernel) rfl (Nat.le_of_ble_eq_true rfl) ?_
  intro p e s m args below meth c A Q ls H locs hx hb hts hown hml hP hK hD hS hA hX hl hret
  have hin : ∀ w ∈ wsX00, w ∈ wsX0_setDegree := by decide +kernel
  have hl : lv_has ls 3 [(0, .ref (ad 0)), (1, .int (nI (n)))] := hl
  refine lv_aload_n (pc := 0) hx hb dX0_setDegree_0 rfl (lv_at hl 0 rfl) ?_
  refine lv_iload_n (pc := 1) hx hb dX0_setDegree_1 rfl (lv_at hl 1 rfl) ?_
  refine va_put (pc := 2) (D := dd) (ci := 0) (v := .int (nI (n))) (ty := .int) (C := RX0) (T := TX0) (N := 12) hx hb hts hin tyX0 tyX0_ok nmX0 hown hK hP hD hS 0 rfl rfl 10 (by decide) (hts (.fieldLink RX0 74 "TurningSums" "d" "I") (by decide +kernel)) (fun _ h9 => h9) rfl (by decide +kernel) rfl rfl (Nat.le_of_ble_eq_true rfl) dX0_setDegree_2 (fun H locs hP hD hS => ?_)
  have hP : va_P dd vwCl (wC ad cI cL cQ (ix) (pw) (sg) (tm) (hd) (wk) (rc) (lc) (P) (G) (n) (F)) H := hP
  have hD : va_D A (wC ad cI cL cQ (ix) (pw) (sg) (tm) (hd) (wk) (rc) (lc) (P) (G) (n) (F)) := hD
  refine lv_aload_n (pc := 5) hx hb dX0_setDegree_5 rfl (lv_at hl 0 rfl) ?_
  refine nv_iconst (pc := 6) (k := 0) hx hb dX0_setDegree_6 rfl ?_
  refine va_put (pc := 7) (D := dd) (ci := 0) (v := .int (nI (0))) (ty := .int) (C := RX0) (T := TX0) (N := 12) hx hb hts hin tyX0 tyX0_ok nmX0 hown hK hP hD hS 0 rfl rfl 11 (by decide) (hts (.fieldLink RX0 55 "TurningSums" "phi" "I") (by decide +kernel)) (fun _ h9 => h9) rfl (by decide +kernel) rfl rfl (Nat.le_of_ble_eq_true rfl) dX0_setDegree_7 (fun H locs hP hD hS => ?_)
  have hP : va_P dd vwCl (wC ad cI cL cQ (ix) (pw) (sg) (tm) (hd) (wk) (rc) (lc) (P) (G) (n) (0)) H := hP
  have hD : va_D A (wC ad cI cL cQ (ix) (pw) (sg) (tm) (hd) (wk) (rc) (lc) (P) (G) (n) (0)) := hD
  refine nv_iconst (pc := 10) (k := 1) hx hb dX0_setDegree_10 rfl ?_
  refine lv_istore_n (pc := 11) (lv' := [(2, .int (nI (1))), (0, .ref (ad 0)), (1, .int (nI (n)))]) hx hb dX0_setDegree_11 rfl hl (by decide) rfl (fun ls hl => ?_)
  have L12 : ∀ (n9_12 : Nat), ∀ (j : Nat), n + 1 - j < n9_12 → (j ≤ n) → ∀ (H : Heap) (locs : List Loc) (ls : Array Slot), va_P dd vwCl (wC ad cI cL cQ (ix) (pw) (sg) (tm) (hd) (wk) (rc) (lc) (P) (G) (n) ((phC n j))) H → va_D A (wC ad cI cL cQ (ix) (pw) (sg) (tm) (hd) (wk) (rc) (lc) (P) (G) (n) ((phC n j))) → va_S A s.heap H locs → lv_has ls 3 [(0, .ref (ad 0)), (1, .int (nI (n))), (2, .int (nI ((j + 1))))] → W p l e ({ frames := 1, cells := 0, slots := 0, locals := 23 } : Room) s m args below meth c H locs 0 0 Q (F0 m 12 ls []) := by
    intro n9_12
    induction n9_12 with
    | zero => intro j hm; exact absurd hm (Nat.not_lt_zero _)
    | succ n9_12 ih_12 =>
      intro j hm_12 hj H locs ls hP hD hS hl
      refine lv_iload_n (pc := 12) hx hb dX0_setDegree_12 rfl (lv_at hl 2 rfl) ?_
      refine lv_aload_n (pc := 13) hx hb dX0_setDegree_13 rfl (lv_at hl 0 rfl) ?_
      refine va_get (pc := 14) (D := dd) (ci := 0) (v := .int (nI (n))) (C := RX0) (T := TX0) (N := 12) hx hb hts hin hown hK hP 0 rfl rfl 10 (by decide) (hts (.fieldLink RX0 74 "TurningSums" "d" "I") (by decide +kernel)) (fun _ h9 => h9) rfl dX0_setDegree_14 ?_
      refine nv_icmp_gt (pc := 17) (tgt := 44) hx hb (a := (j + 1)) (b := n) (by omega) (by omega) dX0_setDegree_17 (by decide) (fun h17 => ?_) (fun h17 => ?_)
      · skip
        have e9 : (phC n j) = (phN n) := by rw [show j = n by omega]; rfl
        rw [e9] at hP hD
        have hP : va_P dd vwCl (wC ad cI cL cQ (ix) (pw) (sg) (tm) (hd) (wk) (rc) (lc) (P) (G) (n) ((phN n))) H := hP
        have hD : va_D A (wC ad cI cL cQ (ix) (pw) (sg) (tm) (hd) (wk) (rc) (lc) (P) (G) (n) ((phN n))) := hD
        refine nv_iconst (pc := 44) (k := 0) hx hb dX0_setDegree_44 rfl ?_
        refine lv_istore_n (pc := 45) (lv' := [(2, .int (nI (0))), (0, .ref (ad 0)), (1, .int (nI (n)))]) hx hb dX0_setDegree_45 rfl hl (by decide) rfl (fun ls hl => ?_)
        have L46 : ∀ (n9_46 : Nat), ∀ (i : Nat) (hdv : Nat → Nat → Int32), 7 - i < n9_46 → (i ≤ 6) → (∀ a, a < i → ∀ b, b < 10 → hdv a b = nI 0) → ∀ (H : Heap) (locs : List Loc) (ls : Array Slot), va_P dd vwCl (wC ad cI cL cQ (ix) (pw) (sg) (tm) (hdv) (wk) (rc) (lc) (P) (G) (n) ((phN n))) H → va_D A (wC ad cI cL cQ (ix) (pw) (sg) (tm) (hdv) (wk) (rc) (lc) (P) (G) (n) ((phN n))) → va_S A s.heap H locs → lv_has ls 3 [(0, .ref (ad 0)), (1, .int (nI (n))), (2, .int (nI (i)))] → W p l e ({ frames := 1, cells := 0, slots := 0, locals := 23 } : Room) s m args below meth c H locs 0 0 Q (F0 m 46 ls []) := by
          intro n9_46
          induction n9_46 with
          | zero => intro i hdv hm; exact absurd hm (Nat.not_lt_zero _)
          | succ n9_46 ih_46 =>
            intro i hdv hm_46 hi hz H locs ls hP hD hS hl
            refine lv_iload_n (pc := 46) hx hb dX0_setDegree_46 rfl (lv_at hl 2 rfl) ?_
            refine nv_bipush (pc := 47) (k := 6) hx hb dX0_setDegree_47 rfl (by decide) ?_
            refine nv_icmp_ge (pc := 49) (tgt := 68) hx hb (a := i) (b := 6) (by omega) (by omega) dX0_setDegree_49 (by decide) (fun h49 => ?_) (fun h49 => ?_)
            · skip
              exact hret _ _ _ _ (hdv) (by have e : i = 6 := (by omega); rw [e] at hz; exact hz) hP hD hS dX0_setDegree_68
            · skip
              rcases (show i = 0 ∨ i = 1 ∨ i = 2 ∨ i = 3 ∨ i = 4 ∨ i = 5 by omega) with rfl | rfl | rfl | rfl | rfl | rfl
              · skip
                refine lv_aload_n (pc := 52) hx hb dX0_setDegree_52 rfl (lv_at hl 0 rfl) ?_
                refine va_get (pc := 53) (D := dd) (ci := 0) (v := .ref (ad 5)) (C := RX0) (T := TX0) (N := 12) hx hb hts hin hown hK hP 0 rfl rfl 4 (by decide) (hts (.fieldLink RX0 24 "TurningSums" "holds" "[[I") (by decide +kernel)) (fun _ h9 => h9) rfl dX0_setDegree_53 ?_
                refine lv_iload_n (pc := 56) hx hb dX0_setDegree_56 rfl (lv_at hl 2 rfl) ?_
                refine nv_aald (pc := 57) hx hb hK hP 5 2 rfl rfl (i := 0) (by omega) (by decide) (if_pos (by omega)) dX0_setDegree_57 ?_
                refine nv_iconst (pc := 58) (k := 0) hx hb dX0_setDegree_58 rfl ?_
                refine CTv_Sp (pc := 59) am_no_ok (As := [.ref (ad (9 + (0))), .int (nI (0))]) (rest := []) ⟨hx, hb, hml, hown, hts⟩ (c_J7_fill_53178 l dd (by decide)) (va_cwS 2 hts gX0_setDegree_J7_fill_53178 rfl rfl rfl (by decide +kernel) ⟨Nat.le_of_ble_eq_true rfl, Nat.le_of_ble_eq_true rfl⟩) hK hP hD hS hA trivial [9] [0, 1, 2, 3, 4, 5, 6, 7, 8, 10, 11, 12, 13, 14] rfl rfl rfl rfl (by decide) rfl hl.1 rfl (Nat.le_of_ble_eq_true rfl) ⟨Nat.zero_le _, Nat.zero_le _⟩ dX0_setDegree_59 (fun u H locs hw hP hD hS => ?_)
                try dsimp only at hw
                subst hw
                have hP : va_P dd vwCl (wC ad cI cL cQ (ix) (pw) (sg) (tm) ((va_up (hdv) 0 (fun k => if k < 10 then nI (0) else (hdv) 0 k))) (wk) (rc) (lc) (P) (G) (n) ((phN n))) H := hP.sub [0, 1, 2, 3, 4, 5, 6, 7, 8, 14, 9, 10, 11, 12, 13] rfl
                have hD : va_D A (wC ad cI cL cQ (ix) (pw) (sg) (tm) ((va_up (hdv) 0 (fun k => if k < 10 then nI (0) else (hdv) 0 k))) (wk) (rc) (lc) (P) (G) (n) ((phN n))) := hD.sub [0, 1, 2, 3, 4, 5, 6, 7, 8, 14, 9, 10, 11, 12, 13] (by decide) rfl
                refine lv_iinc (pc := 62) (v := nI ((0 + 1))) (lv' := [(2, .int (nI ((0 + 1)))), (0, .ref (ad 0)), (1, .int (nI (n)))]) hx hb dX0_setDegree_62 hl (k := 2) rfl (nI_inc _) (by decide) rfl (fun ls hl => ?_)
                refine lv_goto (pc := 65) (tgt := 46) hx hb dX0_setDegree_65 (by decide) ?_
                exact ih_46 ((0 + 1)) ((va_up (hdv) 0 (fun k => if k < 10 then nI (0) else (hdv) 0 k))) (by omega) (by omega) (rowz hz) _ _ _ hP hD hS (lv_sub hl [1, 2, 0] rfl)
              · skip
                refine lv_aload_n (pc := 52) hx hb dX0_setDegree_52 rfl (lv_at hl 0 rfl) ?_
                refine va_get (pc := 53) (D := dd) (ci := 0) (v := .ref (ad 5)) (C := RX0) (T := TX0) (N := 12) hx hb hts hin hown hK hP 0 rfl rfl 4 (by decide) (hts (.fieldLink RX0 24 "TurningSums" "holds" "[[I") (by decide +kernel)) (fun _ h9 => h9) rfl dX0_setDegree_53 ?_
                refine lv_iload_n (pc := 56) hx hb dX0_setDegree_56 rfl (lv_at hl 2 rfl) ?_
                refine nv_aald (pc := 57) hx hb hK hP 5 2 rfl rfl (i := 1) (by omega) (by decide) (if_pos (by omega)) dX0_setDegree_57 ?_
                refine nv_iconst (pc := 58) (k := 0) hx hb dX0_setDegree_58 rfl ?_
                refine CTv_Sp (pc := 59) am_no_ok (As := [.ref (ad (9 + (1))), .int (nI (0))]) (rest := []) ⟨hx, hb, hml, hown, hts⟩ (c_J7_fill_53178 l dd (by decide)) (va_cwS 2 hts gX0_setDegree_J7_fill_53178 rfl rfl rfl (by decide +kernel) ⟨Nat.le_of_ble_eq_true rfl, Nat.le_of_ble_eq_true rfl⟩) hK hP hD hS hA trivial [10] [0, 1, 2, 3, 4, 5, 6, 7, 8, 9, 11, 12, 13, 14] rfl rfl rfl rfl (by decide) rfl hl.1 rfl (Nat.le_of_ble_eq_true rfl) ⟨Nat.zero_le _, Nat.zero_le _⟩ dX0_setDegree_59 (fun u H locs hw hP hD hS => ?_)
                try dsimp only at hw
                subst hw
                have hP : va_P dd vwCl (wC ad cI cL cQ (ix) (pw) (sg) (tm) ((va_up (hdv) 1 (fun k => if k < 10 then nI (0) else (hdv) 1 k))) (wk) (rc) (lc) (P) (G) (n) ((phN n))) H := hP.sub [0, 1, 2, 3, 4, 5, 6, 7, 8, 9, 14, 10, 11, 12, 13] rfl
                have hD : va_D A (wC ad cI cL cQ (ix) (pw) (sg) (tm) ((va_up (hdv) 1 (fun k => if k < 10 then nI (0) else (hdv) 1 k))) (wk) (rc) (lc) (P) (G) (n) ((phN n))) := hD.sub [0, 1, 2, 3, 4, 5, 6, 7, 8, 9, 14, 10, 11, 12, 13] (by decide) rfl
                refine lv_iinc (pc := 62) (v := nI ((1 + 1))) (lv' := [(2, .int (nI ((1 + 1)))), (0, .ref (ad 0)), (1, .int (nI (n)))]) hx hb dX0_setDegree_62 hl (k := 2) rfl (nI_inc _) (by decide) rfl (fun ls hl => ?_)
                refine lv_goto (pc := 65) (tgt := 46) hx hb dX0_setDegree_65 (by decide) ?_
                exact ih_46 ((1 + 1)) ((va_up (hdv) 1 (fun k => if k < 10 then nI (0) else (hdv) 1 k))) (by omega) (by omega) (rowz hz) _ _ _ hP hD hS (lv_sub hl [1, 2, 0] rfl)
              · skip
                refine lv_aload_n (pc := 52) hx hb dX0_setDegree_52 rfl (lv_at hl 0 rfl) ?_
                refine va_get (pc := 53) (D := dd) (ci := 0) (v := .ref (ad 5)) (C := RX0) (T := TX0) (N := 12) hx hb hts hin hown hK hP 0 rfl rfl 4 (by decide) (hts (.fieldLink RX0 24 "TurningSums" "holds" "[[I") (by decide +kernel)) (fun _ h9 => h9) rfl dX0_setDegree_53 ?_
                refine lv_iload_n (pc := 56) hx hb dX0_setDegree_56 rfl (lv_at hl 2 rfl) ?_
                refine nv_aald (pc := 57) hx hb hK hP 5 2 rfl rfl (i := 2) (by omega) (by decide) (if_pos (by omega)) dX0_setDegree_57 ?_
                refine nv_iconst (pc := 58) (k := 0) hx hb dX0_setDegree_58 rfl ?_
                refine CTv_Sp (pc := 59) am_no_ok (As := [.ref (ad (9 + (2))), .int (nI (0))]) (rest := []) ⟨hx, hb, hml, hown, hts⟩ (c_J7_fill_53178 l dd (by decide)) (va_cwS 2 hts gX0_setDegree_J7_fill_53178 rfl rfl rfl (by decide +kernel) ⟨Nat.le_of_ble_eq_true rfl, Nat.le_of_ble_eq_true rfl⟩) hK hP hD hS hA trivial [11] [0, 1, 2, 3, 4, 5, 6, 7, 8, 9, 10, 12, 13, 14] rfl rfl rfl rfl (by decide) rfl hl.1 rfl (Nat.le_of_ble_eq_true rfl) ⟨Nat.zero_le _, Nat.zero_le _⟩ dX0_setDegree_59 (fun u H locs hw hP hD hS => ?_)
                try dsimp only at hw
                subst hw
                have hP : va_P dd vwCl (wC ad cI cL cQ (ix) (pw) (sg) (tm) ((va_up (hdv) 2 (fun k => if k < 10 then nI (0) else (hdv) 2 k))) (wk) (rc) (lc) (P) (G) (n) ((phN n))) H := hP.sub [0, 1, 2, 3, 4, 5, 6, 7, 8, 9, 10, 14, 11, 12, 13] rfl
                have hD : va_D A (wC ad cI cL cQ (ix) (pw) (sg) (tm) ((va_up (hdv) 2 (fun k => if k < 10 then nI (0) else (hdv) 2 k))) (wk) (rc) (lc) (P) (G) (n) ((phN n))) := hD.sub [0, 1, 2, 3, 4, 5, 6, 7, 8, 9, 10, 14, 11, 12, 13] (by decide) rfl
                refine lv_iinc (pc := 62) (v := nI ((2 + 1))) (lv' := [(2, .int (nI ((2 + 1)))), (0, .ref (ad 0)), (1, .int (nI (n)))]) hx hb dX0_setDegree_62 hl (k := 2) rfl (nI_inc _) (by decide) rfl (fun ls hl => ?_)
                refine lv_goto (pc := 65) (tgt := 46) hx hb dX0_setDegree_65 (by decide) ?_
                exact ih_46 ((2 + 1)) ((va_up (hdv) 2 (fun k => if k < 10 then nI (0) else (hdv) 2 k))) (by omega) (by omega) (rowz hz) _ _ _ hP hD hS (lv_sub hl [1, 2, 0] rfl)
              · skip
                refine lv_aload_n (pc := 52) hx hb dX0_setDegree_52 rfl (lv_at hl 0 rfl) ?_
                refine va_get (pc := 53) (D := dd) (ci := 0) (v := .ref (ad 5)) (C := RX0) (T := TX0) (N := 12) hx hb hts hin hown hK hP 0 rfl rfl 4 (by decide) (hts (.fieldLink RX0 24 "TurningSums" "holds" "[[I") (by decide +kernel)) (fun _ h9 => h9) rfl dX0_setDegree_53 ?_
                refine lv_iload_n (pc := 56) hx hb dX0_setDegree_56 rfl (lv_at hl 2 rfl) ?_
                refine nv_aald (pc := 57) hx hb hK hP 5 2 rfl rfl (i := 3) (by omega) (by decide) (if_pos (by omega)) dX0_setDegree_57 ?_
                refine nv_iconst (pc := 58) (k := 0) hx hb dX0_setDegree_58 rfl ?_
                refine CTv_Sp (pc := 59) am_no_ok (As := [.ref (ad (9 + (3))), .int (nI (0))]) (rest := []) ⟨hx, hb, hml, hown, hts⟩ (c_J7_fill_53178 l dd (by decide)) (va_cwS 2 hts gX0_setDegree_J7_fill_53178 rfl rfl rfl (by decide +kernel) ⟨Nat.le_of_ble_eq_true rfl, Nat.le_of_ble_eq_true rfl⟩) hK hP hD hS hA trivial [12] [0, 1, 2, 3, 4, 5, 6, 7, 8, 9, 10, 11, 13, 14] rfl rfl rfl rfl (by decide) rfl hl.1 rfl (Nat.le_of_ble_eq_true rfl) ⟨Nat.zero_le _, Nat.zero_le _⟩ dX0_setDegree_59 (fun u H locs hw hP hD hS => ?_)
                try dsimp only at hw
                subst hw
                have hP : va_P dd vwCl (wC ad cI cL cQ (ix) (pw) (sg) (tm) ((va_up (hdv) 3 (fun k => if k < 10 then nI (0) else (hdv) 3 k))) (wk) (rc) (lc) (P) (G) (n) ((phN n))) H := hP.sub [0, 1, 2, 3, 4, 5, 6, 7, 8, 9, 10, 11, 14, 12, 13] rfl
                have hD : va_D A (wC ad cI cL cQ (ix) (pw) (sg) (tm) ((va_up (hdv) 3 (fun k => if k < 10 then nI (0) else (hdv) 3 k))) (wk) (rc) (lc) (P) (G) (n) ((phN n))) := hD.sub [0, 1, 2, 3, 4, 5, 6, 7, 8, 9, 10, 11, 14, 12, 13] (by decide) rfl
                refine lv_iinc (pc := 62) (v := nI ((3 + 1))) (lv' := [(2, .int (nI ((3 + 1)))), (0, .ref (ad 0)), (1, .int (nI (n)))]) hx hb dX0_setDegree_62 hl (k := 2) rfl (nI_inc _) (by decide) rfl (fun ls hl => ?_)
                refine lv_goto (pc := 65) (tgt := 46) hx hb dX0_setDegree_65 (by decide) ?_
                exact ih_46 ((3 + 1)) ((va_up (hdv) 3 (fun k => if k < 10 then nI (0) else (hdv) 3 k))) (by omega) (by omega) (rowz hz) _ _ _ hP hD hS (lv_sub hl [1, 2, 0] rfl)
              · skip
                refine lv_aload_n (pc := 52) hx hb dX0_setDegree_52 rfl (lv_at hl 0 rfl) ?_
                refine va_get (pc := 53) (D := dd) (ci := 0) (v := .ref (ad 5)) (C := RX0) (T := TX0) (N := 12) hx hb hts hin hown hK hP 0 rfl rfl 4 (by decide) (hts (.fieldLink RX0 24 "TurningSums" "holds" "[[I") (by decide +kernel)) (fun _ h9 => h9) rfl dX0_setDegree_53 ?_
                refine lv_iload_n (pc := 56) hx hb dX0_setDegree_56 rfl (lv_at hl 2 rfl) ?_
                refine nv_aald (pc := 57) hx hb hK hP 5 2 rfl rfl (i := 4) (by omega) (by decide) (if_pos (by omega)) dX0_setDegree_57 ?_
                refine nv_iconst (pc := 58) (k := 0) hx hb dX0_setDegree_58 rfl ?_
                refine CTv_Sp (pc := 59) am_no_ok (As := [.ref (ad (9 + (4))), .int (nI (0))]) (rest := []) ⟨hx, hb, hml, hown, hts⟩ (c_J7_fill_53178 l dd (by decide)) (va_cwS 2 hts gX0_setDegree_J7_fill_53178 rfl rfl rfl (by decide +kernel) ⟨Nat.le_of_ble_eq_true rfl, Nat.le_of_ble_eq_true rfl⟩) hK hP hD hS hA trivial [13] [0, 1, 2, 3, 4, 5, 6, 7, 8, 9, 10, 11, 12, 14] rfl rfl rfl rfl (by decide) rfl hl.1 rfl (Nat.le_of_ble_eq_true rfl) ⟨Nat.zero_le _, Nat.zero_le _⟩ dX0_setDegree_59 (fun u H locs hw hP hD hS => ?_)
                try dsimp only at hw
                subst hw
                have hP : va_P dd vwCl (wC ad cI cL cQ (ix) (pw) (sg) (tm) ((va_up (hdv) 4 (fun k => if k < 10 then nI (0) else (hdv) 4 k))) (wk) (rc) (lc) (P) (G) (n) ((phN n))) H := hP.sub [0, 1, 2, 3, 4, 5, 6, 7, 8, 9, 10, 11, 12, 14, 13] rfl
                have hD : va_D A (wC ad cI cL cQ (ix) (pw) (sg) (tm) ((va_up (hdv) 4 (fun k => if k < 10 then nI (0) else (hdv) 4 k))) (wk) (rc) (lc) (P) (G) (n) ((phN n))) := hD.sub [0, 1, 2, 3, 4, 5, 6, 7, 8, 9, 10, 11, 12, 14, 13] (by decide) rfl
                refine lv_iinc (pc := 62) (v := nI ((4 + 1))) (lv' := [(2, .int (nI ((4 + 1)))), (0, .ref (ad 0)), (1, .int (nI (n)))]) hx hb dX0_setDegree_62 hl (k := 2) rfl (nI_inc _) (by decide) rfl (fun ls hl => ?_)
                refine lv_goto (pc := 65) (tgt := 46) hx hb dX0_setDegree_65 (by decide) ?_
                exact ih_46 ((4 + 1)) ((va_up (hdv) 4 (fun k => if k < 10 then nI (0) else (hdv) 4 k))) (by omega) (by omega) (rowz hz) _ _ _ hP hD hS (lv_sub hl [1, 2, 0] rfl)
              · skip
                refine lv_aload_n (pc := 52) hx hb dX0_setDegree_52 rfl (lv_at hl 0 rfl) ?_
                refine va_get (pc := 53) (D := dd) (ci := 0) (v := .ref (ad 5)) (C := RX0) (T := TX0) (N := 12) hx hb hts hin hown hK hP 0 rfl rfl 4 (by decide) (hts (.fieldLink RX0 24 "TurningSums" "holds" "[[I") (by decide +kernel)) (fun _ h9 => h9) rfl dX0_setDegree_53 ?_
                refine lv_iload_n (pc := 56) hx hb dX0_setDegree_56 rfl (lv_at hl 2 rfl) ?_
                refine nv_aald (pc := 57) hx hb hK hP 5 2 rfl rfl (i := 5) (by omega) (by decide) (if_pos (by omega)) dX0_setDegree_57 ?_
                refine nv_iconst (pc := 58) (k := 0) hx hb dX0_setDegree_58 rfl ?_
                refine CTv_Sp (pc := 59) am_no_ok (As := [.ref (ad (9 + (5))), .int (nI (0))]) (rest := []) ⟨hx, hb, hml, hown, hts⟩ (c_J7_fill_53178 l dd (by decide)) (va_cwS 2 hts gX0_setDegree_J7_fill_53178 rfl rfl rfl (by decide +kernel) ⟨Nat.le_of_ble_eq_true rfl, Nat.le_of_ble_eq_true rfl⟩) hK hP hD hS hA trivial [14] [0, 1, 2, 3, 4, 5, 6, 7, 8, 9, 10, 11, 12, 13] rfl rfl rfl rfl (by decide) rfl hl.1 rfl (Nat.le_of_ble_eq_true rfl) ⟨Nat.zero_le _, Nat.zero_le _⟩ dX0_setDegree_59 (fun u H locs hw hP hD hS => ?_)
                try dsimp only at hw
                subst hw
                have hP : va_P dd vwCl (wC ad cI cL cQ (ix) (pw) (sg) (tm) ((va_up (hdv) 5 (fun k => if k < 10 then nI (0) else (hdv) 5 k))) (wk) (rc) (lc) (P) (G) (n) ((phN n))) H := hP.sub [0, 1, 2, 3, 4, 5, 6, 7, 8, 9, 10, 11, 12, 13, 14] rfl
                have hD : va_D A (wC ad cI cL cQ (ix) (pw) (sg) (tm) ((va_up (hdv) 5 (fun k => if k < 10 then nI (0) else (hdv) 5 k))) (wk) (rc) (lc) (P) (G) (n) ((phN n))) := hD.sub [0, 1, 2, 3, 4, 5, 6, 7, 8, 9, 10, 11, 12, 13, 14] (by decide) rfl
                refine lv_iinc (pc := 62) (v := nI ((5 + 1))) (lv' := [(2, .int (nI ((5 + 1)))), (0, .ref (ad 0)), (1, .int (nI (n)))]) hx hb dX0_setDegree_62 hl (k := 2) rfl (nI_inc _) (by decide) rfl (fun ls hl => ?_)
                refine lv_goto (pc := 65) (tgt := 46) hx hb dX0_setDegree_65 (by decide) ?_
                exact ih_46 ((5 + 1)) ((va_up (hdv) 5 (fun k => if k < 10 then nI (0) else (hdv) 5 k))) (by omega) (by omega) (rowz hz) _ _ _ hP hD hS (lv_sub hl [1, 2, 0] rfl)
        exact L46 _ (0) (hd) (Nat.lt_succ_self _) (by omega) (fun a b => by omega) _ _ _ hP hD hS (lv_sub hl [1, 2, 0] rfl)
      · skip
        refine lv_aload_n (pc := 20) hx hb dX0_setDegree_20 rfl (lv_at hl 0 rfl) ?_
        refine lv_iload_n (pc := 21) hx hb dX0_setDegree_21 rfl (lv_at hl 2 rfl) ?_
        refine tq_i (pc := 22) (y := zI ((((j + 1) : Nat) : Int))) ((nI_zI _)) ?_
        refine CTi_Vw (pc := 22) (rX_ok tR) (As := [.int (zI ((((j + 1) : Nat) : Int)))]) (rest := []) ⟨hx, hb, hml, hown, hts⟩ (c_X0_sharesDivisor l dd (by omega) (by omega) (by omega)) (cwV 1 hts gX0_setDegree_X0_sharesDivisor rfl rfl rfl (by decide +kernel) ⟨Nat.le_of_ble_eq_true rfl, Nat.le_of_ble_eq_true rfl⟩) hK hP hD hS hA hX hK 0 0 rfl rfl rfl rfl hl.1 rfl (Nat.le_of_ble_eq_true rfl) ⟨Nat.zero_le _, Nat.zero_le _⟩ dX0_setDegree_22 (fun r u H locs hw hP hD hS => ?_)
        try dsimp only at hw
        subst hw
        refine bv_if_ne (pc := 25) (tgt := 38) hx hb dX0_setDegree_25 (by decide) (fun h25 => ?_) (fun h25 => ?_)
        · skip
          refine lv_iinc (pc := 38) (v := nI (((j + 1) + 1))) (lv' := [(2, .int (nI (((j + 1) + 1)))), (0, .ref (ad 0)), (1, .int (nI (n)))]) hx hb dX0_setDegree_38 hl (k := 2) rfl (nI_inc _) (by decide) rfl (fun ls hl => ?_)
          refine lv_goto (pc := 41) (tgt := 12) hx hb dX0_setDegree_41 (by decide) ?_
          have e9 : (phC n j) = (phC n (j + 1)) := ph_s0 h25
          rw [e9] at hP hD
          have hP : va_P dd vwCl (wC ad cI cL cQ (ix) (pw) (sg) (tm) (hd) (wk) (rc) (lc) (P) (G) (n) ((phC n (j + 1)))) H := hP
          have hD : va_D A (wC ad cI cL cQ (ix) (pw) (sg) (tm) (hd) (wk) (rc) (lc) (P) (G) (n) ((phC n (j + 1)))) := hD
          exact ih_12 (j + 1) (by omega) (by omega) _ _ _ hP hD hS (lv_sub hl [1, 2, 0] rfl)
        · skip
          refine lv_aload_n (pc := 28) hx hb dX0_setDegree_28 rfl (lv_at hl 0 rfl) ?_
          refine lv_dup (pc := 29) hx hb dX0_setDegree_29 rfl ?_
          refine va_get (pc := 30) (D := dd) (ci := 0) (v := .int (nI ((phC n j)))) (C := RX0) (T := TX0) (N := 12) hx hb hts hin hown hK hP 0 rfl rfl 11 (by decide) (hts (.fieldLink RX0 55 "TurningSums" "phi" "I") (by decide +kernel)) (fun _ h9 => h9) rfl dX0_setDegree_30 ?_
          refine nv_iconst (pc := 33) (k := 1) hx hb dX0_setDegree_33 rfl ?_
          refine nv_iadd (pc := 34) hx hb dX0_setDegree_34 ?_
          refine va_put (pc := 35) (D := dd) (ci := 0) (v := .int (nI (((phC n j) + 1)))) (ty := .int) (C := RX0) (T := TX0) (N := 12) hx hb hts hin tyX0 tyX0_ok nmX0 hown hK hP hD hS 0 rfl rfl 11 (by decide) (hts (.fieldLink RX0 55 "TurningSums" "phi" "I") (by decide +kernel)) (fun _ h9 => h9) rfl (by decide +kernel) rfl rfl (Nat.le_of_ble_eq_true rfl) dX0_setDegree_35 (fun H locs hP hD hS => ?_)
          have hP : va_P dd vwCl (wC ad cI cL cQ (ix) (pw) (sg) (tm) (hd) (wk) (rc) (lc) (P) (G) (n) (((phC n j) + 1))) H := hP
          have hD : va_D A (wC ad cI cL cQ (ix) (pw) (sg) (tm) (hd) (wk) (rc) (lc) (P) (G) (n) (((phC n j) + 1))) := hD
          refine lv_iinc (pc := 38) (v := nI (((j + 1) + 1))) (lv' := [(2, .int (nI (((j + 1) + 1)))), (0, .ref (ad 0)), (1, .int (nI (n)))]) hx hb dX0_setDegree_38 hl (k := 2) rfl (nI_inc _) (by decide) rfl (fun ls hl => ?_)
          refine lv_goto (pc := 41) (tgt := 12) hx hb dX0_setDegree_41 (by decide) ?_
          have e9 : ((phC n j) + 1) = (phC n (j + 1)) := ph_s1 h25
          rw [e9] at hP hD
          have hP : va_P dd vwCl (wC ad cI cL cQ (ix) (pw) (sg) (tm) (hd) (wk) (rc) (lc) (P) (G) (n) ((phC n (j + 1)))) H := hP
          have hD : va_D A (wC ad cI cL cQ (ix) (pw) (sg) (tm) (hd) (wk) (rc) (lc) (P) (G) (n) ((phC n (j + 1)))) := hD
          exact ih_12 (j + 1) (by omega) (by omega) _ _ _ hP hD hS (lv_sub hl [1, 2, 0] rfl)
  exact L12 _ (0) (Nat.lt_succ_self _) (by omega) _ _ _ hP hD hS (lv_sub hl [1, 2, 0] rfl)
set_option maxHeartbeats 4000000 in
set_option maxRecDepth 100000 in
theorem c_X0_setPrime (l : Launch) (dd : va_G) {ad : Nat → Nat} {cI cL cQ : ClassId} {tR : Nat}  {ix : Nat → Int32} {pw : Nat → Int32} {sg : Nat → Int32} {tm : Nat → Int32} {hd : Nat → Nat → Int32} {wk : Nat → Int64} {rc : Nat → Int64} {lc : Nat → Int64} {P : Nat} {G : Nat} {D : Nat} {F : Nat} {q : Nat} (hq : okP q) : CTv l yX0_setPrime wsX0_setPrime ({ frames := 2, cells := 0, slots := 0, locals := 45 } : Room) dd (tysA cI cL cQ) (rX tR) [.ref (ad 0), .int (nI (q))] (wC ad cI cL cQ (ix) (pw) (sg) (tm) (hd) (wk) (rc) (lc) (P) (G) (D) (F)) (fun (u : (Nat → Int32) × (Nat → Int32) × (Nat → Nat → Int32)) => okI q u.1 u.2.1 ∧ ∀ a, a < 6 → ∀ b, b < 10 → u.2.2 a b = nI 0) (fun (u : (Nat → Int32) × (Nat → Int32) × (Nat → Nat → Int32)) => (wC ad cI cL cQ (u.1) (u.2.1) (sg) (tm) (u.2.2) (wk) (rc) (lc) (q) ((rootN q)) (2) ((phN 2)))) := by
  refine CTv_of (cc := cX0_setPrime) (maxL := 4) (by decide +kernel) rfl (Nat.le_of_ble_eq_true rfl) ?_
  intro p e s m args below meth c A Q ls H locs hx hb hts hown hml hP hK hD hS hA hX hl hret
  have hin : ∀ w ∈ wsX00, w ∈ wsX0_setPrime := by decide +kernel
  have hl : lv_has ls 4 [(0, .ref (ad 0)), (1, .int (nI (q)))] := hl
  obtain ⟨o1, o2, o3, o4, o5, o6⟩ := id hq
  refine lv_aload_n (pc := 0) hx hb dX0_setPrime_0 rfl (lv_at hl 0 rfl) ?_
  refine lv_iload_n (pc := 1) hx hb dX0_setPrime_1 rfl (lv_at hl 1 rfl) ?_
  refine va_put (pc := 2) (D := dd) (ci := 0) (v := .int (nI (q))) (ty := .int) (C := RX0) (T := TX0) (N := 12) hx hb hts hin tyX0 tyX0_ok nmX0 hown hK hP hD hS 0 rfl rfl 8 (by decide) (hts (.fieldLink RX0 49 "TurningSums" "p" "I") (by decide +kernel)) (fun _ h9 => h9) rfl (by decide +kernel) rfl rfl (Nat.le_of_ble_eq_true rfl) dX0_setPrime_2 (fun H locs hP hD hS => ?_)
  have hP : va_P dd vwCl (wC ad cI cL cQ (ix) (pw) (sg) (tm) (hd) (wk) (rc) (lc) (q) (G) (D) (F)) H := hP
  have hD : va_D A (wC ad cI cL cQ (ix) (pw) (sg) (tm) (hd) (wk) (rc) (lc) (q) (G) (D) (F)) := hD
  refine lv_aload_n (pc := 5) hx hb dX0_setPrime_5 rfl (lv_at hl 0 rfl) ?_
  refine lv_aload_n (pc := 6) hx hb dX0_setPrime_6 rfl (lv_at hl 0 rfl) ?_
  refine CTi_Vw (pc := 7) (rX_ok tR) (As := []) (rest := [.ref (ad 0)]) ⟨hx, hb, hml, hown, hts⟩ (c_X0_leastRoot l dd hq) (cwV 0 hts gX0_setPrime_X0_leastRoot rfl rfl rfl (by decide +kernel) ⟨Nat.le_of_ble_eq_true rfl, Nat.le_of_ble_eq_true rfl⟩) hK hP hD hS hA hX hK 0 0 rfl rfl rfl rfl hl.1 rfl (Nat.le_of_ble_eq_true rfl) ⟨Nat.zero_le _, Nat.zero_le _⟩ dX0_setPrime_7 (fun r u H locs hw hP hD hS => ?_)
  try dsimp only at hw
  subst hw
  refine va_put (pc := 10) (D := dd) (ci := 0) (v := .int (nI ((rootN q)))) (ty := .int) (C := RX0) (T := TX0) (N := 12) hx hb hts hin tyX0 tyX0_ok nmX0 hown hK hP hD hS 0 rfl rfl 9 (by decide) (hts (.fieldLink RX0 45 "TurningSums" "root" "I") (by decide +kernel)) (fun _ h9 => h9) rfl (by decide +kernel) rfl rfl (Nat.le_of_ble_eq_true rfl) dX0_setPrime_10 (fun H locs hP hD hS => ?_)
  have hP : va_P dd vwCl (wC ad cI cL cQ (ix) (pw) (sg) (tm) (hd) (wk) (rc) (lc) (q) ((rootN q)) (D) (F)) H := hP
  have hD : va_D A (wC ad cI cL cQ (ix) (pw) (sg) (tm) (hd) (wk) (rc) (lc) (q) ((rootN q)) (D) (F)) := hD
  refine lv_aload_n (pc := 13) hx hb dX0_setPrime_13 rfl (lv_at hl 0 rfl) ?_
  refine va_get (pc := 14) (D := dd) (ci := 0) (v := .ref (ad 1)) (C := RX0) (T := TX0) (N := 12) hx hb hts hin hown hK hP 0 rfl rfl 0 (by decide) (hts (.fieldLink RX0 9 "TurningSums" "indexOf" "[I") (by decide +kernel)) (fun _ h9 => h9) rfl dX0_setPrime_14 ?_
  refine nv_iconst (pc := 17) (k := 0) hx hb dX0_setPrime_17 rfl ?_
  refine lv_iconst (pc := 18) (v := zI (-1)) hx hb dX0_setPrime_18 rfl ?_
  refine nv_iast (pc := 19) hx hb hK hP hD hS 1 0 rfl rfl (by omega) (by decide) (ws' := (wC ad cI cL cQ ((upd (ix) (0) (zI ((-1))))) (pw) (sg) (tm) (hd) (wk) (rc) (lc) (q) ((rootN q)) (D) (F))) rfl dX0_setPrime_19 (fun H locs hP hD hS => ?_)
  refine nv_iconst (pc := 20) (k := 1) hx hb dX0_setPrime_20 rfl ?_
  refine lv_istore_n (pc := 21) (lv' := [(2, .int (nI (1))), (0, .ref (ad 0)), (1, .int (nI (q)))]) hx hb dX0_setPrime_21 rfl hl (by decide) rfl (fun ls hl => ?_)
  refine nv_iconst (pc := 22) (k := 0) hx hb dX0_setPrime_22 rfl ?_
  refine lv_istore_n (pc := 23) (lv' := [(3, .int (nI (0))), (2, .int (nI (1))), (0, .ref (ad 0)), (1, .int (nI (q)))]) hx hb dX0_setPrime_23 rfl hl (by decide) rfl (fun ls hl => ?_)
  have hl : lv_has ls 4 [(3, .int (nI (0))), (2, .int (nI ((rootN q ^ 0 % q)))), (0, .ref (ad 0)), (1, .int (nI (q)))] := by
    have e9 : nI (1) = nI ((rootN q ^ 0 % q)) := by rw [Nat.pow_zero, Nat.mod_eq_of_lt (by omega)]
    rw [← e9]
    exact hl
  have L24 : ∀ (n9_24 : Nat), ∀ (k : Nat) (ixv : Nat → Int32) (pwv : Nat → Int32), q - k < n9_24 → (k ≤ q - 1) → (∀ j, j < k → ixv (rootN q ^ j % q) = nI j) → (∀ j, j < k → pwv j = nI (rootN q ^ j % q)) → ∀ (H : Heap) (locs : List Loc) (ls : Array Slot), va_P dd vwCl (wC ad cI cL cQ (ixv) (pwv) (sg) (tm) (hd) (wk) (rc) (lc) (q) ((rootN q)) (D) (F)) H → va_D A (wC ad cI cL cQ (ixv) (pwv) (sg) (tm) (hd) (wk) (rc) (lc) (q) ((rootN q)) (D) (F)) → va_S A s.heap H locs → lv_has ls 4 [(0, .ref (ad 0)), (1, .int (nI (q))), (2, .int (nI ((rootN q ^ k % q)))), (3, .int (nI (k)))] → W p l e ({ frames := 2, cells := 0, slots := 0, locals := 45 } : Room) s m args below meth c H locs 0 0 Q (F0 m 24 ls []) := by
    intro n9_24
    induction n9_24 with
    | zero => intro k ixv pwv hm; exact absurd hm (Nat.not_lt_zero _)
    | succ n9_24 ih_24 =>
      intro k ixv pwv hm_24 hk hi hp H locs ls hP hD hS hl
      have hm := Nat.mod_lt (rootN q ^ k) (show 0 < q by omega)
      refine lv_iload_n (pc := 24) hx hb dX0_setPrime_24 rfl (lv_at hl 3 rfl) ?_
      refine lv_aload_n (pc := 25) hx hb dX0_setPrime_25 rfl (lv_at hl 0 rfl) ?_
      refine va_get (pc := 26) (D := dd) (ci := 0) (v := .int (nI (q))) (C := RX0) (T := TX0) (N := 12) hx hb hts hin hown hK hP 0 rfl rfl 8 (by decide) (hts (.fieldLink RX0 49 "TurningSums" "p" "I") (by decide +kernel)) (fun _ h9 => h9) rfl dX0_setPrime_26 ?_
      refine nv_iconst (pc := 29) (k := 1) hx hb dX0_setPrime_29 rfl ?_
      refine nv_isub (pc := 30) hx hb (by omega) dX0_setPrime_30 ?_
      refine nv_icmp_ge (pc := 31) (tgt := 66) hx hb (a := k) (b := (q - 1)) (by omega) (by omega) dX0_setPrime_31 (by decide) (fun h31 => ?_) (fun h31 => ?_)
      · skip
        have e8 : k = q - 1 := (by omega)
        rw [e8] at hi hp
        refine lv_aload_n (pc := 66) hx hb dX0_setPrime_66 rfl (lv_at hl 0 rfl) ?_
        refine nv_iconst (pc := 67) (k := 2) hx hb dX0_setPrime_67 rfl ?_
        refine CTv_Vw (pc := 68) (rX_ok tR) (As := [.int (nI (2))]) (rest := []) ⟨hx, hb, hml, hown, hts⟩ (c_X0_setDegree l dd (by omega) (by omega)) (cwV 1 hts gX0_setPrime_X0_setDegree rfl rfl rfl (by decide +kernel) ⟨Nat.le_of_ble_eq_true rfl, Nat.le_of_ble_eq_true rfl⟩) hK hP hD hS hA hX hK 0 0 rfl rfl rfl rfl hl.1 rfl (Nat.le_of_ble_eq_true rfl) ⟨Nat.zero_le _, Nat.zero_le _⟩ dX0_setPrime_68 (fun u H locs hw hP hD hS => ?_)
        try dsimp only at hw
        obtain ⟨hd68, e9⟩ : ∃ z, z = u := ⟨_, rfl⟩
        rw [← e9] at hw hP hD
        have hw68 := hw
        have hP : va_P dd vwCl (wC ad cI cL cQ (ixv) (pwv) (sg) (tm) (hd68) (wk) (rc) (lc) (q) ((rootN q)) (2) ((phN (2)))) H := hP
        have hD : va_D A (wC ad cI cL cQ (ixv) (pwv) (sg) (tm) (hd68) (wk) (rc) (lc) (q) ((rootN q)) (2) ((phN (2)))) := hD
        exact hret _ _ _ _ (ixv, pwv, hd68) (⟨⟨ix_all hq hi, hp⟩, hw68⟩) hP hD hS dX0_setPrime_71
      · skip
        refine lv_aload_n (pc := 34) hx hb dX0_setPrime_34 rfl (lv_at hl 0 rfl) ?_
        refine va_get (pc := 35) (D := dd) (ci := 0) (v := .ref (ad 2)) (C := RX0) (T := TX0) (N := 12) hx hb hts hin hown hK hP 0 rfl rfl 1 (by decide) (hts (.fieldLink RX0 13 "TurningSums" "powerOf" "[I") (by decide +kernel)) (fun _ h9 => h9) rfl dX0_setPrime_35 ?_
        refine lv_iload_n (pc := 38) hx hb dX0_setPrime_38 rfl (lv_at hl 3 rfl) ?_
        refine lv_iload_n (pc := 39) hx hb dX0_setPrime_39 rfl (lv_at hl 2 rfl) ?_
        refine nv_iast (pc := 40) hx hb hK hP hD hS 2 0 rfl rfl (by omega) (by decide) (ws' := (wC ad cI cL cQ (ixv) ((upd (pwv) (k) (nI ((rootN q ^ k % q))))) (sg) (tm) (hd) (wk) (rc) (lc) (q) ((rootN q)) (D) (F))) rfl dX0_setPrime_40 (fun H locs hP hD hS => ?_)
        refine lv_aload_n (pc := 41) hx hb dX0_setPrime_41 rfl (lv_at hl 0 rfl) ?_
        refine va_get (pc := 42) (D := dd) (ci := 0) (v := .ref (ad 1)) (C := RX0) (T := TX0) (N := 12) hx hb hts hin hown hK hP 0 rfl rfl 0 (by decide) (hts (.fieldLink RX0 9 "TurningSums" "indexOf" "[I") (by decide +kernel)) (fun _ h9 => h9) rfl dX0_setPrime_42 ?_
        refine lv_iload_n (pc := 45) hx hb dX0_setPrime_45 rfl (lv_at hl 2 rfl) ?_
        refine lv_iload_n (pc := 46) hx hb dX0_setPrime_46 rfl (lv_at hl 3 rfl) ?_
        refine nv_iast (pc := 47) hx hb hK hP hD hS 1 0 rfl rfl (by omega) (by decide) (ws' := (wC ad cI cL cQ ((upd (ixv) ((rootN q ^ k % q)) (nI (k)))) ((upd (pwv) (k) (nI ((rootN q ^ k % q))))) (sg) (tm) (hd) (wk) (rc) (lc) (q) ((rootN q)) (D) (F))) rfl dX0_setPrime_47 (fun H locs hP hD hS => ?_)
        refine lv_iload_n (pc := 48) hx hb dX0_setPrime_48 rfl (lv_at hl 2 rfl) ?_
        refine lv_aload_n (pc := 49) hx hb dX0_setPrime_49 rfl (lv_at hl 0 rfl) ?_
        refine va_get (pc := 50) (D := dd) (ci := 0) (v := .int (nI ((rootN q)))) (C := RX0) (T := TX0) (N := 12) hx hb hts hin hown hK hP 0 rfl rfl 9 (by decide) (hts (.fieldLink RX0 45 "TurningSums" "root" "I") (by decide +kernel)) (fun _ h9 => h9) rfl dX0_setPrime_50 ?_
        refine nv_imul (pc := 53) hx hb dX0_setPrime_53 ?_
        refine lv_aload_n (pc := 54) hx hb dX0_setPrime_54 rfl (lv_at hl 0 rfl) ?_
        refine va_get (pc := 55) (D := dd) (ci := 0) (v := .int (nI (q))) (C := RX0) (T := TX0) (N := 12) hx hb hts hin hown hK hP 0 rfl rfl 8 (by decide) (hts (.fieldLink RX0 49 "TurningSums" "p" "I") (by decide +kernel)) (fun _ h9 => h9) rfl dX0_setPrime_55 ?_
        refine nv_irem (pc := 58) hx hb (mul_b o2 hm o4) (by omega) (by omega) dX0_setPrime_58 ?_
        refine tq_i (y := nI ((rootN q ^ (k + 1) % q))) (by rw [pw_step]) ?_
        refine lv_istore_n (pc := 59) (lv' := [(2, .int (nI ((rootN q ^ (k + 1) % q)))), (0, .ref (ad 0)), (1, .int (nI (q))), (3, .int (nI (k)))]) hx hb dX0_setPrime_59 rfl hl (by decide) rfl (fun ls hl => ?_)
        refine lv_iinc (pc := 60) (v := nI ((k + 1))) (lv' := [(3, .int (nI ((k + 1)))), (2, .int (nI ((rootN q ^ (k + 1) % q)))), (0, .ref (ad 0)), (1, .int (nI (q)))]) hx hb dX0_setPrime_60 hl (k := 3) rfl (nI_inc _) (by decide) rfl (fun ls hl => ?_)
        refine lv_goto (pc := 63) (tgt := 24) hx hb dX0_setPrime_63 (by decide) ?_
        exact ih_24 ((k + 1)) ((upd (ixv) ((rootN q ^ k % q)) (nI (k)))) ((upd (pwv) (k) (nI ((rootN q ^ k % q))))) (by omega) (by omega) (ixs hq (by omega) hi) (pws hp) _ _ _ hP hD hS (lv_sub hl [2, 3, 1, 0] rfl)
  exact L24 _ (0) ((upd (ix) (0) (zI ((-1))))) (pw) (Nat.lt_succ_self _) (by omega) (fun j a => by omega) (fun j a => by omega) _ _ _ hP hD hS (lv_sub hl [2, 3, 1, 0] rfl)
set_option maxHeartbeats 4000000 in
set_option maxRecDepth 100000 in
theorem c_X0_isPrime (l : Launch) (dd : va_G) {cI cL cQ : ClassId}   {n : Nat} (h3 : 3 ≤ n) (h199 : n ≤ 199) : CTi l yX0_isPrime wsX0_isPrime ({ frames := 0, cells := 0, slots := 0, locals := 0 } : Room) dd (tysA cI cL cQ) (am_no) [.int (nI (n))] [] (fun (r : Int32) (u : Unit) => r = if (n ∈ prT) then 1 else 0) (fun (_ : Unit) => []) := by
  refine CTz_of (cc := cX0_isPrime) (maxL := 2) (by decide +kernel) rfl (Nat.le_of_ble_eq_true rfl) ?_
  intro p e s m args below meth c A Q ls H locs hx hb hts hown hml hP hK hD hS hA hX hl hret
  have hl : lv_has ls 2 [(0, .int (nI (n)))] := hl
  refine nv_iconst (pc := 0) (k := 2) hx hb dX0_isPrime_0 rfl ?_
  refine lv_istore_n (pc := 1) (lv' := [(1, .int (nI (2))), (0, .int (nI (n)))]) hx hb dX0_isPrime_1 rfl hl (by decide) rfl (fun ls hl => ?_)
  have L2 : ∀ (n9_2 : Nat), ∀ (q : Nat), 200 - q < n9_2 → (2 ≤ q ∧ q ≤ n) → (∀ k, 2 ≤ k → k < q → n % k ≠ 0) → ∀ (H : Heap) (locs : List Loc) (ls : Array Slot), va_P dd vwCl [] H → va_D A [] → va_S A s.heap H locs → lv_has ls 2 [(0, .int (nI (n))), (1, .int (nI (q)))] → W p l e ({ frames := 0, cells := 0, slots := 0, locals := 0 } : Room) s m args below meth c H locs 0 0 Q (F0 m 2 ls []) := by
    intro n9_2
    induction n9_2 with
    | zero => intro q hm; exact absurd hm (Nat.not_lt_zero _)
    | succ n9_2 ih_2 =>
      intro q hm_2 hq hno H locs ls hP hD hS hl
      refine lv_iload_n (pc := 2) hx hb dX0_isPrime_2 rfl (lv_at hl 1 rfl) ?_
      refine lv_iload_n (pc := 3) hx hb dX0_isPrime_3 rfl (lv_at hl 0 rfl) ?_
      refine nv_icmp_ge (pc := 4) (tgt := 21) hx hb (a := q) (b := n) (by omega) (by omega) dX0_isPrime_4 (by decide) (fun h4 => ?_) (fun h4 => ?_)
      · skip
        refine lv_iload_n (pc := 21) hx hb dX0_isPrime_21 rfl (lv_at hl 0 rfl) ?_
        refine nv_iconst (pc := 22) (k := 2) hx hb dX0_isPrime_22 rfl ?_
        refine nv_icmp_le (pc := 23) (tgt := 30) hx hb (a := n) (b := 2) (by omega) (by omega) dX0_isPrime_23 (by decide) (fun h23 => ?_) (fun h23 => ?_)
        · skip
          omega
        · skip
          refine nv_iconst (pc := 26) (k := 1) hx hb dX0_isPrime_26 rfl ?_
          refine lv_goto (pc := 27) (tgt := 31) hx hb dX0_isPrime_27 (by decide) ?_
          exact hret _ _ _ _ _ (()) (by first | rfl | (split <;> rfl)) ((if_pos ((pr_M n (by omega)).mpr ⟨by omega, fun k a b => hno k b (by omega)⟩)).symm) hP hD hS dX0_isPrime_31
      · skip
        refine lv_iload_n (pc := 7) hx hb dX0_isPrime_7 rfl (lv_at hl 0 rfl) ?_
        refine lv_iload_n (pc := 8) hx hb dX0_isPrime_8 rfl (lv_at hl 1 rfl) ?_
        refine nv_irem (pc := 9) hx hb (by omega) (by omega) (by omega) dX0_isPrime_9 ?_
        refine nv_if_ne (pc := 10) (tgt := 15) hx hb (a := (n % q)) (Nat.lt_trans (Nat.mod_lt _ (by omega)) (by omega)) dX0_isPrime_10 (by decide) (fun h10 => ?_) (fun h10 => ?_)
        · skip
          refine lv_iinc (pc := 15) (v := nI ((q + 1))) (lv' := [(1, .int (nI ((q + 1)))), (0, .int (nI (n)))]) hx hb dX0_isPrime_15 hl (k := 1) rfl (nI_inc _) (by decide) rfl (fun ls hl => ?_)
          refine lv_goto (pc := 18) (tgt := 2) hx hb dX0_isPrime_18 (by decide) ?_
          exact ih_2 ((q + 1)) (by omega) (by omega) (fun k a b => (Nat.lt_or_ge k q).elim (fun z => hno k a z) (fun z => by have e : k = q := (by omega); subst e; exact h10)) _ _ _ hP hD hS (lv_sub hl [1, 0] rfl)
        · skip
          refine nv_iconst (pc := 13) (k := 0) hx hb dX0_isPrime_13 rfl ?_
          exact hret _ _ _ _ _ (()) (by first | rfl | (split <;> rfl)) ((if_neg (fun z => ((pr_M n (by omega)).mp z).2 q (by omega) hq.1 h10)).symm) hP hD hS dX0_isPrime_14
  exact L2 _ (2) (Nat.lt_succ_self _) (by omega) (fun k a b => by omega) _ _ _ hP hD hS (lv_sub hl [1, 0] rfl)
