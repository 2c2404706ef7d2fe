set_option maxHeartbeats 4000000 in
set_option maxRecDepth 100000 in
theorem c_X1_common (l : Launch) (dd : va_G) {cI cL cQ : ClassId}   {a : Nat} {b : Nat} (ha : a < 2147483648) (hb9 : b < 2147483648) : CTi l yX1_common wsX1_common ({ frames := 0, cells := 0, slots := 0, locals := 0 } : Room) dd (tysA cI cL cQ) (am_no) [.int (nI (a)), .int (nI (b))] [] (fun (r : Int32) (u : Unit) => r = nI (Nat.gcd a b)) (fun (_ : Unit) => []) := by
  refine CTi_of (cc := cX1_common) (maxL := 5) (by decide +kernel) rfl (Nat.le_of_ble_eq_true rfl) ?_
  intro p e s m args below meth c A Q ls H locs hx hb hts hown hml hP hK hD hS hA hX hl hret
  have hl : lv_has ls 5 [(0, .int (nI (a))), (1, .int (nI (b)))] := hl
  refine lv_iload_n (pc := 0) hx hb dX1_common_0 rfl (lv_at hl 0 rfl) ?_
  refine lv_istore_n (pc := 1) (lv' := [(2, .int (nI (a))), (0, .int (nI (a))), (1, .int (nI (b)))]) hx hb dX1_common_1 rfl hl (by decide) rfl (fun ls hl => ?_)
  refine lv_iload_n (pc := 2) hx hb dX1_common_2 rfl (lv_at hl 2 rfl) ?_
  refine lv_istore_n (pc := 3) (lv' := [(3, .int (nI (b))), (2, .int (nI (a))), (0, .int (nI (a))), (1, .int (nI (b)))]) hx hb dX1_common_3 rfl hl (by decide) rfl (fun ls hl => ?_)
  have L4 : ∀ (n9_4 : Nat), ∀ (u : Nat) (w : Nat), w < n9_4 → (u < 2147483648 ∧ w < 2147483648) → (Nat.gcd u w = Nat.gcd a b) → ∀ (H : Heap) (locs : List Loc) (ls : Array Slot), va_P dd vwCl [] H → va_D A [] → va_S A s.heap H locs → lv_has ls 5 [(0, .int (nI (a))), (1, .int (nI (b))), (2, .int (nI (u))), (3, .int (nI (w)))] → W p l e ({ frames := 0, cells := 0, slots := 0, locals := 0 } : Room) s m args below meth c H locs 0 0 Q (F0 m 4 ls []) := by
    intro n9_4
    induction n9_4 with
    | zero => intro u w hm; exact absurd hm (Nat.not_lt_zero _)
    | succ n9_4 ih_4 =>
      intro u w hm_4 hu hg H locs ls hP hD hS hl
      have hm := fun (z : 0 < w) => Nat.mod_lt u z
      refine lv_iload_n (pc := 4) hx hb dX1_common_4 rfl (lv_at hl 3 rfl) ?_
      refine nv_if_eq (pc := 5) (tgt := 21) hx hb (a := w) (by omega) dX1_common_5 (by decide) (fun h5 => ?_) (fun h5 => ?_)
      · skip
        refine lv_iload_n (pc := 21) hx hb dX1_common_21 rfl (lv_at hl 2 rfl) ?_
        exact hret _ _ _ _ _ (()) (by show nI u = nI (Nat.gcd a b); rw [← hg, h5, Nat.gcd_zero_right]) hP hD hS dX1_common_22
      · skip
        refine lv_iload_n (pc := 8) hx hb dX1_common_8 rfl (lv_at hl 2 rfl) ?_
        refine lv_iload_n (pc := 9) hx hb dX1_common_9 rfl (lv_at hl 3 rfl) ?_
        refine nv_irem (pc := 10) hx hb (by omega) (by omega) (by omega) dX1_common_10 ?_
        refine lv_istore (pc := 11) (lv' := [(4, .int (nI ((u % w)))), (0, .int (nI (a))), (1, .int (nI (b))), (2, .int (nI (u))), (3, .int (nI (w)))]) hx hb dX1_common_11 hl (by decide) rfl (fun ls hl => ?_)
        refine lv_iload_n (pc := 13) hx hb dX1_common_13 rfl (lv_at hl 4 rfl) ?_
        refine lv_istore_n (pc := 14) (lv' := [(2, .int (nI (w))), (4, .int (nI ((u % w)))), (0, .int (nI (a))), (1, .int (nI (b))), (3, .int (nI (w)))]) hx hb dX1_common_14 rfl hl (by decide) rfl (fun ls hl => ?_)
        refine lv_iload (pc := 15) hx hb dX1_common_15 (lv_at hl 1 rfl) ?_
        refine lv_istore_n (pc := 17) (lv' := [(3, .int (nI ((u % w)))), (2, .int (nI (w))), (4, .int (nI ((u % w)))), (0, .int (nI (a))), (1, .int (nI (b)))]) hx hb dX1_common_17 rfl hl (by decide) rfl (fun ls hl => ?_)
        refine lv_goto (pc := 18) (tgt := 4) hx hb dX1_common_18 (by decide) ?_
        exact ih_4 (w) ((u % w)) (by omega) (by omega) (by rw [← hg, Nat.gcd_comm, Nat.gcd_comm u w]; exact (Nat.gcd_rec w u).symm) _ _ _ hP hD hS (lv_sub hl [3, 4, 1, 0] rfl)
  exact L4 _ (a) (b) (Nat.lt_succ_self _) (by omega) (rfl) _ _ _ hP hD hS (lv_sub hl [2, 3, 1, 0] rfl)
set_option maxHeartbeats 4000000 in
set_option maxRecDepth 100000 in
theorem c_X1_classOf (l : Launch) (dd : va_G) {ad : Nat → Nat} {cI cL cQ : ClassId}  {P : Nat} {G : Nat} {D : Nat} {F : Nat} {ix : Nat → Int32} {ho : Nat → Int64} {re : Nat → Int32} {wk : Nat → Int64} {tu : Nat → Int64} {wa : Nat → Int64} {nx : Nat → Int64} {x : Nat} (hG : okT P D ix) (h1 : 1 ≤ x) (h2 : x < P) : CTi l yX1_classOf wsX1_classOf ({ frames := 0, cells := 0, slots := 0, locals := 0 } : Room) dd (tysA cI cL cQ) (am_no) [.ref (ad 0), .int (nI (x))] (wM ad cI cL (P) (G) (D) (F) (ix) (ho) (re) (wk) (tu) (wa) (nx)) (fun (r : Int32) (u : Unit) => r = nI (clsN P D x)) (fun (_ : Unit) => (wM ad cI cL (P) (G) (D) (F) (ix) (ho) (re) (wk) (tu) (wa) (nx))) := by
  refine CTi_of (cc := cX1_classOf) (maxL := 2) (by decide +kernel) rfl (Nat.le_of_ble_eq_true rfl) ?_
  intro p e s m args below meth c A Q ls H locs hx hb hts hown hml hP hK hD hS hA hX hl hret
  have hin : ∀ w ∈ wsX10, w ∈ wsX1_classOf := by decide +kernel
  have hl : lv_has ls 2 [(0, .ref (ad 0)), (1, .int (nI (x)))] := hl
  obtain ⟨g1, g2, g3, g4, hix⟩ := hG
  have hlt := ixN_le P x
  refine lv_aload_n (pc := 0) hx hb dX1_classOf_0 rfl (lv_at hl 0 rfl) ?_
  refine va_get (pc := 1) (D := dd) (ci := 1) (v := .ref (ad 1)) (C := RX1) (T := TX1) (N := 11) hx hb hts hin hown hK hP 0 rfl rfl 4 (by decide) (hts (.fieldLink RX1 7 "TurningSumsModel" "index" "[I") (by decide +kernel)) (fun _ h9 => h9) rfl dX1_classOf_1 ?_
  refine lv_iload_n (pc := 4) hx hb dX1_classOf_4 rfl (lv_at hl 1 rfl) ?_
  refine nv_iald (pc := 5) hx hb hK hP 1 0 rfl rfl (i := x) (by omega) (by decide) (v := nI ((ixN P (x)))) (hix _ (by omega) (by omega)) dX1_classOf_5 ?_
  refine lv_aload_n (pc := 6) hx hb dX1_classOf_6 rfl (lv_at hl 0 rfl) ?_
  refine va_get (pc := 7) (D := dd) (ci := 1) (v := .int (nI (D))) (C := RX1) (T := TX1) (N := 11) hx hb hts hin hown hK hP 0 rfl rfl 2 (by decide) (hts (.fieldLink RX1 52 "TurningSumsModel" "d" "I") (by decide +kernel)) (fun _ h9 => h9) rfl dX1_classOf_7 ?_
  refine nv_irem (pc := 10) hx hb (by omega) (by omega) (by omega) dX1_classOf_10 ?_
  exact hret _ _ _ _ _ (()) (by show nI (ixN P x % D) = nI (clsN P D x); unfold clsN; rw [Nat.mod_eq_of_lt h2]) hP hD hS dX1_classOf_11
set_option maxHeartbeats 4000000 in
set_option maxRecDepth 100000 in
theorem c_X1_isPrime (l : Launch) (dd : va_G) {cI cL cQ : ClassId}   {v : Int} (hr : -2147483648 ≤ v ∧ v < 2147483648) : CTi l yX1_isPrime wsX1_isPrime ({ frames := 0, cells := 0, slots := 0, locals := 0 } : Room) dd (tysA cI cL cQ) (am_no) [.int (zI (v))] [] (fun (r : Int32) (u : Unit) => r = if (v.toNat ∈ prT) then 1 else 0) (fun (_ : Unit) => []) := by
  refine CTz_of (cc := cX1_isPrime) (maxL := 3) (by decide +kernel) rfl (Nat.le_of_ble_eq_true rfl) ?_
  intro p e s m args below meth c A Q ls H locs hx hb hts hown hml hP hK hD hS hA hX hl hret
  have hl : lv_has ls 3 [(0, .int (zI (v)))] := hl
  refine lv_iload_n (pc := 0) hx hb dX1_isPrime_0 rfl (lv_at hl 0 rfl) ?_
  refine nv_iconst (pc := 1) (k := 2) hx hb dX1_isPrime_1 rfl ?_
  refine zv_2 (pc := 2) (a := ((2 : Nat) : Int)) (b := v) ((nI_zI _)) (rfl) ?_
  refine zv_icmp_le (pc := 2) (tgt := 16) hx hb (by omega) (by omega) dX1_isPrime_2 (by decide) (fun h2 => ?_) (fun h2 => ?_)
  · skip
    refine nv_iconst (pc := 16) (k := 0) hx hb dX1_isPrime_16 rfl ?_
    refine lv_istore_n (pc := 17) (lv' := [(1, .int (nI (0))), (0, .int (zI (v)))]) hx hb dX1_isPrime_17 rfl hl (by decide) rfl (fun ls hl => ?_)
    refine nv_iconst (pc := 18) (k := 2) hx hb dX1_isPrime_18 rfl ?_
    refine lv_istore_n (pc := 19) (lv' := [(2, .int (nI (2))), (1, .int (nI (0))), (0, .int (zI (v)))]) hx hb dX1_isPrime_19 rfl hl (by decide) rfl (fun ls hl => ?_)
    have L20 : ∀ (n9_20 : Nat), ∀ (k : Nat) (b : Nat), 202 - k < n9_20 → (2 ≤ k ∧ k ≤ 201) → ((b = 1 ∧ 3 ≤ v ∧ v < 200 ∧ ∀ j, j < k → 2 ≤ j → v.toNat % j ≠ 0) ∨ (b = 0 ∧ v.toNat ∉ prT)) → ∀ (H : Heap) (locs : List Loc) (ls : Array Slot), va_P dd vwCl [] H → va_D A [] → va_S A s.heap H locs → lv_has ls 3 [(0, .int (zI (v))), (1, .int (nI (b))), (2, .int (nI (k)))] → W p l e ({ frames := 0, cells := 0, slots := 0, locals := 0 } : Room) s m args below meth c H locs 0 0 Q (F0 m 20 ls []) := by
      intro n9_20
      induction n9_20 with
      | zero => intro k b hm; exact absurd hm (Nat.not_lt_zero _)
      | succ n9_20 ih_20 =>
        intro k b hm_20 hk hb9 H locs ls hP hD hS hl
        refine lv_iload_n (pc := 20) hx hb dX1_isPrime_20 rfl (lv_at hl 2 rfl) ?_
        refine lv_iload_n (pc := 21) hx hb dX1_isPrime_21 rfl (lv_at hl 0 rfl) ?_
        refine zv_2 (pc := 22) (a := v) (b := ((k : Nat) : Int)) (rfl) ((nI_zI _)) ?_
        refine zv_icmp_ge (pc := 22) (tgt := 47) hx hb (by omega) (by omega) dX1_isPrime_22 (by decide) (fun h22 => ?_) (fun h22 => ?_)
        · skip
          refine lv_iload_n (pc := 47) hx hb dX1_isPrime_47 rfl (lv_at hl 1 rfl) ?_
          rcases hb9 with ⟨rfl, q9⟩ | ⟨rfl, q9⟩
          · skip
            exact hret _ _ _ _ _ (()) (by first | rfl | (split <;> rfl)) (by first | exact (if_neg q9).symm | exact (if_pos ((pr_M v.toNat (by omega)).mpr ⟨by omega, fun j a b => q9.2.2 j (by omega) b⟩)).symm | omega) hP hD hS dX1_isPrime_48
          · skip
            exact hret _ _ _ _ _ (()) (by first | rfl | (split <;> rfl)) (by first | exact (if_neg q9).symm | exact (if_pos ((pr_M v.toNat (by omega)).mpr ⟨by omega, fun j a b => q9.2.2 j (by omega) b⟩)).symm | omega) hP hD hS dX1_isPrime_48
        · skip
          refine lv_iload_n (pc := 25) hx hb dX1_isPrime_25 rfl (lv_at hl 1 rfl) ?_
          refine nv_if_eq (pc := 26) (tgt := 47) hx hb (a := b) (by omega) dX1_isPrime_26 (by decide) (fun h26 => ?_) (fun h26 => ?_)
          · skip
            refine lv_iload_n (pc := 47) hx hb dX1_isPrime_47 rfl (lv_at hl 1 rfl) ?_
            rcases hb9 with ⟨rfl, q9⟩ | ⟨rfl, q9⟩
            · skip
              exact hret _ _ _ _ _ (()) (by first | rfl | (split <;> rfl)) (by first | exact (if_neg q9).symm | exact (if_pos ((pr_M v.toNat (by omega)).mpr ⟨by omega, fun j a b => q9.2.2 j (by omega) b⟩)).symm | omega) hP hD hS dX1_isPrime_48
            · skip
              exact hret _ _ _ _ _ (()) (by first | rfl | (split <;> rfl)) (by first | exact (if_neg q9).symm | exact (if_pos ((pr_M v.toNat (by omega)).mpr ⟨by omega, fun j a b => q9.2.2 j (by omega) b⟩)).symm | omega) hP hD hS dX1_isPrime_48
          · skip
            replace hb9 : 3 ≤ v ∧ v < 200 ∧ ∀ j, j < k → 2 ≤ j → v.toNat % j ≠ 0 := by
              rcases hb9 with q | q
              · exact q.2
              · omega
            refine lv_iload_n (pc := 29) hx hb dX1_isPrime_29 rfl (lv_at hl 0 rfl) ?_
            refine tq_i (y := nI (v.toNat)) (zI_toNat (by omega)) ?_
            refine lv_iload_n (pc := 30) hx hb dX1_isPrime_30 rfl (lv_at hl 2 rfl) ?_
            refine nv_irem (pc := 31) hx hb (by omega) (by omega) (by omega) dX1_isPrime_31 ?_
            refine nv_if_eq (pc := 32) (tgt := 39) hx hb (a := (v.toNat % k)) (Nat.lt_trans (Nat.mod_lt _ (by omega)) (by omega)) dX1_isPrime_32 (by decide) (fun h32 => ?_) (fun h32 => ?_)
            · skip
              refine nv_iconst (pc := 39) (k := 0) hx hb dX1_isPrime_39 rfl ?_
              refine lv_istore_n (pc := 40) (lv' := [(1, .int (nI (0))), (0, .int (zI (v))), (2, .int (nI (k)))]) hx hb dX1_isPrime_40 rfl hl (by decide) rfl (fun ls hl => ?_)
              refine lv_iinc (pc := 41) (v := nI ((k + 1))) (lv' := [(2, .int (nI ((k + 1)))), (1, .int (nI (0))), (0, .int (zI (v)))]) hx hb dX1_isPrime_41 hl (k := 2) rfl (nI_inc _) (by decide) rfl (fun ls hl => ?_)
              refine lv_goto (pc := 44) (tgt := 20) hx hb dX1_isPrime_44 (by decide) ?_
              exact ih_20 ((k + 1)) (0) (by omega) (by omega) (Or.inr ⟨rfl, fun z => ((pr_M v.toNat (by omega)).mp z).2 k (by omega) hk.1 h32⟩) _ _ _ hP hD hS (lv_sub hl [2, 1, 0] rfl)
            · skip
              refine nv_iconst (pc := 35) (k := 1) hx hb dX1_isPrime_35 rfl ?_
              refine lv_goto (pc := 36) (tgt := 40) hx hb dX1_isPrime_36 (by decide) ?_
              refine lv_istore_n (pc := 40) (lv' := [(1, .int (nI (1))), (0, .int (zI (v))), (2, .int (nI (k)))]) hx hb dX1_isPrime_40 rfl hl (by decide) rfl (fun ls hl => ?_)
              refine lv_iinc (pc := 41) (v := nI ((k + 1))) (lv' := [(2, .int (nI ((k + 1)))), (1, .int (nI (1))), (0, .int (zI (v)))]) hx hb dX1_isPrime_41 hl (k := 2) rfl (nI_inc _) (by decide) rfl (fun ls hl => ?_)
              refine lv_goto (pc := 44) (tgt := 20) hx hb dX1_isPrime_44 (by decide) ?_
              exact ih_20 ((k + 1)) (1) (by omega) (by omega) (Or.inl ⟨rfl, hb9.1, hb9.2.1, fun j a b => (Nat.lt_or_ge j k).elim (fun z => hb9.2.2 j z b) (fun z => by have e : j = k := (by omega); subst e; exact h32)⟩) _ _ _ hP hD hS (lv_sub hl [2, 1, 0] rfl)
    exact L20 _ (2) (0) (Nat.lt_succ_self _) (by omega) (Or.inr ⟨rfl, fun z => by have := (pr_M v.toNat (by omega)).mp z; omega⟩) _ _ _ hP hD hS (lv_sub hl [2, 1, 0] rfl)
  · skip
    refine lv_iload_n (pc := 5) hx hb dX1_isPrime_5 rfl (lv_at hl 0 rfl) ?_
    refine nv_sipush (pc := 6) (k := 200) hx hb dX1_isPrime_6 rfl (by decide) ?_
    refine zv_2 (pc := 9) (a := ((200 : Nat) : Int)) (b := v) ((nI_zI _)) (rfl) ?_
    refine zv_icmp_ge (pc := 9) (tgt := 16) hx hb (by omega) (by omega) dX1_isPrime_9 (by decide) (fun h9 => ?_) (fun h9 => ?_)
    · skip
      refine nv_iconst (pc := 16) (k := 0) hx hb dX1_isPrime_16 rfl ?_
      refine lv_istore_n (pc := 17) (lv' := [(1, .int (nI (0))), (0, .int (zI (v)))]) hx hb dX1_isPrime_17 rfl hl (by decide) rfl (fun ls hl => ?_)
      refine nv_iconst (pc := 18) (k := 2) hx hb dX1_isPrime_18 rfl ?_
      refine lv_istore_n (pc := 19) (lv' := [(2, .int (nI (2))), (1, .int (nI (0))), (0, .int (zI (v)))]) hx hb dX1_isPrime_19 rfl hl (by decide) rfl (fun ls hl => ?_)
      have L20 : ∀ (n9_20 : Nat), ∀ (k : Nat) (b : Nat), 202 - k < n9_20 → (2 ≤ k ∧ k ≤ 201) → ((b = 1 ∧ 3 ≤ v ∧ v < 200 ∧ ∀ j, j < k → 2 ≤ j → v.toNat % j ≠ 0) ∨ (b = 0 ∧ v.toNat ∉ prT)) → ∀ (H : Heap) (locs : List Loc) (ls : Array Slot), va_P dd vwCl [] H → va_D A [] → va_S A s.heap H locs → lv_has ls 3 [(0, .int (zI (v))), (1, .int (nI (b))), (2, .int (nI (k)))] → W p l e ({ frames := 0, cells := 0, slots := 0, locals := 0 } : Room) s m args below meth c H locs 0 0 Q (F0 m 20 ls []) := by
        intro n9_20
        induction n9_20 with
        | zero => intro k b hm; exact absurd hm (Nat.not_lt_zero _)
        | succ n9_20 ih_20 =>
          intro k b hm_20 hk hb9 H locs ls hP hD hS hl
          refine lv_iload_n (pc := 20) hx hb dX1_isPrime_20 rfl (lv_at hl 2 rfl) ?_
          refine lv_iload_n (pc := 21) hx hb dX1_isPrime_21 rfl (lv_at hl 0 rfl) ?_
          refine zv_2 (pc := 22) (a := v) (b := ((k : Nat) : Int)) (rfl) ((nI_zI _)) ?_
          refine zv_icmp_ge (pc := 22) (tgt := 47) hx hb (by omega) (by omega) dX1_isPrime_22 (by decide) (fun h22 => ?_) (fun h22 => ?_)
          · skip
            refine lv_iload_n (pc := 47) hx hb dX1_isPrime_47 rfl (lv_at hl 1 rfl) ?_
            rcases hb9 with ⟨rfl, q9⟩ | ⟨rfl, q9⟩
            · skip
              exact hret _ _ _ _ _ (()) (by first | rfl | (split <;> rfl)) (by first | exact (if_neg q9).symm | exact (if_pos ((pr_M v.toNat (by omega)).mpr ⟨by omega, fun j a b => q9.2.2 j (by omega) b⟩)).symm | omega) hP hD hS dX1_isPrime_48
            · skip
              exact hret _ _ _ _ _ (()) (by first | rfl | (split <;> rfl)) (by first | exact (if_neg q9).symm | exact (if_pos ((pr_M v.toNat (by omega)).mpr ⟨by omega, fun j a b => q9.2.2 j (by omega) b⟩)).symm | omega) hP hD hS dX1_isPrime_48
          · skip
            refine lv_iload_n (pc := 25) hx hb dX1_isPrime_25 rfl (lv_at hl 1 rfl) ?_
            refine nv_if_eq (pc := 26) (tgt := 47) hx hb (a := b) (by omega) dX1_isPrime_26 (by decide) (fun h26 => ?_) (fun h26 => ?_)
            · skip
              refine lv_iload_n (pc := 47) hx hb dX1_isPrime_47 rfl (lv_at hl 1 rfl) ?_
              rcases hb9 with ⟨rfl, q9⟩ | ⟨rfl, q9⟩
              · skip
                exact hret _ _ _ _ _ (()) (by first | rfl | (split <;> rfl)) (by first | exact (if_neg q9).symm | exact (if_pos ((pr_M v.toNat (by omega)).mpr ⟨by omega, fun j a b => q9.2.2 j (by omega) b⟩)).symm | omega) hP hD hS dX1_isPrime_48
              · skip
                exact hret _ _ _ _ _ (()) (by first | rfl | (split <;> rfl)) (by first | exact (if_neg q9).symm | exact (if_pos ((pr_M v.toNat (by omega)).mpr ⟨by omega, fun j a b => q9.2.2 j (by omega) b⟩)).symm | omega) hP hD hS dX1_isPrime_48
            · skip
              replace hb9 : 3 ≤ v ∧ v < 200 ∧ ∀ j, j < k → 2 ≤ j → v.toNat % j ≠ 0 := by
                rcases hb9 with q | q
                · exact q.2
                · omega
              refine lv_iload_n (pc := 29) hx hb dX1_isPrime_29 rfl (lv_at hl 0 rfl) ?_
              refine tq_i (y := nI (v.toNat)) (zI_toNat (by omega)) ?_
              refine lv_iload_n (pc := 30) hx hb dX1_isPrime_30 rfl (lv_at hl 2 rfl) ?_
              refine nv_irem (pc := 31) hx hb (by omega) (by omega) (by omega) dX1_isPrime_31 ?_
              refine nv_if_eq (pc := 32) (tgt := 39) hx hb (a := (v.toNat % k)) (Nat.lt_trans (Nat.mod_lt _ (by omega)) (by omega)) dX1_isPrime_32 (by decide) (fun h32 => ?_) (fun h32 => ?_)
              · skip
                refine nv_iconst (pc := 39) (k := 0) hx hb dX1_isPrime_39 rfl ?_
                refine lv_istore_n (pc := 40) (lv' := [(1, .int (nI (0))), (0, .int (zI (v))), (2, .int (nI (k)))]) hx hb dX1_isPrime_40 rfl hl (by decide) rfl (fun ls hl => ?_)
                refine lv_iinc (pc := 41) (v := nI ((k + 1))) (lv' := [(2, .int (nI ((k + 1)))), (1, .int (nI (0))), (0, .int (zI (v)))]) hx hb dX1_isPrime_41 hl (k := 2) rfl (nI_inc _) (by decide) rfl (fun ls hl => ?_)
                refine lv_goto (pc := 44) (tgt := 20) hx hb dX1_isPrime_44 (by decide) ?_
                exact ih_20 ((k + 1)) (0) (by omega) (by omega) (Or.inr ⟨rfl, fun z => ((pr_M v.toNat (by omega)).mp z).2 k (by omega) hk.1 h32⟩) _ _ _ hP hD hS (lv_sub hl [2, 1, 0] rfl)
              · skip
                refine nv_iconst (pc := 35) (k := 1) hx hb dX1_isPrime_35 rfl ?_
                refine lv_goto (pc := 36) (tgt := 40) hx hb dX1_isPrime_36 (by decide) ?_
                refine lv_istore_n (pc := 40) (lv' := [(1, .int (nI (1))), (0, .int (zI (v))), (2, .int (nI (k)))]) hx hb dX1_isPrime_40 rfl hl (by decide) rfl (fun ls hl => ?_)
                refine lv_iinc (pc := 41) (v := nI ((k + 1))) (lv' := [(2, .int (nI ((k + 1)))), (1, .int (nI (1))), (0, .int (zI (v)))]) hx hb dX1_isPrime_41 hl (k := 2) rfl (nI_inc _) (by decide) rfl (fun ls hl => ?_)
                refine lv_goto (pc := 44) (tgt := 20) hx hb dX1_isPrime_44 (by decide) ?_
                exact ih_20 ((k + 1)) (1) (by omega) (by omega) (Or.inl ⟨rfl, hb9.1, hb9.2.1, fun j a b => (Nat.lt_or_ge j k).elim (fun z => hb9.2.2 j z b) (fun z => by have e : j = k := (by omega); subst e; exact h32)⟩) _ _ _ hP hD hS (lv_sub hl [2, 1, 0] rfl)
      exact L20 _ (2) (0) (Nat.lt_succ_self _) (by omega) (Or.inr ⟨rfl, fun z => by have := okP_of _ z; unfold okP at this; omega⟩) _ _ _ hP hD hS (lv_sub hl [2, 1, 0] rfl)
    · skip
      refine nv_iconst (pc := 12) (k := 1) hx hb dX1_isPrime_12 rfl ?_
      refine lv_goto (pc := 13) (tgt := 17) hx hb dX1_isPrime_13 (by decide) ?_
      refine lv_istore_n (pc := 17) (lv' := [(1, .int (nI (1))), (0, .int (zI (v)))]) hx hb dX1_isPrime_17 rfl hl (by decide) rfl (fun ls hl => ?_)
      refine nv_iconst (pc := 18) (k := 2) hx hb dX1_isPrime_18 rfl ?_
      refine lv_istore_n (pc := 19) (lv' := [(2, .int (nI (2))), (1, .int (nI (1))), (0, .int (zI (v)))]) hx hb dX1_isPrime_19 rfl hl (by decide) rfl (fun ls hl => ?_)
      have L20 : ∀ (n9_20 : Nat), ∀ (k : Nat) (b : Nat), 202 - k < n9_20 → (2 ≤ k ∧ k ≤ 201) → ((b = 1 ∧ 3 ≤ v ∧ v < 200 ∧ ∀ j, j < k → 2 ≤ j → v.toNat % j ≠ 0) ∨ (b = 0 ∧ v.toNat ∉ prT)) → ∀ (H : Heap) (locs : List Loc) (ls : Array Slot), va_P dd vwCl [] H → va_D A [] → va_S A s.heap H locs → lv_has ls 3 [(0, .int (zI (v))), (1, .int (nI (b))), (2, .int (nI (k)))] → W p l e ({ frames := 0, cells := 0, slots := 0, locals := 0 } : Room) s m args below meth c H locs 0 0 Q (F0 m 20 ls []) := by
        intro n9_20
        induction n9_20 with
        | zero => intro k b hm; exact absurd hm (Nat.not_lt_zero _)
        | succ n9_20 ih_20 =>
          intro k b hm_20 hk hb9 H locs ls hP hD hS hl
          refine lv_iload_n (pc := 20) hx hb dX1_isPrime_20 rfl (lv_at hl 2 rfl) ?_
          refine lv_iload_n (pc := 21) hx hb dX1_isPrime_21 rfl (lv_at hl 0 rfl) ?_
          refine zv_2 (pc := 22) (a := v) (b := ((k : Nat) : Int)) (rfl) ((nI_zI _)) ?_
          refine zv_icmp_ge (pc := 22) (tgt := 47) hx hb (by omega) (by omega) dX1_isPrime_22 (by decide) (fun h22 => ?_) (fun h22 => ?_)
          · skip
            refine lv_iload_n (pc := 47) hx hb dX1_isPrime_47 rfl (lv_at hl 1 rfl) ?_
            rcases hb9 with ⟨rfl, q9⟩ | ⟨rfl, q9⟩
            · skip
              exact hret _ _ _ _ _ (()) (by first | rfl | (split <;> rfl)) (by first | exact (if_neg q9).symm | exact (if_pos ((pr_M v.toNat (by omega)).mpr ⟨by omega, fun j a b => q9.2.2 j (by omega) b⟩)).symm | omega) hP hD hS dX1_isPrime_48
            · skip
              exact hret _ _ _ _ _ (()) (by first | rfl | (split <;> rfl)) (by first | exact (if_neg q9).symm | exact (if_pos ((pr_M v.toNat (by omega)).mpr ⟨by omega, fun j a b => q9.2.2 j (by omega) b⟩)).symm | omega) hP hD hS dX1_isPrime_48
          · skip
            refine lv_iload_n (pc := 25) hx hb dX1_isPrime_25 rfl (lv_at hl 1 rfl) ?_
            refine nv_if_eq (pc := 26) (tgt := 47) hx hb (a := b) (by omega) dX1_isPrime_26 (by decide) (fun h26 => ?_) (fun h26 => ?_)
            · skip
              refine lv_iload_n (pc := 47) hx hb dX1_isPrime_47 rfl (lv_at hl 1 rfl) ?_
              rcases hb9 with ⟨rfl, q9⟩ | ⟨rfl, q9⟩
              · skip
                exact hret _ _ _ _ _ (()) (by first | rfl | (split <;> rfl)) (by first | exact (if_neg q9).symm | exact (if_pos ((pr_M v.toNat (by omega)).mpr ⟨by omega, fun j a b => q9.2.2 j (by omega) b⟩)).symm | omega) hP hD hS dX1_isPrime_48
              · skip
                exact hret _ _ _ _ _ (()) (by first | rfl | (split <;> rfl)) (by first | exact (if_neg q9).symm | exact (if_pos ((pr_M v.toNat (by omega)).mpr ⟨by omega, fun j a b => q9.2.2 j (by omega) b⟩)).symm | omega) hP hD hS dX1_isPrime_48
            · skip
              replace hb9 : 3 ≤ v ∧ v < 200 ∧ ∀ j, j < k → 2 ≤ j → v.toNat % j ≠ 0 := by
                rcases hb9 with q | q
                · exact q.2
                · omega
              refine lv_iload_n (pc := 29) hx hb dX1_isPrime_29 rfl (lv_at hl 0 rfl) ?_
              refine tq_i (y := nI (v.toNat)) (zI_toNat (by omega)) ?_
              refine lv_iload_n (pc := 30) hx hb dX1_isPrime_30 rfl (lv_at hl 2 rfl) ?_
              refine nv_irem (pc := 31) hx hb (by omega) (by omega) (by omega) dX1_isPrime_31 ?_
              refine nv_if_eq (pc := 32) (tgt := 39) hx hb (a := (v.toNat % k)) (Nat.lt_trans (Nat.mod_lt _ (by omega)) (by omega)) dX1_isPrime_32 (by decide) (fun h32 => ?_) (fun h32 => ?_)
              · skip
                refine nv_iconst (pc := 39) (k := 0) hx hb dX1_isPrime_39 rfl ?_
                refine lv_istore_n (pc := 40) (lv' := [(1, .int (nI (0))), (0, .int (zI (v))), (2, .int (nI (k)))]) hx hb dX1_isPrime_40 rfl hl (by decide) rfl (fun ls hl => ?_)
                refine lv_iinc (pc := 41) (v := nI ((k + 1))) (lv' := [(2, .int (nI ((k + 1)))), (1, .int (nI (0))), (0, .int (zI (v)))]) hx hb dX1_isPrime_41 hl (k := 2) rfl (nI_inc _) (by decide) rfl (fun ls hl => ?_)
                refine lv_goto (pc := 44) (tgt := 20) hx hb dX1_isPrime_44 (by decide) ?_
                exact ih_20 ((k + 1)) (0) (by omega) (by omega) (Or.inr ⟨rfl, fun z => ((pr_M v.toNat (by omega)).mp z).2 k (by omega) hk.1 h32⟩) _ _ _ hP hD hS (lv_sub hl [2, 1, 0] rfl)
              · skip
                refine nv_iconst (pc := 35) (k := 1) hx hb dX1_isPrime_35 rfl ?_
                refine lv_goto (pc := 36) (tgt := 40) hx hb dX1_isPrime_36 (by decide) ?_
                refine lv_istore_n (pc := 40) (lv' := [(1, .int (nI (1))), (0, .int (zI (v))), (2, .int (nI (k)))]) hx hb dX1_isPrime_40 rfl hl (by decide) rfl (fun ls hl => ?_)
                refine lv_iinc (pc := 41) (v := nI ((k + 1))) (lv' := [(2, .int (nI ((k + 1)))), (1, .int (nI (1))), (0, .int (zI (v)))]) hx hb dX1_isPrime_41 hl (k := 2) rfl (nI_inc _) (by decide) rfl (fun ls hl => ?_)
                refine lv_goto (pc := 44) (tgt := 20) hx hb dX1_isPrime_44 (by decide) ?_
                exact ih_20 ((k + 1)) (1) (by omega) (by omega) (Or.inl ⟨rfl, hb9.1, hb9.2.1, fun j a b => (Nat.lt_or_ge j k).elim (fun z => hb9.2.2 j z b) (fun z => by have e : j = k := (by omega); subst e; exact h32)⟩) _ _ _ hP hD hS (lv_sub hl [2, 1, 0] rfl)
      exact L20 _ (2) (1) (Nat.lt_succ_self _) (by omega) (Or.inl ⟨rfl, by omega, by omega, fun j a b => by omega⟩) _ _ _ hP hD hS (lv_sub hl [2, 1, 0] rfl)
set_option maxHeartbeats 4000000 in
set_option maxRecDepth 100000 in
theorem c_X1_setDegree (l : Launch) (dd : va_G) {ad : Nat → Nat} {cI cL cQ : ClassId}  {P : Nat} {G : Nat} {D : Nat} {F : Nat} {ix : Nat → Int32} {ho : Nat → Int64} {re : Nat → Int32} {wk : Nat → Int64} {tu : Nat → Int64} {wa : Nat → Int64} {nx : Nat → Int64} {n : Nat} (h1 : 1 ≤ n) (h2 : n ≤ 12) : CTv l yX1_setDegree wsX1_setDegree ({ frames := 1, cells := 0, slots := 0, locals := 24 } : Room) dd (tysA cI cL cQ) (am_no) [.ref (ad 0), .int (nI (n))] (wM ad cI cL (P) (G) (D) (F) (ix) (ho) (re) (wk) (tu) (wa) (nx)) (fun (u : (Nat → Int64) × (Nat → Int32)) => (∀ k, k < 72 → u.1 k = zL 0) ∧ ∀ i, i < 13 → u.2 i = zI (relM n i)) (fun (u : (Nat → Int64) × (Nat → Int32)) => (wM ad cI cL (P) (G) (n) ((phN n)) (ix) (u.1) (u.2) (wk) (tu) (wa) (nx))) := by
  refine CTv_of (cc := cX1_setDegree) (maxL := 3) (by decide +kernel) rfl (Nat.le_of_ble_eq_true rfl) ?_
  intro p e s m args below meth c A Q ls H locs hx hb hts hown hml hP hK hD hS hA hX hl hret
  have hin : ∀ w ∈ wsX10, w ∈ wsX1_setDegree := by decide +kernel
  have hl : lv_has ls 3 [(0, .ref (ad 0)), (1, .int (nI (n)))] := hl
  have hph := ph_rng n (by omega) h1
  refine lv_aload_n (pc := 0) hx hb dX1_setDegree_0 rfl (lv_at hl 0 rfl) ?_
  refine lv_iload_n (pc := 1) hx hb dX1_setDegree_1 rfl (lv_at hl 1 rfl) ?_
  refine va_put (pc := 2) (D := dd) (ci := 1) (v := .int (nI (n))) (ty := .int) (C := RX1) (T := TX1) (N := 11) hx hb hts hin tyX1 tyX1_ok nmX1 hown hK hP hD hS 0 rfl rfl 2 (by decide) (hts (.fieldLink RX1 52 "TurningSumsModel" "d" "I") (by decide +kernel)) (fun _ h9 => h9) rfl (by decide +kernel) rfl rfl (Nat.le_of_ble_eq_true rfl) dX1_setDegree_2 (fun H locs hP hD hS => ?_)
  have hP : va_P dd vwCl (wM ad cI cL (P) (G) (n) (F) (ix) (ho) (re) (wk) (tu) (wa) (nx)) H := hP
  have hD : va_D A (wM ad cI cL (P) (G) (n) (F) (ix) (ho) (re) (wk) (tu) (wa) (nx)) := hD
  refine lv_aload_n (pc := 5) hx hb dX1_setDegree_5 rfl (lv_at hl 0 rfl) ?_
  refine nv_iconst (pc := 6) (k := 0) hx hb dX1_setDegree_6 rfl ?_
  refine va_put (pc := 7) (D := dd) (ci := 1) (v := .int (nI (0))) (ty := .int) (C := RX1) (T := TX1) (N := 11) hx hb hts hin tyX1 tyX1_ok nmX1 hown hK hP hD hS 0 rfl rfl 3 (by decide) (hts (.fieldLink RX1 55 "TurningSumsModel" "phi" "I") (by decide +kernel)) (fun _ h9 => h9) rfl (by decide +kernel) rfl rfl (Nat.le_of_ble_eq_true rfl) dX1_setDegree_7 (fun H locs hP hD hS => ?_)
  have hP : va_P dd vwCl (wM ad cI cL (P) (G) (n) (0) (ix) (ho) (re) (wk) (tu) (wa) (nx)) H := hP
  have hD : va_D A (wM ad cI cL (P) (G) (n) (0) (ix) (ho) (re) (wk) (tu) (wa) (nx)) := hD
  refine nv_iconst (pc := 10) (k := 1) hx hb dX1_setDegree_10 rfl ?_
  refine lv_istore_n (pc := 11) (lv' := [(2, .int (nI (1))), (0, .ref (ad 0)), (1, .int (nI (n)))]) hx hb dX1_setDegree_11 rfl hl (by decide) rfl (fun ls hl => ?_)
  have L12 : ∀ (n9_12 : Nat), ∀ (j : Nat), n + 1 - j < n9_12 → (j ≤ n) → ∀ (H : Heap) (locs : List Loc) (ls : Array Slot), va_P dd vwCl (wM ad cI cL (P) (G) (n) ((phC n j)) (ix) (ho) (re) (wk) (tu) (wa) (nx)) H → va_D A (wM ad cI cL (P) (G) (n) ((phC n j)) (ix) (ho) (re) (wk) (tu) (wa) (nx)) → va_S A s.heap H locs → lv_has ls 3 [(0, .ref (ad 0)), (1, .int (nI (n))), (2, .int (nI ((j + 1))))] → W p l e ({ frames := 1, cells := 0, slots := 0, locals := 24 } : Room) s m args below meth c H locs 0 0 Q (F0 m 12 ls []) := by
    intro n9_12
    induction n9_12 with
    | zero => intro j hm; exact absurd hm (Nat.not_lt_zero _)
    | succ n9_12 ih_12 =>
      intro j hm_12 hj H locs ls hP hD hS hl
      have hc9 := phC_le n j
      have hgc := Nat.le_of_dvd (by omega) (Nat.gcd_dvd_right (j + 1) n)
      refine lv_iload_n (pc := 12) hx hb dX1_setDegree_12 rfl (lv_at hl 2 rfl) ?_
      refine lv_aload_n (pc := 13) hx hb dX1_setDegree_13 rfl (lv_at hl 0 rfl) ?_
      refine va_get (pc := 14) (D := dd) (ci := 1) (v := .int (nI (n))) (C := RX1) (T := TX1) (N := 11) hx hb hts hin hown hK hP 0 rfl rfl 2 (by decide) (hts (.fieldLink RX1 52 "TurningSumsModel" "d" "I") (by decide +kernel)) (fun _ h9 => h9) rfl dX1_setDegree_14 ?_
      refine nv_icmp_gt (pc := 17) (tgt := 52) hx hb (a := (j + 1)) (b := n) (by omega) (by omega) dX1_setDegree_17 (by decide) (fun h17 => ?_) (fun h17 => ?_)
      · skip
        have e9 : (phC n j) = (phN n) := by rw [show j = n by omega]; rfl
        rw [e9] at hP hD
        have hP : va_P dd vwCl (wM ad cI cL (P) (G) (n) ((phN n)) (ix) (ho) (re) (wk) (tu) (wa) (nx)) H := hP
        have hD : va_D A (wM ad cI cL (P) (G) (n) ((phN n)) (ix) (ho) (re) (wk) (tu) (wa) (nx)) := hD
        refine nv_iconst (pc := 52) (k := 0) hx hb dX1_setDegree_52 rfl ?_
        refine lv_istore_n (pc := 53) (lv' := [(2, .int (nI (0))), (0, .ref (ad 0)), (1, .int (nI (n)))]) hx hb dX1_setDegree_53 rfl hl (by decide) rfl (fun ls hl => ?_)
        have L54 : ∀ (n9_54 : Nat), ∀ (k : Nat) (hov : Nat → Int64), 73 - k < n9_54 → (k ≤ 72) → (∀ a, a < k → hov a = zL 0) → ∀ (H : Heap) (locs : List Loc) (ls : Array Slot), va_P dd vwCl (wM ad cI cL (P) (G) (n) ((phN n)) (ix) (hov) (re) (wk) (tu) (wa) (nx)) H → va_D A (wM ad cI cL (P) (G) (n) ((phN n)) (ix) (hov) (re) (wk) (tu) (wa) (nx)) → va_S A s.heap H locs → lv_has ls 3 [(0, .ref (ad 0)), (1, .int (nI (n))), (2, .int (nI (k)))] → W p l e ({ frames := 1, cells := 0, slots := 0, locals := 24 } : Room) s m args below meth c H locs 0 0 Q (F0 m 54 ls []) := by
          intro n9_54
          induction n9_54 with
          | zero => intro k hov hm; exact absurd hm (Nat.not_lt_zero _)
          | succ n9_54 ih_54 =>
            intro k hov hm_54 hk hho H locs ls hP hD hS hl
            refine lv_iload_n (pc := 54) hx hb dX1_setDegree_54 rfl (lv_at hl 2 rfl) ?_
            refine nv_bipush (pc := 55) (k := 72) hx hb dX1_setDegree_55 rfl (by decide) ?_
            refine nv_icmp_ge (pc := 57) (tgt := 73) hx hb (a := k) (b := 72) (by omega) (by omega) dX1_setDegree_57 (by decide) (fun h57 => ?_) (fun h57 => ?_)
            · skip
              refine nv_iconst (pc := 73) (k := 0) hx hb dX1_setDegree_73 rfl ?_
              refine lv_istore_n (pc := 74) (lv' := [(2, .int (nI (0))), (0, .ref (ad 0)), (1, .int (nI (n)))]) hx hb dX1_setDegree_74 rfl hl (by decide) rfl (fun ls hl => ?_)
              have L75 : ∀ (n9_75 : Nat), ∀ (k2 : Nat) (rv : Nat → Int32), 14 - k2 < n9_75 → (k2 ≤ 13) → (∀ a, a < k2 → rv a = nI 0) → ∀ (H : Heap) (locs : List Loc) (ls : Array Slot), va_P dd vwCl (wM ad cI cL (P) (G) (n) ((phN n)) (ix) (hov) (rv) (wk) (tu) (wa) (nx)) H → va_D A (wM ad cI cL (P) (G) (n) ((phN n)) (ix) (hov) (rv) (wk) (tu) (wa) (nx)) → va_S A s.heap H locs → lv_has ls 3 [(0, .ref (ad 0)), (1, .int (nI (n))), (2, .int (nI (k2)))] → W p l e ({ frames := 1, cells := 0, slots := 0, locals := 24 } : Room) s m args below meth c H locs 0 0 Q (F0 m 75 ls []) := by
                intro n9_75
                induction n9_75 with
                | zero => intro k2 rv hm; exact absurd hm (Nat.not_lt_zero _)
                | succ n9_75 ih_75 =>
                  intro k2 rv hm_75 hk2 hre H locs ls hP hD hS hl
                  refine lv_iload_n (pc := 75) hx hb dX1_setDegree_75 rfl (lv_at hl 2 rfl) ?_
                  refine nv_bipush (pc := 76) (k := 13) hx hb dX1_setDegree_76 rfl (by decide) ?_
                  refine nv_icmp_ge (pc := 78) (tgt := 94) hx hb (a := k2) (b := 13) (by omega) (by omega) dX1_setDegree_78 (by decide) (fun h78 => ?_) (fun h78 => ?_)
                  · skip
                    have hho : ∀ a, a < 72 → hov a = zL 0 := fun a b => hho a (by omega)
                    have hre : ∀ a, a < 13 → rv a = nI 0 := fun a b => hre a (by omega)
                    refine lv_aload_n (pc := 94) hx hb dX1_setDegree_94 rfl (lv_at hl 0 rfl) ?_
                    refine va_get (pc := 95) (D := dd) (ci := 1) (v := .int (nI (n))) (C := RX1) (T := TX1) (N := 11) hx hb hts hin hown hK hP 0 rfl rfl 2 (by decide) (hts (.fieldLink RX1 52 "TurningSumsModel" "d" "I") (by decide +kernel)) (fun _ h9 => h9) rfl dX1_setDegree_95 ?_
                    refine nv_iconst (pc := 98) (k := 1) hx hb dX1_setDegree_98 rfl ?_
                    refine nv_icmp_ne (pc := 99) (tgt := 112) hx hb (a := n) (b := 1) (by omega) (by omega) dX1_setDegree_99 (by decide) (fun h99 => ?_) (fun h99 => ?_)
                    · skip
                      refine lv_aload_n (pc := 112) hx hb dX1_setDegree_112 rfl (lv_at hl 0 rfl) ?_
                      refine va_get (pc := 113) (D := dd) (ci := 1) (v := .int (nI (n))) (C := RX1) (T := TX1) (N := 11) hx hb hts hin hown hK hP 0 rfl rfl 2 (by decide) (hts (.fieldLink RX1 52 "TurningSumsModel" "d" "I") (by decide +kernel)) (fun _ h9 => h9) rfl dX1_setDegree_113 ?_
                      refine nv_iconst (pc := 116) (k := 2) hx hb dX1_setDegree_116 rfl ?_
                      refine nv_icmp_eq (pc := 117) (tgt := 137) hx hb (a := n) (b := 2) (by omega) (by omega) dX1_setDegree_117 (by decide) (fun h117 => ?_) (fun h117 => ?_)
                      · skip
                        refine lv_aload_n (pc := 137) hx hb dX1_setDegree_137 rfl (lv_at hl 0 rfl) ?_
                        refine va_get (pc := 138) (D := dd) (ci := 1) (v := .ref (ad 3)) (C := RX1) (T := TX1) (N := 11) hx hb hts hin hown hK hP 0 rfl rfl 6 (by decide) (hts (.fieldLink RX1 17 "TurningSumsModel" "relation" "[I") (by decide +kernel)) (fun _ h9 => h9) rfl dX1_setDegree_138 ?_
                        refine nv_iconst (pc := 141) (k := 0) hx hb dX1_setDegree_141 rfl ?_
                        refine nv_iconst (pc := 142) (k := 1) hx hb dX1_setDegree_142 rfl ?_
                        refine nv_iast (pc := 143) hx hb hK hP hD hS 3 0 rfl rfl (by omega) (by decide) (ws' := (wM ad cI cL (P) (G) (n) ((phN n)) (ix) (hov) ((upd (rv) (0) (nI (1)))) (wk) (tu) (wa) (nx))) rfl dX1_setDegree_143 (fun H locs hP hD hS => ?_)
                        refine lv_goto (pc := 144) (tgt := 292) hx hb dX1_setDegree_144 (by decide) ?_
                        refine lv_aload_n (pc := 292) hx hb dX1_setDegree_292 rfl (lv_at hl 0 rfl) ?_
                        refine va_get (pc := 293) (D := dd) (ci := 1) (v := .ref (ad 3)) (C := RX1) (T := TX1) (N := 11) hx hb hts hin hown hK hP 0 rfl rfl 6 (by decide) (hts (.fieldLink RX1 17 "TurningSumsModel" "relation" "[I") (by decide +kernel)) (fun _ h9 => h9) rfl dX1_setDegree_293 ?_
                        refine lv_aload_n (pc := 296) hx hb dX1_setDegree_296 rfl (lv_at hl 0 rfl) ?_
                        refine va_get (pc := 297) (D := dd) (ci := 1) (v := .int (nI ((phN n)))) (C := RX1) (T := TX1) (N := 11) hx hb hts hin hown hK hP 0 rfl rfl 3 (by decide) (hts (.fieldLink RX1 55 "TurningSumsModel" "phi" "I") (by decide +kernel)) (fun _ h9 => h9) rfl dX1_setDegree_297 ?_
                        refine nv_iconst (pc := 300) (k := 1) hx hb dX1_setDegree_300 rfl ?_
                        refine nv_iast (pc := 301) hx hb hK hP hD hS 3 0 rfl rfl (by omega) (by decide) (ws' := (wM ad cI cL (P) (G) (n) ((phN n)) (ix) (hov) ((upd ((upd (rv) (0) (nI (1)))) ((phN n)) (nI (1)))) (wk) (tu) (wa) (nx))) rfl dX1_setDegree_301 (fun H locs hP hD hS => ?_)
                        exact hret _ _ _ _ (hov, (upd ((upd (rv) (0) (nI (1)))) ((phN n)) (nI (1)))) (⟨hho, by first | (have e : n = 1 := (by omega); subst e; exact rl_1 hre) | (have e : n = 9 := (by omega); subst e; exact rl_9 hre) | (have e : n = 12 := (by omega); subst e; exact rl_12 hre) | exact rl_2 hre (by omega) | exact rl_3 hre3 (by omega) | exact rl_6 hre6 (by omega)⟩) hP hD hS dX1_setDegree_302
                      · skip
                        refine lv_aload_n (pc := 120) hx hb dX1_setDegree_120 rfl (lv_at hl 0 rfl) ?_
                        refine va_get (pc := 121) (D := dd) (ci := 1) (v := .int (nI (n))) (C := RX1) (T := TX1) (N := 11) hx hb hts hin hown hK hP 0 rfl rfl 2 (by decide) (hts (.fieldLink RX1 52 "TurningSumsModel" "d" "I") (by decide +kernel)) (fun _ h9 => h9) rfl dX1_setDegree_121 ?_
                        refine nv_iconst (pc := 124) (k := 4) hx hb dX1_setDegree_124 rfl ?_
                        refine nv_icmp_eq (pc := 125) (tgt := 137) hx hb (a := n) (b := 4) (by omega) (by omega) dX1_setDegree_125 (by decide) (fun h125 => ?_) (fun h125 => ?_)
                        · skip
                          refine lv_aload_n (pc := 137) hx hb dX1_setDegree_137 rfl (lv_at hl 0 rfl) ?_
                          refine va_get (pc := 138) (D := dd) (ci := 1) (v := .ref (ad 3)) (C := RX1) (T := TX1) (N := 11) hx hb hts hin hown hK hP 0 rfl rfl 6 (by decide) (hts (.fieldLink RX1 17 "TurningSumsModel" "relation" "[I") (by decide +kernel)) (fun _ h9 => h9) rfl dX1_setDegree_138 ?_
                          refine nv_iconst (pc := 141) (k := 0) hx hb dX1_setDegree_141 rfl ?_
                          refine nv_iconst (pc := 142) (k := 1) hx hb dX1_setDegree_142 rfl ?_
                          refine nv_iast (pc := 143) hx hb hK hP hD hS 3 0 rfl rfl (by omega) (by decide) (ws' := (wM ad cI cL (P) (G) (n) ((phN n)) (ix) (hov) ((upd (rv) (0) (nI (1)))) (wk) (tu) (wa) (nx))) rfl dX1_setDegree_143 (fun H locs hP hD hS => ?_)
                          refine lv_goto (pc := 144) (tgt := 292) hx hb dX1_setDegree_144 (by decide) ?_
                          refine lv_aload_n (pc := 292) hx hb dX1_setDegree_292 rfl (lv_at hl 0 rfl) ?_
                          refine va_get (pc := 293) (D := dd) (ci := 1) (v := .ref (ad 3)) (C := RX1) (T := TX1) (N := 11) hx hb hts hin hown hK hP 0 rfl rfl 6 (by decide) (hts (.fieldLink RX1 17 "TurningSumsModel" "relation" "[I") (by decide +kernel)) (fun _ h9 => h9) rfl dX1_setDegree_293 ?_
                          refine lv_aload_n (pc := 296) hx hb dX1_setDegree_296 rfl (lv_at hl 0 rfl) ?_
                          refine va_get (pc := 297) (D := dd) (ci := 1) (v := .int (nI ((phN n)))) (C := RX1) (T := TX1) (N := 11) hx hb hts hin hown hK hP 0 rfl rfl 3 (by decide) (hts (.fieldLink RX1 55 "TurningSumsModel" "phi" "I") (by decide +kernel)) (fun _ h9 => h9) rfl dX1_setDegree_297 ?_
                          refine nv_iconst (pc := 300) (k := 1) hx hb dX1_setDegree_300 rfl ?_
                          refine nv_iast (pc := 301) hx hb hK hP hD hS 3 0 rfl rfl (by omega) (by decide) (ws' := (wM ad cI cL (P) (G) (n) ((phN n)) (ix) (hov) ((upd ((upd (rv) (0) (nI (1)))) ((phN n)) (nI (1)))) (wk) (tu) (wa) (nx))) rfl dX1_setDegree_301 (fun H locs hP hD hS => ?_)
                          exact hret _ _ _ _ (hov, (upd ((upd (rv) (0) (nI (1)))) ((phN n)) (nI (1)))) (⟨hho, by first | (have e : n = 1 := (by omega); subst e; exact rl_1 hre) | (have e : n = 9 := (by omega); subst e; exact rl_9 hre) | (have e : n = 12 := (by omega); subst e; exact rl_12 hre) | exact rl_2 hre (by omega) | exact rl_3 hre3 (by omega) | exact rl_6 hre6 (by omega)⟩) hP hD hS dX1_setDegree_302
                        · skip
                          refine lv_aload_n (pc := 128) hx hb dX1_setDegree_128 rfl (lv_at hl 0 rfl) ?_
                          refine va_get (pc := 129) (D := dd) (ci := 1) (v := .int (nI (n))) (C := RX1) (T := TX1) (N := 11) hx hb hts hin hown hK hP 0 rfl rfl 2 (by decide) (hts (.fieldLink RX1 52 "TurningSumsModel" "d" "I") (by decide +kernel)) (fun _ h9 => h9) rfl dX1_setDegree_129 ?_
                          refine nv_bipush (pc := 132) (k := 8) hx hb dX1_setDegree_132 rfl (by decide) ?_
                          refine nv_icmp_ne (pc := 134) (tgt := 147) hx hb (a := n) (b := 8) (by omega) (by omega) dX1_setDegree_134 (by decide) (fun h134 => ?_) (fun h134 => ?_)
                          · skip
                            refine lv_aload_n (pc := 147) hx hb dX1_setDegree_147 rfl (lv_at hl 0 rfl) ?_
                            refine va_get (pc := 148) (D := dd) (ci := 1) (v := .int (nI (n))) (C := RX1) (T := TX1) (N := 11) hx hb hts hin hown hK hP 0 rfl rfl 2 (by decide) (hts (.fieldLink RX1 52 "TurningSumsModel" "d" "I") (by decide +kernel)) (fun _ h9 => h9) rfl dX1_setDegree_148 ?_
                            refine nv_iconst (pc := 151) (k := 3) hx hb dX1_setDegree_151 rfl ?_
                            refine nv_icmp_eq (pc := 152) (tgt := 181) hx hb (a := n) (b := 3) (by omega) (by omega) dX1_setDegree_152 (by decide) (fun h152 => ?_) (fun h152 => ?_)
                            · skip
                              refine nv_iconst (pc := 181) (k := 0) hx hb dX1_setDegree_181 rfl ?_
                              refine lv_istore_n (pc := 182) (lv' := [(2, .int (nI (0))), (0, .ref (ad 0)), (1, .int (nI (n)))]) hx hb dX1_setDegree_182 rfl hl (by decide) rfl (fun ls hl => ?_)
                              have L183 : ∀ (n9_183 : Nat), ∀ (k3 : Nat) (rw3 : Nat → Int32), 14 - k3 < n9_183 → (k3 ≤ n) → (∀ i, i < 13 → rw3 i = if i < k3 then nI 1 else nI 0) → ∀ (H : Heap) (locs : List Loc) (ls : Array Slot), va_P dd vwCl (wM ad cI cL (P) (G) (n) ((phN n)) (ix) (hov) (rw3) (wk) (tu) (wa) (nx)) H → va_D A (wM ad cI cL (P) (G) (n) ((phN n)) (ix) (hov) (rw3) (wk) (tu) (wa) (nx)) → va_S A s.heap H locs → lv_has ls 3 [(0, .ref (ad 0)), (1, .int (nI (n))), (2, .int (nI (k3)))] → W p l e ({ frames := 1, cells := 0, slots := 0, locals := 24 } : Room) s m args below meth c H locs 0 0 Q (F0 m 183 ls []) := by
                                intro n9_183
                                induction n9_183 with
                                | zero => intro k3 rw3 hm; exact absurd hm (Nat.not_lt_zero _)
                                | succ n9_183 ih_183 =>
                                  intro k3 rw3 hm_183 hk3 hre3 H locs ls hP hD hS hl
                                  refine lv_iload_n (pc := 183) hx hb dX1_setDegree_183 rfl (lv_at hl 2 rfl) ?_
                                  refine lv_aload_n (pc := 184) hx hb dX1_setDegree_184 rfl (lv_at hl 0 rfl) ?_
                                  refine va_get (pc := 185) (D := dd) (ci := 1) (v := .int (nI (n))) (C := RX1) (T := TX1) (N := 11) hx hb hts hin hown hK hP 0 rfl rfl 2 (by decide) (hts (.fieldLink RX1 52 "TurningSumsModel" "d" "I") (by decide +kernel)) (fun _ h9 => h9) rfl dX1_setDegree_185 ?_
                                  refine nv_icmp_ge (pc := 188) (tgt := 204) hx hb (a := k3) (b := n) (by omega) (by omega) dX1_setDegree_188 (by decide) (fun h188 => ?_) (fun h188 => ?_)
                                  · skip
                                    have hre3 : ∀ i, i < 13 → rw3 i = if i < n then nI 1 else nI 0 := by rw [show k3 = n by omega] at hre3; exact hre3
                                    refine lv_goto (pc := 204) (tgt := 292) hx hb dX1_setDegree_204 (by decide) ?_
                                    refine lv_aload_n (pc := 292) hx hb dX1_setDegree_292 rfl (lv_at hl 0 rfl) ?_
                                    refine va_get (pc := 293) (D := dd) (ci := 1) (v := .ref (ad 3)) (C := RX1) (T := TX1) (N := 11) hx hb hts hin hown hK hP 0 rfl rfl 6 (by decide) (hts (.fieldLink RX1 17 "TurningSumsModel" "relation" "[I") (by decide +kernel)) (fun _ h9 => h9) rfl dX1_setDegree_293 ?_
                                    refine lv_aload_n (pc := 296) hx hb dX1_setDegree_296 rfl (lv_at hl 0 rfl) ?_
                                    refine va_get (pc := 297) (D := dd) (ci := 1) (v := .int (nI ((phN n)))) (C := RX1) (T := TX1) (N := 11) hx hb hts hin hown hK hP 0 rfl rfl 3 (by decide) (hts (.fieldLink RX1 55 "TurningSumsModel" "phi" "I") (by decide +kernel)) (fun _ h9 => h9) rfl dX1_setDegree_297 ?_
                                    refine nv_iconst (pc := 300) (k := 1) hx hb dX1_setDegree_300 rfl ?_
                                    refine nv_iast (pc := 301) hx hb hK hP hD hS 3 0 rfl rfl (by omega) (by decide) (ws' := (wM ad cI cL (P) (G) (n) ((phN n)) (ix) (hov) ((upd (rw3) ((phN n)) (nI (1)))) (wk) (tu) (wa) (nx))) rfl dX1_setDegree_301 (fun H locs hP hD hS => ?_)
                                    exact hret _ _ _ _ (hov, (upd (rw3) ((phN n)) (nI (1)))) (⟨hho, by first | (have e : n = 1 := (by omega); subst e; exact rl_1 hre) | (have e : n = 9 := (by omega); subst e; exact rl_9 hre) | (have e : n = 12 := (by omega); subst e; exact rl_12 hre) | exact rl_2 hre (by omega) | exact rl_3 hre3 (by omega) | exact rl_6 hre6 (by omega)⟩) hP hD hS dX1_setDegree_302
                                  · skip
                                    refine lv_aload_n (pc := 191) hx hb dX1_setDegree_191 rfl (lv_at hl 0 rfl) ?_
                                    refine va_get (pc := 192) (D := dd) (ci := 1) (v := .ref (ad 3)) (C := RX1) (T := TX1) (N := 11) hx hb hts hin hown hK hP 0 rfl rfl 6 (by decide) (hts (.fieldLink RX1 17 "TurningSumsModel" "relation" "[I") (by decide +kernel)) (fun _ h9 => h9) rfl dX1_setDegree_192 ?_
                                    refine lv_iload_n (pc := 195) hx hb dX1_setDegree_195 rfl (lv_at hl 2 rfl) ?_
                                    refine nv_iconst (pc := 196) (k := 1) hx hb dX1_setDegree_196 rfl ?_
                                    refine nv_iast (pc := 197) hx hb hK hP hD hS 3 0 rfl rfl (by omega) (by decide) (ws' := (wM ad cI cL (P) (G) (n) ((phN n)) (ix) (hov) ((upd (rw3) (k3) (nI (1)))) (wk) (tu) (wa) (nx))) rfl dX1_setDegree_197 (fun H locs hP hD hS => ?_)
                                    refine lv_iinc (pc := 198) (v := nI ((k3 + 1))) (lv' := [(2, .int (nI ((k3 + 1)))), (0, .ref (ad 0)), (1, .int (nI (n)))]) hx hb dX1_setDegree_198 hl (k := 2) rfl (nI_inc _) (by decide) rfl (fun ls hl => ?_)
                                    refine lv_goto (pc := 201) (tgt := 183) hx hb dX1_setDegree_201 (by decide) ?_
                                    exact ih_183 ((k3 + 1)) ((upd (rw3) (k3) (nI (1)))) (by omega) (by omega) (updi hre3) _ _ _ hP hD hS (lv_sub hl [1, 2, 0] rfl)
                              exact L183 _ (0) (rv) (Nat.lt_succ_self _) (by omega) (fun i b => by rw [if_neg (by omega)]; exact hre i b) _ _ _ hP hD hS (lv_sub hl [1, 2, 0] rfl)
                            · skip
                              refine lv_aload_n (pc := 155) hx hb dX1_setDegree_155 rfl (lv_at hl 0 rfl) ?_
                              refine va_get (pc := 156) (D := dd) (ci := 1) (v := .int (nI (n))) (C := RX1) (T := TX1) (N := 11) hx hb hts hin hown hK hP 0 rfl rfl 2 (by decide) (hts (.fieldLink RX1 52 "TurningSumsModel" "d" "I") (by decide +kernel)) (fun _ h9 => h9) rfl dX1_setDegree_156 ?_
                              refine nv_iconst (pc := 159) (k := 5) hx hb dX1_setDegree_159 rfl ?_
                              refine nv_icmp_eq (pc := 160) (tgt := 181) hx hb (a := n) (b := 5) (by omega) (by omega) dX1_setDegree_160 (by decide) (fun h160 => ?_) (fun h160 => ?_)
                              · skip
                                refine nv_iconst (pc := 181) (k := 0) hx hb dX1_setDegree_181 rfl ?_
                                refine lv_istore_n (pc := 182) (lv' := [(2, .int (nI (0))), (0, .ref (ad 0)), (1, .int (nI (n)))]) hx hb dX1_setDegree_182 rfl hl (by decide) rfl (fun ls hl => ?_)
                                have L183 : ∀ (n9_183 : Nat), ∀ (k3 : Nat) (rw3 : Nat → Int32), 14 - k3 < n9_183 → (k3 ≤ n) → (∀ i, i < 13 → rw3 i = if i < k3 then nI 1 else nI 0) → ∀ (H : Heap) (locs : List Loc) (ls : Array Slot), va_P dd vwCl (wM ad cI cL (P) (G) (n) ((phN n)) (ix) (hov) (rw3) (wk) (tu) (wa) (nx)) H → va_D A (wM ad cI cL (P) (G) (n) ((phN n)) (ix) (hov) (rw3) (wk) (tu) (wa) (nx)) → va_S A s.heap H locs → lv_has ls 3 [(0, .ref (ad 0)), (1, .int (nI (n))), (2, .int (nI (k3)))] → W p l e ({ frames := 1, cells := 0, slots := 0, locals := 24 } : Room) s m args below meth c H locs 0 0 Q (F0 m 183 ls []) := by
                                  intro n9_183
                                  induction n9_183 with
                                  | zero => intro k3 rw3 hm; exact absurd hm (Nat.not_lt_zero _)
                                  | succ n9_183 ih_183 =>
                                    intro k3 rw3 hm_183 hk3 hre3 H locs ls hP hD hS hl
                                    refine lv_iload_n (pc := 183) hx hb dX1_setDegree_183 rfl (lv_at hl 2 rfl) ?_
                                    refine lv_aload_n (pc := 184) hx hb dX1_setDegree_184 rfl (lv_at hl 0 rfl) ?_
                                    refine va_get (pc := 185) (D := dd) (ci := 1) (v := .int (nI (n))) (C := RX1) (T := TX1) (N := 11) hx hb hts hin hown hK hP 0 rfl rfl 2 (by decide) (hts (.fieldLink RX1 52 "TurningSumsModel" "d" "I") (by decide +kernel)) (fun _ h9 => h9) rfl dX1_setDegree_185 ?_
                                    refine nv_icmp_ge (pc := 188) (tgt := 204) hx hb (a := k3) (b := n) (by omega) (by omega) dX1_setDegree_188 (by decide) (fun h188 => ?_) (fun h188 => ?_)
                                    · skip
                                      have hre3 : ∀ i, i < 13 → rw3 i = if i < n then nI 1 else nI 0 := by rw [show k3 = n by omega] at hre3; exact hre3
                                      refine lv_goto (pc := 204) (tgt := 292) hx hb dX1_setDegree_204 (by decide) ?_
                                      refine lv_aload_n (pc := 292) hx hb dX1_setDegree_292 rfl (lv_at hl 0 rfl) ?_
                                      refine va_get (pc := 293) (D := dd) (ci := 1) (v := .ref (ad 3)) (C := RX1) (T := TX1) (N := 11) hx hb hts hin hown hK hP 0 rfl rfl 6 (by decide) (hts (.fieldLink RX1 17 "TurningSumsModel" "relation" "[I") (by decide +kernel)) (fun _ h9 => h9) rfl dX1_setDegree_293 ?_
                                      refine lv_aload_n (pc := 296) hx hb dX1_setDegree_296 rfl (lv_at hl 0 rfl) ?_
                                      refine va_get (pc := 297) (D := dd) (ci := 1) (v := .int (nI ((phN n)))) (C := RX1) (T := TX1) (N := 11) hx hb hts hin hown hK hP 0 rfl rfl 3 (by decide) (hts (.fieldLink RX1 55 "TurningSumsModel" "phi" "I") (by decide +kernel)) (fun _ h9 => h9) rfl dX1_setDegree_297 ?_
                                      refine nv_iconst (pc := 300) (k := 1) hx hb dX1_setDegree_300 rfl ?_
                                      refine nv_iast (pc := 301) hx hb hK hP hD hS 3 0 rfl rfl (by omega) (by decide) (ws' := (wM ad cI cL (P) (G) (n) ((phN n)) (ix) (hov) ((upd (rw3) ((phN n)) (nI (1)))) (wk) (tu) (wa) (nx))) rfl dX1_setDegree_301 (fun H locs hP hD hS => ?_)
                                      exact hret _ _ _ _ (hov, (upd (rw3) ((phN n)) (nI (1)))) (⟨hho, by first | (have e : n = 1 := (by omega); subst e; exact rl_1 hre) | (have e : n = 9 := (by omega); subst e; exact rl_9 hre) | (have e : n = 12 := (by omega); subst e; exact rl_12 hre) | exact rl_2 hre (by omega) | exact rl_3 hre3 (by omega) | exact rl_6 hre6 (by omega)⟩) hP hD hS dX1_setDegree_302
                                    · skip
                                      refine lv_aload_n (pc := 191) hx hb dX1_setDegree_191 rfl (lv_at hl 0 rfl) ?_
                                      refine va_get (pc := 192) (D := dd) (ci := 1) (v := .ref (ad 3)) (C := RX1) (T := TX1) (N := 11) hx hb hts hin hown hK hP 0 rfl rfl 6 (by decide) (hts (.fieldLink RX1 17 "TurningSumsModel" "relation" "[I") (by decide +kernel)) (fun _ h9 => h9) rfl dX1_setDegree_192 ?_
                                      refine lv_iload_n (pc := 195) hx hb dX1_setDegree_195 rfl (lv_at hl 2 rfl) ?_
                                      refine nv_iconst (pc := 196) (k := 1) hx hb dX1_setDegree_196 rfl ?_
                                      refine nv_iast (pc := 197) hx hb hK hP hD hS 3 0 rfl rfl (by omega) (by decide) (ws' := (wM ad cI cL (P) (G) (n) ((phN n)) (ix) (hov) ((upd (rw3) (k3) (nI (1)))) (wk) (tu) (wa) (nx))) rfl dX1_setDegree_197 (fun H locs hP hD hS => ?_)
                                      refine lv_iinc (pc := 198) (v := nI ((k3 + 1))) (lv' := [(2, .int (nI ((k3 + 1)))), (0, .ref (ad 0)), (1, .int (nI (n)))]) hx hb dX1_setDegree_198 hl (k := 2) rfl (nI_inc _) (by decide) rfl (fun ls hl => ?_)
                                      refine lv_goto (pc := 201) (tgt := 183) hx hb dX1_setDegree_201 (by decide) ?_
                                      exact ih_183 ((k3 + 1)) ((upd (rw3) (k3) (nI (1)))) (by omega) (by omega) (updi hre3) _ _ _ hP hD hS (lv_sub hl [1, 2, 0] rfl)
                                exact L183 _ (0) (rv) (Nat.lt_succ_self _) (by omega) (fun i b => by rw [if_neg (by omega)]; exact hre i b) _ _ _ hP hD hS (lv_sub hl [1, 2, 0] rfl)
                              · skip
                                refine lv_aload_n (pc := 163) hx hb dX1_setDegree_163 rfl (lv_at hl 0 rfl) ?_
                                refine va_get (pc := 164) (D := dd) (ci := 1) (v := .int (nI (n))) (C := RX1) (T := TX1) (N := 11) hx hb hts hin hown hK hP 0 rfl rfl 2 (by decide) (hts (.fieldLink RX1 52 "TurningSumsModel" "d" "I") (by decide +kernel)) (fun _ h9 => h9) rfl dX1_setDegree_164 ?_
                                refine nv_bipush (pc := 167) (k := 7) hx hb dX1_setDegree_167 rfl (by decide) ?_
                                refine nv_icmp_eq (pc := 169) (tgt := 181) hx hb (a := n) (b := 7) (by omega) (by omega) dX1_setDegree_169 (by decide) (fun h169 => ?_) (fun h169 => ?_)
                                · skip
                                  refine nv_iconst (pc := 181) (k := 0) hx hb dX1_setDegree_181 rfl ?_
                                  refine lv_istore_n (pc := 182) (lv' := [(2, .int (nI (0))), (0, .ref (ad 0)), (1, .int (nI (n)))]) hx hb dX1_setDegree_182 rfl hl (by decide) rfl (fun ls hl => ?_)
                                  have L183 : ∀ (n9_183 : Nat), ∀ (k3 : Nat) (rw3 : Nat → Int32), 14 - k3 < n9_183 → (k3 ≤ n) → (∀ i, i < 13 → rw3 i = if i < k3 then nI 1 else nI 0) → ∀ (H : Heap) (locs : List Loc) (ls : Array Slot), va_P dd vwCl (wM ad cI cL (P) (G) (n) ((phN n)) (ix) (hov) (rw3) (wk) (tu) (wa) (nx)) H → va_D A (wM ad cI cL (P) (G) (n) ((phN n)) (ix) (hov) (rw3) (wk) (tu) (wa) (nx)) → va_S A s.heap H locs → lv_has ls 3 [(0, .ref (ad 0)), (1, .int (nI (n))), (2, .int (nI (k3)))] → W p l e ({ frames := 1, cells := 0, slots := 0, locals := 24 } : Room) s m args below meth c H locs 0 0 Q (F0 m 183 ls []) := by
                                    intro n9_183
                                    induction n9_183 with
                                    | zero => intro k3 rw3 hm; exact absurd hm (Nat.not_lt_zero _)
                                    | succ n9_183 ih_183 =>
                                      intro k3 rw3 hm_183 hk3 hre3 H locs ls hP hD hS hl
                                      refine lv_iload_n (pc := 183) hx hb dX1_setDegree_183 rfl (lv_at hl 2 rfl) ?_
                                      refine lv_aload_n (pc := 184) hx hb dX1_setDegree_184 rfl (lv_at hl 0 rfl) ?_
                                      refine va_get (pc := 185) (D := dd) (ci := 1) (v := .int (nI (n))) (C := RX1) (T := TX1) (N := 11) hx hb hts hin hown hK hP 0 rfl rfl 2 (by decide) (hts (.fieldLink RX1 52 "TurningSumsModel" "d" "I") (by decide +kernel)) (fun _ h9 => h9) rfl dX1_setDegree_185 ?_
                                      refine nv_icmp_ge (pc := 188) (tgt := 204) hx hb (a := k3) (b := n) (by omega) (by omega) dX1_setDegree_188 (by decide) (fun h188 => ?_) (fun h188 => ?_)
                                      · skip
                                        have hre3 : ∀ i, i < 13 → rw3 i = if i < n then nI 1 else nI 0 := by rw [show k3 = n by omega] at hre3; exact hre3
                                        refine lv_goto (pc := 204) (tgt := 292) hx hb dX1_setDegree_204 (by decide) ?_
                                        refine lv_aload_n (pc := 292) hx hb dX1_setDegree_292 rfl (lv_at hl 0 rfl) ?_
                                        refine va_get (pc := 293) (D := dd) (ci := 1) (v := .ref (ad 3)) (C := RX1) (T := TX1) (N := 11) hx hb hts hin hown hK hP 0 rfl rfl 6 (by decide) (hts (.fieldLink RX1 17 "TurningSumsModel" "relation" "[I") (by decide +kernel)) (fun _ h9 => h9) rfl dX1_setDegree_293 ?_
                                        refine lv_aload_n (pc := 296) hx hb dX1_setDegree_296 rfl (lv_at hl 0 rfl) ?_
                                        refine va_get (pc := 297) (D := dd) (ci := 1) (v := .int (nI ((phN n)))) (C := RX1) (T := TX1) (N := 11) hx hb hts hin hown hK hP 0 rfl rfl 3 (by decide) (hts (.fieldLink RX1 55 "TurningSumsModel" "phi" "I") (by decide +kernel)) (fun _ h9 => h9) rfl dX1_setDegree_297 ?_
                                        refine nv_iconst (pc := 300) (k := 1) hx hb dX1_setDegree_300 rfl ?_
                                        refine nv_iast (pc := 301) hx hb hK hP hD hS 3 0 rfl rfl (by omega) (by decide) (ws' := (wM ad cI cL (P) (G) (n) ((phN n)) (ix) (hov) ((upd (rw3) ((phN n)) (nI (1)))) (wk) (tu) (wa) (nx))) rfl dX1_setDegree_301 (fun H locs hP hD hS => ?_)
                                        exact hret _ _ _ _ (hov, (upd (rw3) ((phN n)) (nI (1)))) (⟨hho, by first | (have e : n = 1 := (by omega); subst e; exact rl_1 hre) | (have e : n = 9 := (by omega); subst e; exact rl_9 hre) | (have e : n = 12 := (by omega); subst e; exact rl_12 hre) | exact rl_2 hre (by omega) | exact rl_3 hre3 (by omega) | exact rl_6 hre6 (by omega)⟩) hP hD hS dX1_setDegree_302
                                      · skip
                                        refine lv_aload_n (pc := 191) hx hb dX1_setDegree_191 rfl (lv_at hl 0 rfl) ?_
                                        refine va_get (pc := 192) (D := dd) (ci := 1) (v := .ref (ad 3)) (C := RX1) (T := TX1) (N := 11) hx hb hts hin hown hK hP 0 rfl rfl 6 (by decide) (hts (.fieldLink RX1 17 "TurningSumsModel" "relation" "[I") (by decide +kernel)) (fun _ h9 => h9) rfl dX1_setDegree_192 ?_
                                        refine lv_iload_n (pc := 195) hx hb dX1_setDegree_195 rfl (lv_at hl 2 rfl) ?_
                                        refine nv_iconst (pc := 196) (k := 1) hx hb dX1_setDegree_196 rfl ?_
                                        refine nv_iast (pc := 197) hx hb hK hP hD hS 3 0 rfl rfl (by omega) (by decide) (ws' := (wM ad cI cL (P) (G) (n) ((phN n)) (ix) (hov) ((upd (rw3) (k3) (nI (1)))) (wk) (tu) (wa) (nx))) rfl dX1_setDegree_197 (fun H locs hP hD hS => ?_)
                                        refine lv_iinc (pc := 198) (v := nI ((k3 + 1))) (lv' := [(2, .int (nI ((k3 + 1)))), (0, .ref (ad 0)), (1, .int (nI (n)))]) hx hb dX1_setDegree_198 hl (k := 2) rfl (nI_inc _) (by decide) rfl (fun ls hl => ?_)
                                        refine lv_goto (pc := 201) (tgt := 183) hx hb dX1_setDegree_201 (by decide) ?_
                                        exact ih_183 ((k3 + 1)) ((upd (rw3) (k3) (nI (1)))) (by omega) (by omega) (updi hre3) _ _ _ hP hD hS (lv_sub hl [1, 2, 0] rfl)
                                  exact L183 _ (0) (rv) (Nat.lt_succ_self _) (by omega) (fun i b => by rw [if_neg (by omega)]; exact hre i b) _ _ _ hP hD hS (lv_sub hl [1, 2, 0] rfl)
                                · skip
                                  refine lv_aload_n (pc := 172) hx hb dX1_setDegree_172 rfl (lv_at hl 0 rfl) ?_
                                  refine va_get (pc := 173) (D := dd) (ci := 1) (v := .int (nI (n))) (C := RX1) (T := TX1) (N := 11) hx hb hts hin hown hK hP 0 rfl rfl 2 (by decide) (hts (.fieldLink RX1 52 "TurningSumsModel" "d" "I") (by decide +kernel)) (fun _ h9 => h9) rfl dX1_setDegree_173 ?_
                                  refine nv_bipush (pc := 176) (k := 11) hx hb dX1_setDegree_176 rfl (by decide) ?_
                                  refine nv_icmp_ne (pc := 178) (tgt := 207) hx hb (a := n) (b := 11) (by omega) (by omega) dX1_setDegree_178 (by decide) (fun h178 => ?_) (fun h178 => ?_)
                                  · skip
                                    refine lv_aload_n (pc := 207) hx hb dX1_setDegree_207 rfl (lv_at hl 0 rfl) ?_
                                    refine va_get (pc := 208) (D := dd) (ci := 1) (v := .int (nI (n))) (C := RX1) (T := TX1) (N := 11) hx hb hts hin hown hK hP 0 rfl rfl 2 (by decide) (hts (.fieldLink RX1 52 "TurningSumsModel" "d" "I") (by decide +kernel)) (fun _ h9 => h9) rfl dX1_setDegree_208 ?_
                                    refine nv_bipush (pc := 211) (k := 9) hx hb dX1_setDegree_211 rfl (by decide) ?_
                                    refine nv_icmp_ne (pc := 213) (tgt := 233) hx hb (a := n) (b := 9) (by omega) (by omega) dX1_setDegree_213 (by decide) (fun h213 => ?_) (fun h213 => ?_)
                                    · skip
                                      refine lv_aload_n (pc := 233) hx hb dX1_setDegree_233 rfl (lv_at hl 0 rfl) ?_
                                      refine va_get (pc := 234) (D := dd) (ci := 1) (v := .int (nI (n))) (C := RX1) (T := TX1) (N := 11) hx hb hts hin hown hK hP 0 rfl rfl 2 (by decide) (hts (.fieldLink RX1 52 "TurningSumsModel" "d" "I") (by decide +kernel)) (fun _ h9 => h9) rfl dX1_setDegree_234 ?_
                                      refine nv_bipush (pc := 237) (k := 12) hx hb dX1_setDegree_237 rfl (by decide) ?_
                                      refine nv_icmp_ne (pc := 239) (tgt := 259) hx hb (a := n) (b := 12) (by omega) (by omega) dX1_setDegree_239 (by decide) (fun h239 => ?_) (fun h239 => ?_)
                                      · skip
                                        refine nv_iconst (pc := 259) (k := 0) hx hb dX1_setDegree_259 rfl ?_
                                        refine lv_istore_n (pc := 260) (lv' := [(2, .int (nI (0))), (0, .ref (ad 0)), (1, .int (nI (n)))]) hx hb dX1_setDegree_260 rfl hl (by decide) rfl (fun ls hl => ?_)
                                        have L261 : ∀ (n9_261 : Nat), ∀ (k6 : Nat) (rw6 : Nat → Int32), 14 - k6 < n9_261 → (k6 ≤ phN n + 1) → (∀ i, i < 13 → rw6 i = if i < k6 then (if i % 2 = 0 then nI 1 else zI (-1)) else nI 0) → ∀ (H : Heap) (locs : List Loc) (ls : Array Slot), va_P dd vwCl (wM ad cI cL (P) (G) (n) ((phN n)) (ix) (hov) (rw6) (wk) (tu) (wa) (nx)) H → va_D A (wM ad cI cL (P) (G) (n) ((phN n)) (ix) (hov) (rw6) (wk) (tu) (wa) (nx)) → va_S A s.heap H locs → lv_has ls 3 [(0, .ref (ad 0)), (1, .int (nI (n))), (2, .int (nI (k6)))] → W p l e ({ frames := 1, cells := 0, slots := 0, locals := 24 } : Room) s m args below meth c H locs 0 0 Q (F0 m 261 ls []) := by
                                          intro n9_261
                                          induction n9_261 with
                                          | zero => intro k6 rw6 hm; exact absurd hm (Nat.not_lt_zero _)
                                          | succ n9_261 ih_261 =>
                                            intro k6 rw6 hm_261 hk6 hre6 H locs ls hP hD hS hl
                                            refine lv_iload_n (pc := 261) hx hb dX1_setDegree_261 rfl (lv_at hl 2 rfl) ?_
                                            refine lv_aload_n (pc := 262) hx hb dX1_setDegree_262 rfl (lv_at hl 0 rfl) ?_
                                            refine va_get (pc := 263) (D := dd) (ci := 1) (v := .int (nI ((phN n)))) (C := RX1) (T := TX1) (N := 11) hx hb hts hin hown hK hP 0 rfl rfl 3 (by decide) (hts (.fieldLink RX1 55 "TurningSumsModel" "phi" "I") (by decide +kernel)) (fun _ h9 => h9) rfl dX1_setDegree_263 ?_
                                            refine nv_icmp_gt (pc := 266) (tgt := 292) hx hb (a := k6) (b := (phN n)) (by omega) (by omega) dX1_setDegree_266 (by decide) (fun h266 => ?_) (fun h266 => ?_)
                                            · skip
                                              have hre6 : ∀ i, i < 13 → rw6 i = if i < phN n + 1 then (if i % 2 = 0 then nI 1 else zI (-1)) else nI 0 := by rw [show k6 = phN n + 1 by omega] at hre6; exact hre6
                                              refine lv_aload_n (pc := 292) hx hb dX1_setDegree_292 rfl (lv_at hl 0 rfl) ?_
                                              refine va_get (pc := 293) (D := dd) (ci := 1) (v := .ref (ad 3)) (C := RX1) (T := TX1) (N := 11) hx hb hts hin hown hK hP 0 rfl rfl 6 (by decide) (hts (.fieldLink RX1 17 "TurningSumsModel" "relation" "[I") (by decide +kernel)) (fun _ h9 => h9) rfl dX1_setDegree_293 ?_
                                              refine lv_aload_n (pc := 296) hx hb dX1_setDegree_296 rfl (lv_at hl 0 rfl) ?_
                                              refine va_get (pc := 297) (D := dd) (ci := 1) (v := .int (nI ((phN n)))) (C := RX1) (T := TX1) (N := 11) hx hb hts hin hown hK hP 0 rfl rfl 3 (by decide) (hts (.fieldLink RX1 55 "TurningSumsModel" "phi" "I") (by decide +kernel)) (fun _ h9 => h9) rfl dX1_setDegree_297 ?_
                                              refine nv_iconst (pc := 300) (k := 1) hx hb dX1_setDegree_300 rfl ?_
                                              refine nv_iast (pc := 301) hx hb hK hP hD hS 3 0 rfl rfl (by omega) (by decide) (ws' := (wM ad cI cL (P) (G) (n) ((phN n)) (ix) (hov) ((upd (rw6) ((phN n)) (nI (1)))) (wk) (tu) (wa) (nx))) rfl dX1_setDegree_301 (fun H locs hP hD hS => ?_)
                                              exact hret _ _ _ _ (hov, (upd (rw6) ((phN n)) (nI (1)))) (⟨hho, by first | (have e : n = 1 := (by omega); subst e; exact rl_1 hre) | (have e : n = 9 := (by omega); subst e; exact rl_9 hre) | (have e : n = 12 := (by omega); subst e; exact rl_12 hre) | exact rl_2 hre (by omega) | exact rl_3 hre3 (by omega) | exact rl_6 hre6 (by omega)⟩) hP hD hS dX1_setDegree_302
                                            · skip
                                              refine lv_aload_n (pc := 269) hx hb dX1_setDegree_269 rfl (lv_at hl 0 rfl) ?_
                                              refine va_get (pc := 270) (D := dd) (ci := 1) (v := .ref (ad 3)) (C := RX1) (T := TX1) (N := 11) hx hb hts hin hown hK hP 0 rfl rfl 6 (by decide) (hts (.fieldLink RX1 17 "TurningSumsModel" "relation" "[I") (by decide +kernel)) (fun _ h9 => h9) rfl dX1_setDegree_270 ?_
                                              refine lv_iload_n (pc := 273) hx hb dX1_setDegree_273 rfl (lv_at hl 2 rfl) ?_
                                              refine lv_iload_n (pc := 274) hx hb dX1_setDegree_274 rfl (lv_at hl 2 rfl) ?_
                                              refine nv_iconst (pc := 275) (k := 2) hx hb dX1_setDegree_275 rfl ?_
                                              refine nv_irem (pc := 276) hx hb (by omega) (by omega) (by omega) dX1_setDegree_276 ?_
                                              refine nv_if_ne (pc := 277) (tgt := 284) hx hb (a := (k6 % 2)) (Nat.lt_trans (Nat.mod_lt _ (by omega)) (by omega)) dX1_setDegree_277 (by decide) (fun h277 => ?_) (fun h277 => ?_)
                                              · skip
                                                refine lv_iconst (pc := 284) (v := zI (-1)) hx hb dX1_setDegree_284 rfl ?_
                                                refine nv_iast (pc := 285) hx hb hK hP hD hS 3 0 rfl rfl (by omega) (by decide) (ws' := (wM ad cI cL (P) (G) (n) ((phN n)) (ix) (hov) ((upd (rw6) (k6) (zI ((-1))))) (wk) (tu) (wa) (nx))) rfl dX1_setDegree_285 (fun H locs hP hD hS => ?_)
                                                refine lv_iinc (pc := 286) (v := nI ((k6 + 1))) (lv' := [(2, .int (nI ((k6 + 1)))), (0, .ref (ad 0)), (1, .int (nI (n)))]) hx hb dX1_setDegree_286 hl (k := 2) rfl (nI_inc _) (by decide) rfl (fun ls hl => ?_)
                                                refine lv_goto (pc := 289) (tgt := 261) hx hb dX1_setDegree_289 (by decide) ?_
                                                exact ih_261 ((k6 + 1)) ((upd (rw6) (k6) (zI ((-1))))) (by omega) (by omega) (updi2 (if_neg h277).symm hre6) _ _ _ hP hD hS (lv_sub hl [1, 2, 0] rfl)
                                              · skip
                                                refine nv_iconst (pc := 280) (k := 1) hx hb dX1_setDegree_280 rfl ?_
                                                refine lv_goto (pc := 281) (tgt := 285) hx hb dX1_setDegree_281 (by decide) ?_
                                                refine nv_iast (pc := 285) hx hb hK hP hD hS 3 0 rfl rfl (by omega) (by decide) (ws' := (wM ad cI cL (P) (G) (n) ((phN n)) (ix) (hov) ((upd (rw6) (k6) (nI (1)))) (wk) (tu) (wa) (nx))) rfl dX1_setDegree_285 (fun H locs hP hD hS => ?_)
                                                refine lv_iinc (pc := 286) (v := nI ((k6 + 1))) (lv' := [(2, .int (nI ((k6 + 1)))), (0, .ref (ad 0)), (1, .int (nI (n)))]) hx hb dX1_setDegree_286 hl (k := 2) rfl (nI_inc _) (by decide) rfl (fun ls hl => ?_)
                                                refine lv_goto (pc := 289) (tgt := 261) hx hb dX1_setDegree_289 (by decide) ?_
                                                exact ih_261 ((k6 + 1)) ((upd (rw6) (k6) (nI (1)))) (by omega) (by omega) (updi2 (if_pos h277).symm hre6) _ _ _ hP hD hS (lv_sub hl [1, 2, 0] rfl)
                                        exact L261 _ (0) (rv) (Nat.lt_succ_self _) (by omega) (fun i b => by rw [if_neg (by omega)]; exact hre i b) _ _ _ hP hD hS (lv_sub hl [1, 2, 0] rfl)
                                      · skip
                                        refine lv_aload_n (pc := 242) hx hb dX1_setDegree_242 rfl (lv_at hl 0 rfl) ?_
                                        refine va_get (pc := 243) (D := dd) (ci := 1) (v := .ref (ad 3)) (C := RX1) (T := TX1) (N := 11) hx hb hts hin hown hK hP 0 rfl rfl 6 (by decide) (hts (.fieldLink RX1 17 "TurningSumsModel" "relation" "[I") (by decide +kernel)) (fun _ h9 => h9) rfl dX1_setDegree_243 ?_
                                        refine nv_iconst (pc := 246) (k := 0) hx hb dX1_setDegree_246 rfl ?_
                                        refine nv_iconst (pc := 247) (k := 1) hx hb dX1_setDegree_247 rfl ?_
                                        refine nv_iast (pc := 248) hx hb hK hP hD hS 3 0 rfl rfl (by omega) (by decide) (ws' := (wM ad cI cL (P) (G) (n) ((phN n)) (ix) (hov) ((upd (rv) (0) (nI (1)))) (wk) (tu) (wa) (nx))) rfl dX1_setDegree_248 (fun H locs hP hD hS => ?_)
                                        refine lv_aload_n (pc := 249) hx hb dX1_setDegree_249 rfl (lv_at hl 0 rfl) ?_
                                        refine va_get (pc := 250) (D := dd) (ci := 1) (v := .ref (ad 3)) (C := RX1) (T := TX1) (N := 11) hx hb hts hin hown hK hP 0 rfl rfl 6 (by decide) (hts (.fieldLink RX1 17 "TurningSumsModel" "relation" "[I") (by decide +kernel)) (fun _ h9 => h9) rfl dX1_setDegree_250 ?_
                                        refine nv_iconst (pc := 253) (k := 2) hx hb dX1_setDegree_253 rfl ?_
                                        refine lv_iconst (pc := 254) (v := zI (-1)) hx hb dX1_setDegree_254 rfl ?_
                                        refine nv_iast (pc := 255) hx hb hK hP hD hS 3 0 rfl rfl (by omega) (by decide) (ws' := (wM ad cI cL (P) (G) (n) ((phN n)) (ix) (hov) ((upd ((upd (rv) (0) (nI (1)))) (2) (zI ((-1))))) (wk) (tu) (wa) (nx))) rfl dX1_setDegree_255 (fun H locs hP hD hS => ?_)
                                        refine lv_goto (pc := 256) (tgt := 292) hx hb dX1_setDegree_256 (by decide) ?_
                                        refine lv_aload_n (pc := 292) hx hb dX1_setDegree_292 rfl (lv_at hl 0 rfl) ?_
                                        refine va_get (pc := 293) (D := dd) (ci := 1) (v := .ref (ad 3)) (C := RX1) (T := TX1) (N := 11) hx hb hts hin hown hK hP 0 rfl rfl 6 (by decide) (hts (.fieldLink RX1 17 "TurningSumsModel" "relation" "[I") (by decide +kernel)) (fun _ h9 => h9) rfl dX1_setDegree_293 ?_
                                        refine lv_aload_n (pc := 296) hx hb dX1_setDegree_296 rfl (lv_at hl 0 rfl) ?_
                                        refine va_get (pc := 297) (D := dd) (ci := 1) (v := .int (nI ((phN n)))) (C := RX1) (T := TX1) (N := 11) hx hb hts hin hown hK hP 0 rfl rfl 3 (by decide) (hts (.fieldLink RX1 55 "TurningSumsModel" "phi" "I") (by decide +kernel)) (fun _ h9 => h9) rfl dX1_setDegree_297 ?_
                                        refine nv_iconst (pc := 300) (k := 1) hx hb dX1_setDegree_300 rfl ?_
                                        refine nv_iast (pc := 301) hx hb hK hP hD hS 3 0 rfl rfl (by omega) (by decide) (ws' := (wM ad cI cL (P) (G) (n) ((phN n)) (ix) (hov) ((upd ((upd ((upd (rv) (0) (nI (1)))) (2) (zI ((-1))))) ((phN n)) (nI (1)))) (wk) (tu) (wa) (nx))) rfl dX1_setDegree_301 (fun H locs hP hD hS => ?_)
                                        exact hret _ _ _ _ (hov, (upd ((upd ((upd (rv) (0) (nI (1)))) (2) (zI ((-1))))) ((phN n)) (nI (1)))) (⟨hho, by first | (have e : n = 1 := (by omega); subst e; exact rl_1 hre) | (have e : n = 9 := (by omega); subst e; exact rl_9 hre) | (have e : n = 12 := (by omega); subst e; exact rl_12 hre) | exact rl_2 hre (by omega) | exact rl_3 hre3 (by omega) | exact rl_6 hre6 (by omega)⟩) hP hD hS dX1_setDegree_302
                                    · skip
                                      refine lv_aload_n (pc := 216) hx hb dX1_setDegree_216 rfl (lv_at hl 0 rfl) ?_
                                      refine va_get (pc := 217) (D := dd) (ci := 1) (v := .ref (ad 3)) (C := RX1) (T := TX1) (N := 11) hx hb hts hin hown hK hP 0 rfl rfl 6 (by decide) (hts (.fieldLink RX1 17 "TurningSumsModel" "relation" "[I") (by decide +kernel)) (fun _ h9 => h9) rfl dX1_setDegree_217 ?_
                                      refine nv_iconst (pc := 220) (k := 0) hx hb dX1_setDegree_220 rfl ?_
                                      refine nv_iconst (pc := 221) (k := 1) hx hb dX1_setDegree_221 rfl ?_
                                      refine nv_iast (pc := 222) hx hb hK hP hD hS 3 0 rfl rfl (by omega) (by decide) (ws' := (wM ad cI cL (P) (G) (n) ((phN n)) (ix) (hov) ((upd (rv) (0) (nI (1)))) (wk) (tu) (wa) (nx))) rfl dX1_setDegree_222 (fun H locs hP hD hS => ?_)
                                      refine lv_aload_n (pc := 223) hx hb dX1_setDegree_223 rfl (lv_at hl 0 rfl) ?_
                                      refine va_get (pc := 224) (D := dd) (ci := 1) (v := .ref (ad 3)) (C := RX1) (T := TX1) (N := 11) hx hb hts hin hown hK hP 0 rfl rfl 6 (by decide) (hts (.fieldLink RX1 17 "TurningSumsModel" "relation" "[I") (by decide +kernel)) (fun _ h9 => h9) rfl dX1_setDegree_224 ?_
                                      refine nv_iconst (pc := 227) (k := 3) hx hb dX1_setDegree_227 rfl ?_
                                      refine nv_iconst (pc := 228) (k := 1) hx hb dX1_setDegree_228 rfl ?_
                                      refine nv_iast (pc := 229) hx hb hK hP hD hS 3 0 rfl rfl (by omega) (by decide) (ws' := (wM ad cI cL (P) (G) (n) ((phN n)) (ix) (hov) ((upd ((upd (rv) (0) (nI (1)))) (3) (nI (1)))) (wk) (tu) (wa) (nx))) rfl dX1_setDegree_229 (fun H locs hP hD hS => ?_)
                                      refine lv_goto (pc := 230) (tgt := 292) hx hb dX1_setDegree_230 (by decide) ?_
                                      refine lv_aload_n (pc := 292) hx hb dX1_setDegree_292 rfl (lv_at hl 0 rfl) ?_
                                      refine va_get (pc := 293) (D := dd) (ci := 1) (v := .ref (ad 3)) (C := RX1) (T := TX1) (N := 11) hx hb hts hin hown hK hP 0 rfl rfl 6 (by decide) (hts (.fieldLink RX1 17 "TurningSumsModel" "relation" "[I") (by decide +kernel)) (fun _ h9 => h9) rfl dX1_setDegree_293 ?_
                                      refine lv_aload_n (pc := 296) hx hb dX1_setDegree_296 rfl (lv_at hl 0 rfl) ?_
                                      refine va_get (pc := 297) (D := dd) (ci := 1) (v := .int (nI ((phN n)))) (C := RX1) (T := TX1) (N := 11) hx hb hts hin hown hK hP 0 rfl rfl 3 (by decide) (hts (.fieldLink RX1 55 "TurningSumsModel" "phi" "I") (by decide +kernel)) (fun _ h9 => h9) rfl dX1_setDegree_297 ?_
                                      refine nv_iconst (pc := 300) (k := 1) hx hb dX1_setDegree_300 rfl ?_
                                      refine nv_iast (pc := 301) hx hb hK hP hD hS 3 0 rfl rfl (by omega) (by decide) (ws' := (wM ad cI cL (P) (G) (n) ((phN n)) (ix) (hov) ((upd ((upd ((upd (rv) (0) (nI (1)))) (3) (nI (1)))) ((phN n)) (nI (1)))) (wk) (tu) (wa) (nx))) rfl dX1_setDegree_301 (fun H locs hP hD hS => ?_)
                                      exact hret _ _ _ _ (hov, (upd ((upd ((upd (rv) (0) (nI (1)))) (3) (nI (1)))) ((phN n)) (nI (1)))) (⟨hho, by first | (have e : n = 1 := (by omega); subst e; exact rl_1 hre) | (have e : n = 9 := (by omega); subst e; exact rl_9 hre) | (have e : n = 12 := (by omega); subst e; exact rl_12 hre) | exact rl_2 hre (by omega) | exact rl_3 hre3 (by omega) | exact rl_6 hre6 (by omega)⟩) hP hD hS dX1_setDegree_302
                                  · skip
                                    refine nv_iconst (pc := 181) (k := 0) hx hb dX1_setDegree_181 rfl ?_
                                    refine lv_istore_n (pc := 182) (lv' := [(2, .int (nI (0))), (0, .ref (ad 0)), (1, .int (nI (n)))]) hx hb dX1_setDegree_182 rfl hl (by decide) rfl (fun ls hl => ?_)
                                    have L183 : ∀ (n9_183 : Nat), ∀ (k3 : Nat) (rw3 : Nat → Int32), 14 - k3 < n9_183 → (k3 ≤ n) → (∀ i, i < 13 → rw3 i = if i < k3 then nI 1 else nI 0) → ∀ (H : Heap) (locs : List Loc) (ls : Array Slot), va_P dd vwCl (wM ad cI cL (P) (G) (n) ((phN n)) (ix) (hov) (rw3) (wk) (tu) (wa) (nx)) H → va_D A (wM ad cI cL (P) (G) (n) ((phN n)) (ix) (hov) (rw3) (wk) (tu) (wa) (nx)) → va_S A s.heap H locs → lv_has ls 3 [(0, .ref (ad 0)), (1, .int (nI (n))), (2, .int (nI (k3)))] → W p l e ({ frames := 1, cells := 0, slots := 0, locals := 24 } : Room) s m args below meth c H locs 0 0 Q (F0 m 183 ls []) := by
                                      intro n9_183
                                      induction n9_183 with
                                      | zero => intro k3 rw3 hm; exact absurd hm (Nat.not_lt_zero _)
                                      | succ n9_183 ih_183 =>
                                        intro k3 rw3 hm_183 hk3 hre3 H locs ls hP hD hS hl
                                        refine lv_iload_n (pc := 183) hx hb dX1_setDegree_183 rfl (lv_at hl 2 rfl) ?_
                                        refine lv_aload_n (pc := 184) hx hb dX1_setDegree_184 rfl (lv_at hl 0 rfl) ?_
                                        refine va_get (pc := 185) (D := dd) (ci := 1) (v := .int (nI (n))) (C := RX1) (T := TX1) (N := 11) hx hb hts hin hown hK hP 0 rfl rfl 2 (by decide) (hts (.fieldLink RX1 52 "TurningSumsModel" "d" "I") (by decide +kernel)) (fun _ h9 => h9) rfl dX1_setDegree_185 ?_
                                        refine nv_icmp_ge (pc := 188) (tgt := 204) hx hb (a := k3) (b := n) (by omega) (by omega) dX1_setDegree_188 (by decide) (fun h188 => ?_) (fun h188 => ?_)
                                        · skip
                                          have hre3 : ∀ i, i < 13 → rw3 i = if i < n then nI 1 else nI 0 := by rw [show k3 = n by omega] at hre3; exact hre3
                                          refine lv_goto (pc := 204) (tgt := 292) hx hb dX1_setDegree_204 (by decide) ?_
                                          refine lv_aload_n (pc := 292) hx hb dX1_setDegree_292 rfl (lv_at hl 0 rfl) ?_
                                          refine va_get (pc := 293) (D := dd) (ci := 1) (v := .ref (ad 3)) (C := RX1) (T := TX1) (N := 11) hx hb hts hin hown hK hP 0 rfl rfl 6 (by decide) (hts (.fieldLink RX1 17 "TurningSumsModel" "relation" "[I") (by decide +kernel)) (fun _ h9 => h9) rfl dX1_setDegree_293 ?_
                                          refine lv_aload_n (pc := 296) hx hb dX1_setDegree_296 rfl (lv_at hl 0 rfl) ?_
                                          refine va_get (pc := 297) (D := dd) (ci := 1) (v := .int (nI ((phN n)))) (C := RX1) (T := TX1) (N := 11) hx hb hts hin hown hK hP 0 rfl rfl 3 (by decide) (hts (.fieldLink RX1 55 "TurningSumsModel" "phi" "I") (by decide +kernel)) (fun _ h9 => h9) rfl dX1_setDegree_297 ?_
                                          refine nv_iconst (pc := 300) (k := 1) hx hb dX1_setDegree_300 rfl ?_
                                          refine nv_iast (pc := 301) hx hb hK hP hD hS 3 0 rfl rfl (by omega) (by decide) (ws' := (wM ad cI cL (P) (G) (n) ((phN n)) (ix) (hov) ((upd (rw3) ((phN n)) (nI (1)))) (wk) (tu) (wa) (nx))) rfl dX1_setDegree_301 (fun H locs hP hD hS => ?_)
                                          exact hret _ _ _ _ (hov, (upd (rw3) ((phN n)) (nI (1)))) (⟨hho, by first | (have e : n = 1 := (by omega); subst e; exact rl_1 hre) | (have e : n = 9 := (by omega); subst e; exact rl_9 hre) | (have e : n = 12 := (by omega); subst e; exact rl_12 hre) | exact rl_2 hre (by omega) | exact rl_3 hre3 (by omega) | exact rl_6 hre6 (by omega)⟩) hP hD hS dX1_setDegree_302
                                        · skip
                                          refine lv_aload_n (pc := 191) hx hb dX1_setDegree_191 rfl (lv_at hl 0 rfl) ?_
                                          refine va_get (pc := 192) (D := dd) (ci := 1) (v := .ref (ad 3)) (C := RX1) (T := TX1) (N := 11) hx hb hts hin hown hK hP 0 rfl rfl 6 (by decide) (hts (.fieldLink RX1 17 "TurningSumsModel" "relation" "[I") (by decide +kernel)) (fun _ h9 => h9) rfl dX1_setDegree_192 ?_
                                          refine lv_iload_n (pc := 195) hx hb dX1_setDegree_195 rfl (lv_at hl 2 rfl) ?_
                                          refine nv_iconst (pc := 196) (k := 1) hx hb dX1_setDegree_196 rfl ?_
                                          refine nv_iast (pc := 197) hx hb hK hP hD hS 3 0 rfl rfl (by omega) (by decide) (ws' := (wM ad cI cL (P) (G) (n) ((phN n)) (ix) (hov) ((upd (rw3) (k3) (nI (1)))) (wk) (tu) (wa) (nx))) rfl dX1_setDegree_197 (fun H locs hP hD hS => ?_)
                                          refine lv_iinc (pc := 198) (v := nI ((k3 + 1))) (lv' := [(2, .int (nI ((k3 + 1)))), (0, .ref (ad 0)), (1, .int (nI (n)))]) hx hb dX1_setDegree_198 hl (k := 2) rfl (nI_inc _) (by decide) rfl (fun ls hl => ?_)
                                          refine lv_goto (pc := 201) (tgt := 183) hx hb dX1_setDegree_201 (by decide) ?_
                                          exact ih_183 ((k3 + 1)) ((upd (rw3) (k3) (nI (1)))) (by omega) (by omega) (updi hre3) _ _ _ hP hD hS (lv_sub hl [1, 2, 0] rfl)
                                    exact L183 _ (0) (rv) (Nat.lt_succ_self _) (by omega) (fun i b => by rw [if_neg (by omega)]; exact hre i b) _ _ _ hP hD hS (lv_sub hl [1, 2, 0] rfl)
                          · skip
                            refine lv_aload_n (pc := 137) hx hb dX1_setDegree_137 rfl (lv_at hl 0 rfl) ?_
                            refine va_get (pc := 138) (D := dd) (ci := 1) (v := .ref (ad 3)) (C := RX1) (T := TX1) (N := 11) hx hb hts hin hown hK hP 0 rfl rfl 6 (by decide) (hts (.fieldLink RX1 17 "TurningSumsModel" "relation" "[I") (by decide +kernel)) (fun _ h9 => h9) rfl dX1_setDegree_138 ?_
                            refine nv_iconst (pc := 141) (k := 0) hx hb dX1_setDegree_141 rfl ?_
                            refine nv_iconst (pc := 142) (k := 1) hx hb dX1_setDegree_142 rfl ?_
                            refine nv_iast (pc := 143) hx hb hK hP hD hS 3 0 rfl rfl (by omega) (by decide) (ws' := (wM ad cI cL (P) (G) (n) ((phN n)) (ix) (hov) ((upd (rv) (0) (nI (1)))) (wk) (tu) (wa) (nx))) rfl dX1_setDegree_143 (fun H locs hP hD hS => ?_)
                            refine lv_goto (pc := 144) (tgt := 292) hx hb dX1_setDegree_144 (by decide) ?_
                            refine lv_aload_n (pc := 292) hx hb dX1_setDegree_292 rfl (lv_at hl 0 rfl) ?_
                            refine va_get (pc := 293) (D := dd) (ci := 1) (v := .ref (ad 3)) (C := RX1) (T := TX1) (N := 11) hx hb hts hin hown hK hP 0 rfl rfl 6 (by decide) (hts (.fieldLink RX1 17 "TurningSumsModel" "relation" "[I") (by decide +kernel)) (fun _ h9 => h9) rfl dX1_setDegree_293 ?_
                            refine lv_aload_n (pc := 296) hx hb dX1_setDegree_296 rfl (lv_at hl 0 rfl) ?_
                            refine va_get (pc := 297) (D := dd) (ci := 1) (v := .int (nI ((phN n)))) (C := RX1) (T := TX1) (N := 11) hx hb hts hin hown hK hP 0 rfl rfl 3 (by decide) (hts (.fieldLink RX1 55 "TurningSumsModel" "phi" "I") (by decide +kernel)) (fun _ h9 => h9) rfl dX1_setDegree_297 ?_
                            refine nv_iconst (pc := 300) (k := 1) hx hb dX1_setDegree_300 rfl ?_
                            refine nv_iast (pc := 301) hx hb hK hP hD hS 3 0 rfl rfl (by omega) (by decide) (ws' := (wM ad cI cL (P) (G) (n) ((phN n)) (ix) (hov) ((upd ((upd (rv) (0) (nI (1)))) ((phN n)) (nI (1)))) (wk) (tu) (wa) (nx))) rfl dX1_setDegree_301 (fun H locs hP hD hS => ?_)
                            exact hret _ _ _ _ (hov, (upd ((upd (rv) (0) (nI (1)))) ((phN n)) (nI (1)))) (⟨hho, by first | (have e : n = 1 := (by omega); subst e; exact rl_1 hre) | (have e : n = 9 := (by omega); subst e; exact rl_9 hre) | (have e : n = 12 := (by omega); subst e; exact rl_12 hre) | exact rl_2 hre (by omega) | exact rl_3 hre3 (by omega) | exact rl_6 hre6 (by omega)⟩) hP hD hS dX1_setDegree_302
                    · skip
                      refine lv_aload_n (pc := 102) hx hb dX1_setDegree_102 rfl (lv_at hl 0 rfl) ?_
                      refine va_get (pc := 103) (D := dd) (ci := 1) (v := .ref (ad 3)) (C := RX1) (T := TX1) (N := 11) hx hb hts hin hown hK hP 0 rfl rfl 6 (by decide) (hts (.fieldLink RX1 17 "TurningSumsModel" "relation" "[I") (by decide +kernel)) (fun _ h9 => h9) rfl dX1_setDegree_103 ?_
                      refine nv_iconst (pc := 106) (k := 0) hx hb dX1_setDegree_106 rfl ?_
                      refine lv_iconst (pc := 107) (v := zI (-1)) hx hb dX1_setDegree_107 rfl ?_
                      refine nv_iast (pc := 108) hx hb hK hP hD hS 3 0 rfl rfl (by omega) (by decide) (ws' := (wM ad cI cL (P) (G) (n) ((phN n)) (ix) (hov) ((upd (rv) (0) (zI ((-1))))) (wk) (tu) (wa) (nx))) rfl dX1_setDegree_108 (fun H locs hP hD hS => ?_)
                      refine lv_goto (pc := 109) (tgt := 292) hx hb dX1_setDegree_109 (by decide) ?_
                      refine lv_aload_n (pc := 292) hx hb dX1_setDegree_292 rfl (lv_at hl 0 rfl) ?_
                      refine va_get (pc := 293) (D := dd) (ci := 1) (v := .ref (ad 3)) (C := RX1) (T := TX1) (N := 11) hx hb hts hin hown hK hP 0 rfl rfl 6 (by decide) (hts (.fieldLink RX1 17 "TurningSumsModel" "relation" "[I") (by decide +kernel)) (fun _ h9 => h9) rfl dX1_setDegree_293 ?_
                      refine lv_aload_n (pc := 296) hx hb dX1_setDegree_296 rfl (lv_at hl 0 rfl) ?_
                      refine va_get (pc := 297) (D := dd) (ci := 1) (v := .int (nI ((phN n)))) (C := RX1) (T := TX1) (N := 11) hx hb hts hin hown hK hP 0 rfl rfl 3 (by decide) (hts (.fieldLink RX1 55 "TurningSumsModel" "phi" "I") (by decide +kernel)) (fun _ h9 => h9) rfl dX1_setDegree_297 ?_
                      refine nv_iconst (pc := 300) (k := 1) hx hb dX1_setDegree_300 rfl ?_
                      refine nv_iast (pc := 301) hx hb hK hP hD hS 3 0 rfl rfl (by omega) (by decide) (ws' := (wM ad cI cL (P) (G) (n) ((phN n)) (ix) (hov) ((upd ((upd (rv) (0) (zI ((-1))))) ((phN n)) (nI (1)))) (wk) (tu) (wa) (nx))) rfl dX1_setDegree_301 (fun H locs hP hD hS => ?_)
                      exact hret _ _ _ _ (hov, (upd ((upd (rv) (0) (zI ((-1))))) ((phN n)) (nI (1)))) (⟨hho, by first | (have e : n = 1 := (by omega); subst e; exact rl_1 hre) | (have e : n = 9 := (by omega); subst e; exact rl_9 hre) | (have e : n = 12 := (by omega); subst e; exact rl_12 hre) | exact rl_2 hre (by omega) | exact rl_3 hre3 (by omega) | exact rl_6 hre6 (by omega)⟩) hP hD hS dX1_setDegree_302
                  · skip
                    refine lv_aload_n (pc := 81) hx hb dX1_setDegree_81 rfl (lv_at hl 0 rfl) ?_
                    refine va_get (pc := 82) (D := dd) (ci := 1) (v := .ref (ad 3)) (C := RX1) (T := TX1) (N := 11) hx hb hts hin hown hK hP 0 rfl rfl 6 (by decide) (hts (.fieldLink RX1 17 "TurningSumsModel" "relation" "[I") (by decide +kernel)) (fun _ h9 => h9) rfl dX1_setDegree_82 ?_
                    refine lv_iload_n (pc := 85) hx hb dX1_setDegree_85 rfl (lv_at hl 2 rfl) ?_
                    refine nv_iconst (pc := 86) (k := 0) hx hb dX1_setDegree_86 rfl ?_
                    refine nv_iast (pc := 87) hx hb hK hP hD hS 3 0 rfl rfl (by omega) (by decide) (ws' := (wM ad cI cL (P) (G) (n) ((phN n)) (ix) (hov) ((upd (rv) (k2) (nI (0)))) (wk) (tu) (wa) (nx))) rfl dX1_setDegree_87 (fun H locs hP hD hS => ?_)
                    refine lv_iinc (pc := 88) (v := nI ((k2 + 1))) (lv' := [(2, .int (nI ((k2 + 1)))), (0, .ref (ad 0)), (1, .int (nI (n)))]) hx hb dX1_setDegree_88 hl (k := 2) rfl (nI_inc _) (by decide) rfl (fun ls hl => ?_)
                    refine lv_goto (pc := 91) (tgt := 75) hx hb dX1_setDegree_91 (by decide) ?_
                    exact ih_75 ((k2 + 1)) ((upd (rv) (k2) (nI (0)))) (by omega) (by omega) (updc hre) _ _ _ hP hD hS (lv_sub hl [1, 2, 0] rfl)
              exact L75 _ (0) (re) (Nat.lt_succ_self _) (by omega) (fun a b => by omega) _ _ _ hP hD hS (lv_sub hl [1, 2, 0] rfl)
            · skip
              refine lv_aload_n (pc := 60) hx hb dX1_setDegree_60 rfl (lv_at hl 0 rfl) ?_
              refine va_get (pc := 61) (D := dd) (ci := 1) (v := .ref (ad 2)) (C := RX1) (T := TX1) (N := 11) hx hb hts hin hown hK hP 0 rfl rfl 5 (by decide) (hts (.fieldLink RX1 13 "TurningSumsModel" "hold" "[J") (by decide +kernel)) (fun _ h9 => h9) rfl dX1_setDegree_61 ?_
              refine lv_iload_n (pc := 64) hx hb dX1_setDegree_64 rfl (lv_at hl 2 rfl) ?_
              refine lv_lconst (pc := 65) (v := zL 0) hx hb dX1_setDegree_65 (by decide) ?_
              refine nv_last (pc := 66) hx hb hK hP hD hS 2 1 rfl rfl (by omega) (by decide) (ws' := (wM ad cI cL (P) (G) (n) ((phN n)) (ix) ((vp_updL (hov) (k) (zL 0))) (re) (wk) (tu) (wa) (nx))) rfl dX1_setDegree_66 (fun H locs hP hD hS => ?_)
              refine lv_iinc (pc := 67) (v := nI ((k + 1))) (lv' := [(2, .int (nI ((k + 1)))), (0, .ref (ad 0)), (1, .int (nI (n)))]) hx hb dX1_setDegree_67 hl (k := 2) rfl (nI_inc _) (by decide) rfl (fun ls hl => ?_)
              refine lv_goto (pc := 70) (tgt := 54) hx hb dX1_setDegree_70 (by decide) ?_
              exact ih_54 ((k + 1)) ((vp_updL (hov) (k) (zL 0))) (by omega) (by omega) (updcL hho) _ _ _ hP hD hS (lv_sub hl [1, 2, 0] rfl)
        exact L54 _ (0) (ho) (Nat.lt_succ_self _) (by omega) (fun a b => by omega) _ _ _ hP hD hS (lv_sub hl [1, 2, 0] rfl)
      · skip
        refine lv_aload_n (pc := 20) hx hb dX1_setDegree_20 rfl (lv_at hl 0 rfl) ?_
        refine lv_dup (pc := 21) hx hb dX1_setDegree_21 rfl ?_
        refine va_get (pc := 22) (D := dd) (ci := 1) (v := .int (nI ((phC n j)))) (C := RX1) (T := TX1) (N := 11) hx hb hts hin hown hK hP 0 rfl rfl 3 (by decide) (hts (.fieldLink RX1 55 "TurningSumsModel" "phi" "I") (by decide +kernel)) (fun _ h9 => h9) rfl dX1_setDegree_22 ?_
        refine lv_iload_n (pc := 25) hx hb dX1_setDegree_25 rfl (lv_at hl 2 rfl) ?_
        refine lv_aload_n (pc := 26) hx hb dX1_setDegree_26 rfl (lv_at hl 0 rfl) ?_
        refine va_get (pc := 27) (D := dd) (ci := 1) (v := .int (nI (n))) (C := RX1) (T := TX1) (N := 11) hx hb hts hin hown hK hP 0 rfl rfl 2 (by decide) (hts (.fieldLink RX1 52 "TurningSumsModel" "d" "I") (by decide +kernel)) (fun _ h9 => h9) rfl dX1_setDegree_27 ?_
        refine CTi_S0 (pc := 30) am_no_ok (As := [.int (nI ((j + 1))), .int (nI (n))]) (rest := [.int (nI ((phC n j))), .ref (ad 0)]) ⟨hx, hb, hml, hown, hts⟩ (c_X1_common l dd (by omega) (by omega)) (va_cwS 2 hts gX1_setDegree_X1_common rfl rfl rfl (by decide +kernel) ⟨Nat.le_of_ble_eq_true rfl, Nat.le_of_ble_eq_true rfl⟩) hK hP hD hS hA hX rfl hl.1 rfl (Nat.le_of_ble_eq_true rfl) ⟨Nat.zero_le _, Nat.zero_le _⟩ dX1_setDegree_30 (fun r u H locs hw hP hD hS => ?_)
        try dsimp only at hw
        subst hw
        refine nv_iconst (pc := 33) (k := 1) hx hb dX1_setDegree_33 rfl ?_
        refine nv_icmp_ne (pc := 34) (tgt := 41) hx hb (a := (Nat.gcd ((j + 1)) (n))) (b := 1) (by omega) (by omega) dX1_setDegree_34 (by decide) (fun h34 => ?_) (fun h34 => ?_)
        · skip
          refine nv_iconst (pc := 41) (k := 0) hx hb dX1_setDegree_41 rfl ?_
          refine nv_iadd (pc := 42) hx hb dX1_setDegree_42 ?_
          refine va_put (pc := 43) (D := dd) (ci := 1) (v := .int (nI (((phC n j) + 0)))) (ty := .int) (C := RX1) (T := TX1) (N := 11) hx hb hts hin tyX1 tyX1_ok nmX1 hown hK hP hD hS 0 rfl rfl 3 (by decide) (hts (.fieldLink RX1 55 "TurningSumsModel" "phi" "I") (by decide +kernel)) (fun _ h9 => h9) rfl (by decide +kernel) rfl rfl (Nat.le_of_ble_eq_true rfl) dX1_setDegree_43 (fun H locs hP hD hS => ?_)
          have hP : va_P dd vwCl (wM ad cI cL (P) (G) (n) (((phC n j) + 0)) (ix) (ho) (re) (wk) (tu) (wa) (nx)) H := hP
          have hD : va_D A (wM ad cI cL (P) (G) (n) (((phC n j) + 0)) (ix) (ho) (re) (wk) (tu) (wa) (nx)) := hD
          refine lv_iinc (pc := 46) (v := nI (((j + 1) + 1))) (lv' := [(2, .int (nI (((j + 1) + 1)))), (0, .ref (ad 0)), (1, .int (nI (n)))]) hx hb dX1_setDegree_46 hl (k := 2) rfl (nI_inc _) (by decide) rfl (fun ls hl => ?_)
          refine lv_goto (pc := 49) (tgt := 12) hx hb dX1_setDegree_49 (by decide) ?_
          have e9 : ((phC n j) + 0) = (phC n (j + 1)) := ph_g0 h34
          rw [e9] at hP hD
          have hP : va_P dd vwCl (wM ad cI cL (P) (G) (n) ((phC n (j + 1))) (ix) (ho) (re) (wk) (tu) (wa) (nx)) H := hP
          have hD : va_D A (wM ad cI cL (P) (G) (n) ((phC n (j + 1))) (ix) (ho) (re) (wk) (tu) (wa) (nx)) := hD
          exact ih_12 (j + 1) (by omega) (by omega) _ _ _ hP hD hS (lv_sub hl [1, 2, 0] rfl)
        · skip
          refine nv_iconst (pc := 37) (k := 1) hx hb dX1_setDegree_37 rfl ?_
          refine lv_goto (pc := 38) (tgt := 42) hx hb dX1_setDegree_38 (by decide) ?_
          refine nv_iadd (pc := 42) hx hb dX1_setDegree_42 ?_
          refine va_put (pc := 43) (D := dd) (ci := 1) (v := .int (nI (((phC n j) + 1)))) (ty := .int) (C := RX1) (T := TX1) (N := 11) hx hb hts hin tyX1 tyX1_ok nmX1 hown hK hP hD hS 0 rfl rfl 3 (by decide) (hts (.fieldLink RX1 55 "TurningSumsModel" "phi" "I") (by decide +kernel)) (fun _ h9 => h9) rfl (by decide +kernel) rfl rfl (Nat.le_of_ble_eq_true rfl) dX1_setDegree_43 (fun H locs hP hD hS => ?_)
          have hP : va_P dd vwCl (wM ad cI cL (P) (G) (n) (((phC n j) + 1)) (ix) (ho) (re) (wk) (tu) (wa) (nx)) H := hP
          have hD : va_D A (wM ad cI cL (P) (G) (n) (((phC n j) + 1)) (ix) (ho) (re) (wk) (tu) (wa) (nx)) := hD
          refine lv_iinc (pc := 46) (v := nI (((j + 1) + 1))) (lv' := [(2, .int (nI (((j + 1) + 1)))), (0, .ref (ad 0)), (1, .int (nI (n)))]) hx hb dX1_setDegree_46 hl (k := 2) rfl (nI_inc _) (by decide) rfl (fun ls hl => ?_)
          refine lv_goto (pc := 49) (tgt := 12) hx hb dX1_setDegree_49 (by decide) ?_
          have e9 : ((phC n j) + 1) = (phC n (j + 1)) := ph_g1 (by omega)
          rw [e9] at hP hD
          have hP : va_P dd vwCl (wM ad cI cL (P) (G) (n) ((phC n (j + 1))) (ix) (ho) (re) (wk) (tu) (wa) (nx)) H := hP
          have hD : va_D A (wM ad cI cL (P) (G) (n) ((phC n (j + 1))) (ix) (ho) (re) (wk) (tu) (wa) (nx)) := hD
          exact ih_12 (j + 1) (by omega) (by omega) _ _ _ hP hD hS (lv_sub hl [1, 2, 0] rfl)
  exact L12 _ (0) (Nat.lt_succ_self _) (by omega) _ _ _ hP hD hS (lv_sub hl [1, 2, 0] rfl)
set_option maxHeartbeats 4000000 in
set_option maxRecDepth 100000 in
theorem c_X1_begin (l : Launch) (dd : va_G) {ad : Nat → Nat} {cI cL cQ : ClassId}  {P : Nat} {G : Nat} {D : Nat} {F : Nat} {ix : Nat → Int32} {ho : Nat → Int64} {re : Nat → Int32} {wk : Nat → Int64} {tu : Nat → Int64} {wa : Nat → Int64} {nx : Nat → Int64} {q : Nat} (hq : okP q) : CTv l yX1_begin wsX1_begin ({ frames := 2, cells := 0, slots := 0, locals := 46 } : Room) dd (tysA cI cL cQ) (am_no) [.ref (ad 0), .int (nI (q))] (wM ad cI cL (P) (G) (D) (F) (ix) (ho) (re) (wk) (tu) (wa) (nx)) (fun (u : (Nat → Int32) × (Nat → Int64) × (Nat → Int32)) => (∀ y, 1 ≤ y → y < q → u.1 y = nI (ixN q y)) ∧ (∀ k, k < 72 → u.2.1 k = zL 0) ∧ ∀ i, i < 13 → u.2.2 i = zI (relM 2 i)) (fun (u : (Nat → Int32) × (Nat → Int64) × (Nat → Int32)) => (wM ad cI cL (q) ((rootN q)) (2) ((phN 2)) (u.1) (u.2.1) (u.2.2) (wk) (tu) (wa) (nx))) := by
  refine CTv_of (cc := cX1_begin) (maxL := 4) (by decide +kernel) rfl (Nat.le_of_ble_eq_true rfl) ?_
  intro p e s m args below meth c A Q ls H locs hx hb hts hown hml hP hK hD hS hA hX hl hret
  have hin : ∀ w ∈ wsX10, w ∈ wsX1_begin := by decide +kernel
  have hl : lv_has ls 4 [(0, .ref (ad 0)), (1, .int (nI (q)))] := hl
  obtain ⟨o1, o2, o3, o4, o5, o6⟩ := id hq
  refine lv_aload_n (pc := 0) hx hb dX1_begin_0 rfl (lv_at hl 0 rfl) ?_
  refine lv_iload_n (pc := 1) hx hb dX1_begin_1 rfl (lv_at hl 1 rfl) ?_
  refine va_put (pc := 2) (D := dd) (ci := 1) (v := .int (nI (q))) (ty := .int) (C := RX1) (T := TX1) (N := 11) hx hb hts hin tyX1 tyX1_ok nmX1 hown hK hP hD hS 0 rfl rfl 0 (by decide) (hts (.fieldLink RX1 42 "TurningSumsModel" "p" "I") (by decide +kernel)) (fun _ h9 => h9) rfl (by decide +kernel) rfl rfl (Nat.le_of_ble_eq_true rfl) dX1_begin_2 (fun H locs hP hD hS => ?_)
  have hP : va_P dd vwCl (wM ad cI cL (q) (G) (D) (F) (ix) (ho) (re) (wk) (tu) (wa) (nx)) H := hP
  have hD : va_D A (wM ad cI cL (q) (G) (D) (F) (ix) (ho) (re) (wk) (tu) (wa) (nx)) := hD
  refine lv_aload_n (pc := 5) hx hb dX1_begin_5 rfl (lv_at hl 0 rfl) ?_
  refine nv_iconst (pc := 6) (k := 1) hx hb dX1_begin_6 rfl ?_
  refine va_put (pc := 7) (D := dd) (ci := 1) (v := .int (nI (1))) (ty := .int) (C := RX1) (T := TX1) (N := 11) hx hb hts hin tyX1 tyX1_ok nmX1 hown hK hP hD hS 0 rfl rfl 1 (by decide) (hts (.fieldLink RX1 46 "TurningSumsModel" "root" "I") (by decide +kernel)) (fun _ h9 => h9) rfl (by decide +kernel) rfl rfl (Nat.le_of_ble_eq_true rfl) dX1_begin_7 (fun H locs hP hD hS => ?_)
  have hP : va_P dd vwCl (wM ad cI cL (q) (1) (D) (F) (ix) (ho) (re) (wk) (tu) (wa) (nx)) H := hP
  have hD : va_D A (wM ad cI cL (q) (1) (D) (F) (ix) (ho) (re) (wk) (tu) (wa) (nx)) := hD
  refine nv_iconst (pc := 10) (k := 0) hx hb dX1_begin_10 rfl ?_
  refine lv_istore_n (pc := 11) (lv' := [(2, .int (nI (0))), (0, .ref (ad 0)), (1, .int (nI (q)))]) hx hb dX1_begin_11 rfl hl (by decide) rfl (fun ls hl => ?_)
  have L12 : ∀ (n9_12 : Nat), ∀ (f : Nat) (g : Nat) (ixv : Nat → Int32), rootN q + 1 - g < n9_12 → (1 ≤ g ∧ g ≤ rootN q ∧ f ≤ q - 1) → (g < rootN q → f < q - 1) → (g = rootN q → f = q - 1 ∧ ∀ y, 1 ≤ y → y < q → ixv y = nI (ixN q y)) → ∀ (H : Heap) (locs : List Loc) (ls : Array Slot), va_P dd vwCl (wM ad cI cL (q) (g) (D) (F) (ixv) (ho) (re) (wk) (tu) (wa) (nx)) H → va_D A (wM ad cI cL (q) (g) (D) (F) (ixv) (ho) (re) (wk) (tu) (wa) (nx)) → va_S A s.heap H locs → lv_has ls 4 [(0, .ref (ad 0)), (1, .int (nI (q))), (2, .int (nI (f)))] → W p l e ({ frames := 2, cells := 0, slots := 0, locals := 46 } : Room) s m args below meth c H locs 0 0 Q (F0 m 12 ls []) := by
    intro n9_12
    induction n9_12 with
    | zero => intro f g ixv hm; exact absurd hm (Nat.not_lt_zero _)
    | succ n9_12 ih_12 =>
      intro f g ixv hm_12 hg hf hG H locs ls hP hD hS hl
      refine lv_iload_n (pc := 12) hx hb dX1_begin_12 rfl (lv_at hl 2 rfl) ?_
      refine lv_aload_n (pc := 13) hx hb dX1_begin_13 rfl (lv_at hl 0 rfl) ?_
      refine va_get (pc := 14) (D := dd) (ci := 1) (v := .int (nI (q))) (C := RX1) (T := TX1) (N := 11) hx hb hts hin hown hK hP 0 rfl rfl 0 (by decide) (hts (.fieldLink RX1 42 "TurningSumsModel" "p" "I") (by decide +kernel)) (fun _ h9 => h9) rfl dX1_begin_14 ?_
      refine nv_iconst (pc := 17) (k := 1) hx hb dX1_begin_17 rfl ?_
      refine nv_isub (pc := 18) hx hb (by omega) dX1_begin_18 ?_
      refine nv_icmp_ge (pc := 19) (tgt := 96) hx hb (a := f) (b := (q - 1)) (by omega) (by omega) dX1_begin_19 (by decide) (fun h19 => ?_) (fun h19 => ?_)
      · skip
        have e8 : g = rootN q := (by have := hf; omega)
        have e9 : g = (rootN q) := e8
        rw [e9] at hP hD
        have hP : va_P dd vwCl (wM ad cI cL (q) ((rootN q)) (D) (F) (ixv) (ho) (re) (wk) (tu) (wa) (nx)) H := hP
        have hD : va_D A (wM ad cI cL (q) ((rootN q)) (D) (F) (ixv) (ho) (re) (wk) (tu) (wa) (nx)) := hD
        refine lv_aload_n (pc := 96) hx hb dX1_begin_96 rfl (lv_at hl 0 rfl) ?_
        refine nv_iconst (pc := 97) (k := 2) hx hb dX1_begin_97 rfl ?_
        refine CTv_Vw (pc := 98) am_no_ok (As := [.int (nI (2))]) (rest := []) ⟨hx, hb, hml, hown, hts⟩ (c_X1_setDegree l dd (by omega) (by omega)) (cwV 1 hts gX1_begin_X1_setDegree rfl rfl rfl (by decide +kernel) ⟨Nat.le_of_ble_eq_true rfl, Nat.le_of_ble_eq_true rfl⟩) hK hP hD hS hA hX hK 0 1 rfl rfl rfl rfl hl.1 rfl (Nat.le_of_ble_eq_true rfl) ⟨Nat.zero_le _, Nat.zero_le _⟩ dX1_begin_98 (fun u H locs hw hP hD hS => ?_)
        try dsimp only at hw
        obtain ⟨ho98, re98, e9⟩ : ∃ z z2, (z, z2) = u := ⟨_, _, rfl⟩
        rw [← e9] at hw hP hD
        have hw98 := hw
        have hP : va_P dd vwCl (wM ad cI cL (q) ((rootN q)) (2) ((phN (2))) (ixv) (ho98) (re98) (wk) (tu) (wa) (nx)) H := hP
        have hD : va_D A (wM ad cI cL (q) ((rootN q)) (2) ((phN (2))) (ixv) (ho98) (re98) (wk) (tu) (wa) (nx)) := hD
        exact hret _ _ _ _ (ixv, ho98, re98) (⟨(hG e8).2, hw98⟩) hP hD hS dX1_begin_101
      · skip
        refine lv_aload_n (pc := 22) hx hb dX1_begin_22 rfl (lv_at hl 0 rfl) ?_
        refine lv_dup (pc := 23) hx hb dX1_begin_23 rfl ?_
        refine va_get (pc := 24) (D := dd) (ci := 1) (v := .int (nI (g))) (C := RX1) (T := TX1) (N := 11) hx hb hts hin hown hK hP 0 rfl rfl 1 (by decide) (hts (.fieldLink RX1 46 "TurningSumsModel" "root" "I") (by decide +kernel)) (fun _ h9 => h9) rfl dX1_begin_24 ?_
        refine nv_iconst (pc := 27) (k := 1) hx hb dX1_begin_27 rfl ?_
        refine nv_iadd (pc := 28) hx hb dX1_begin_28 ?_
        refine va_put (pc := 29) (D := dd) (ci := 1) (v := .int (nI ((g + 1)))) (ty := .int) (C := RX1) (T := TX1) (N := 11) hx hb hts hin tyX1 tyX1_ok nmX1 hown hK hP hD hS 0 rfl rfl 1 (by decide) (hts (.fieldLink RX1 46 "TurningSumsModel" "root" "I") (by decide +kernel)) (fun _ h9 => h9) rfl (by decide +kernel) rfl rfl (Nat.le_of_ble_eq_true rfl) dX1_begin_29 (fun H locs hP hD hS => ?_)
        have hP : va_P dd vwCl (wM ad cI cL (q) ((g + 1)) (D) (F) (ixv) (ho) (re) (wk) (tu) (wa) (nx)) H := hP
        have hD : va_D A (wM ad cI cL (q) ((g + 1)) (D) (F) (ixv) (ho) (re) (wk) (tu) (wa) (nx)) := hD
        refine nv_iconst (pc := 32) (k := 0) hx hb dX1_begin_32 rfl ?_
        refine lv_istore_n (pc := 33) (lv' := [(3, .int (nI (0))), (0, .ref (ad 0)), (1, .int (nI (q))), (2, .int (nI (f)))]) hx hb dX1_begin_33 rfl hl (by decide) rfl (fun ls hl => ?_)
        have L34 : ∀ (n9_34 : Nat), ∀ (x3 : Nat) (ixw : Nat → Int32), 201 - x3 < n9_34 → (x3 ≤ 200) → (∀ k, k < x3 → ixw k = zI (-1)) → ∀ (H : Heap) (locs : List Loc) (ls : Array Slot), va_P dd vwCl (wM ad cI cL (q) ((g + 1)) (D) (F) (ixw) (ho) (re) (wk) (tu) (wa) (nx)) H → va_D A (wM ad cI cL (q) ((g + 1)) (D) (F) (ixw) (ho) (re) (wk) (tu) (wa) (nx)) → va_S A s.heap H locs → lv_has ls 4 [(0, .ref (ad 0)), (1, .int (nI (q))), (2, .int (nI (f))), (3, .int (nI (x3)))] → W p l e ({ frames := 2, cells := 0, slots := 0, locals := 46 } : Room) s m args below meth c H locs 0 0 Q (F0 m 34 ls []) := by
          intro n9_34
          induction n9_34 with
          | zero => intro x3 ixw hm; exact absurd hm (Nat.not_lt_zero _)
          | succ n9_34 ih_34 =>
            intro x3 ixw hm_34 hx3 hw3 H locs ls hP hD hS hl
            refine lv_iload_n (pc := 34) hx hb dX1_begin_34 rfl (lv_at hl 3 rfl) ?_
            refine nv_sipush (pc := 35) (k := 200) hx hb dX1_begin_35 rfl (by decide) ?_
            refine nv_icmp_ge (pc := 38) (tgt := 54) hx hb (a := x3) (b := 200) (by omega) (by omega) dX1_begin_38 (by decide) (fun h38 => ?_) (fun h38 => ?_)
            · skip
              refine nv_iconst (pc := 54) (k := 0) hx hb dX1_begin_54 rfl ?_
              refine lv_istore_n (pc := 55) (lv' := [(2, .int (nI (0))), (0, .ref (ad 0)), (1, .int (nI (q))), (3, .int (nI (x3)))]) hx hb dX1_begin_55 rfl hl (by decide) rfl (fun ls hl => ?_)
              refine nv_iconst (pc := 56) (k := 1) hx hb dX1_begin_56 rfl ?_
              refine lv_istore_n (pc := 57) (lv' := [(3, .int (nI (1))), (2, .int (nI (0))), (0, .ref (ad 0)), (1, .int (nI (q)))]) hx hb dX1_begin_57 rfl hl (by decide) rfl (fun ls hl => ?_)
              have hgl : g < rootN q := (by have := hG; omega)
              obtain ⟨o, ho1, ho2, ho3, ho4⟩ := bg_or hq hg.1 hgl
              have hl : lv_has ls 4 [(3, .int (nI (((g + 1) ^ 0 % q)))), (2, .int (nI (0))), (0, .ref (ad 0)), (1, .int (nI (q)))] := by
                have e9 : nI (1) = nI (((g + 1) ^ 0 % q)) := by rw [Nat.pow_zero, Nat.mod_eq_of_lt (by omega)]
                rw [← e9]
                exact hl
              have L58 : ∀ (n9_58 : Nat), ∀ (k : Nat) (ixu : Nat → Int32), o + 1 - k < n9_58 → (k ≤ o) → (∀ j, j < k → ixu ((g + 1) ^ j % q) = nI j) → (∀ y, y < 200 → (∀ j, j < k → (g + 1) ^ j % q ≠ y) → ixu y = zI (-1)) → ∀ (H : Heap) (locs : List Loc) (ls : Array Slot), va_P dd vwCl (wM ad cI cL (q) ((g + 1)) (D) (F) (ixu) (ho) (re) (wk) (tu) (wa) (nx)) H → va_D A (wM ad cI cL (q) ((g + 1)) (D) (F) (ixu) (ho) (re) (wk) (tu) (wa) (nx)) → va_S A s.heap H locs → lv_has ls 4 [(0, .ref (ad 0)), (1, .int (nI (q))), (2, .int (nI (k))), (3, .int (nI (((g + 1) ^ k % q))))] → W p l e ({ frames := 2, cells := 0, slots := 0, locals := 46 } : Room) s m args below meth c H locs 0 0 Q (F0 m 58 ls []) := by
                intro n9_58
                induction n9_58 with
                | zero => intro k ixu hm; exact absurd hm (Nat.not_lt_zero _)
                | succ n9_58 ih_58 =>
                  intro k ixu hm_58 hk hi hn9 H locs ls hP hD hS hl
                  have hm := Nat.mod_lt ((g + 1) ^ k) (show 0 < q by omega)
                  refine lv_aload_n (pc := 58) hx hb dX1_begin_58 rfl (lv_at hl 0 rfl) ?_
                  refine va_get (pc := 59) (D := dd) (ci := 1) (v := .ref (ad 1)) (C := RX1) (T := TX1) (N := 11) hx hb hts hin hown hK hP 0 rfl rfl 4 (by decide) (hts (.fieldLink RX1 7 "TurningSumsModel" "index" "[I") (by decide +kernel)) (fun _ h9 => h9) rfl dX1_begin_59 ?_
                  refine lv_iload_n (pc := 62) hx hb dX1_begin_62 rfl (lv_at hl 3 rfl) ?_
                  refine nv_iald (pc := 63) hx hb hK hP 1 0 rfl rfl (i := ((g + 1) ^ k % q)) (by omega) (by decide) (v := ((ixu) (((g + 1) ^ k % q)))) (rfl) dX1_begin_63 ?_
                  refine lv_iconst (pc := 64) (v := zI (-1)) hx hb dX1_begin_64 rfl ?_
                  refine lv_icmp_ne (pc := 65) (tgt := 93) hx hb dX1_begin_65 (by decide) (fun h65 => ?_) (fun h65 => ?_)
                  · skip
                    refine lv_goto (pc := 93) (tgt := 12) hx hb dX1_begin_93 (by decide) ?_
                    exact ih_12 (k) ((g + 1)) (ixu) (by omega) (by omega) (fun z => by have := ho4 z; omega) (fun z => bg_out hq z (by omega) hi hn9 h65) _ _ _ hP hD hS (lv_sub hl [0, 1, 2] rfl)
                  · skip
                    refine lv_aload_n (pc := 68) hx hb dX1_begin_68 rfl (lv_at hl 0 rfl) ?_
                    refine va_get (pc := 69) (D := dd) (ci := 1) (v := .ref (ad 1)) (C := RX1) (T := TX1) (N := 11) hx hb hts hin hown hK hP 0 rfl rfl 4 (by decide) (hts (.fieldLink RX1 7 "TurningSumsModel" "index" "[I") (by decide +kernel)) (fun _ h9 => h9) rfl dX1_begin_69 ?_
                    refine lv_iload_n (pc := 72) hx hb dX1_begin_72 rfl (lv_at hl 3 rfl) ?_
                    refine lv_iload_n (pc := 73) hx hb dX1_begin_73 rfl (lv_at hl 2 rfl) ?_
                    refine nv_iast (pc := 74) hx hb hK hP hD hS 1 0 rfl rfl (by omega) (by decide) (ws' := (wM ad cI cL (q) ((g + 1)) (D) (F) ((upd (ixu) (((g + 1) ^ k % q)) (nI (k)))) (ho) (re) (wk) (tu) (wa) (nx))) rfl dX1_begin_74 (fun H locs hP hD hS => ?_)
                    refine lv_iinc (pc := 75) (v := nI ((k + 1))) (lv' := [(2, .int (nI ((k + 1)))), (0, .ref (ad 0)), (1, .int (nI (q))), (3, .int (nI (((g + 1) ^ k % q))))]) hx hb dX1_begin_75 hl (k := 2) rfl (nI_inc _) (by decide) rfl (fun ls hl => ?_)
                    refine lv_iload_n (pc := 78) hx hb dX1_begin_78 rfl (lv_at hl 3 rfl) ?_
                    refine lv_aload_n (pc := 79) hx hb dX1_begin_79 rfl (lv_at hl 1 rfl) ?_
                    refine va_get (pc := 80) (D := dd) (ci := 1) (v := .int (nI ((g + 1)))) (C := RX1) (T := TX1) (N := 11) hx hb hts hin hown hK hP 0 rfl rfl 1 (by decide) (hts (.fieldLink RX1 46 "TurningSumsModel" "root" "I") (by decide +kernel)) (fun _ h9 => h9) rfl dX1_begin_80 ?_
                    refine nv_imul (pc := 83) hx hb dX1_begin_83 ?_
                    refine lv_aload_n (pc := 84) hx hb dX1_begin_84 rfl (lv_at hl 1 rfl) ?_
                    refine va_get (pc := 85) (D := dd) (ci := 1) (v := .int (nI (q))) (C := RX1) (T := TX1) (N := 11) hx hb hts hin hown hK hP 0 rfl rfl 0 (by decide) (hts (.fieldLink RX1 42 "TurningSumsModel" "p" "I") (by decide +kernel)) (fun _ h9 => h9) rfl dX1_begin_85 ?_
                    refine nv_irem (pc := 88) hx hb (mul_b o2 hm (by omega)) (by omega) (by omega) dX1_begin_88 ?_
                    refine tq_i (y := nI (((g + 1) ^ (k + 1) % q))) (by rw [pw_step]) ?_
                    refine lv_istore_n (pc := 89) (lv' := [(3, .int (nI (((g + 1) ^ (k + 1) % q)))), (2, .int (nI ((k + 1)))), (0, .ref (ad 0)), (1, .int (nI (q)))]) hx hb dX1_begin_89 rfl hl (by decide) rfl (fun ls hl => ?_)
                    refine lv_goto (pc := 90) (tgt := 58) hx hb dX1_begin_90 (by decide) ?_
                    exact ih_58 ((k + 1)) ((upd (ixu) (((g + 1) ^ k % q)) (nI (k)))) (by have := bg_lt o1 hk ho3 ho1 hi h65; omega) (by have := bg_lt o1 hk ho3 ho1 hi h65; omega) (bg_hi (by omega) hi h65) (bg_hn hn9) _ _ _ hP hD hS (lv_sub hl [2, 3, 1, 0] rfl)
              exact L58 _ (0) (ixw) (Nat.lt_succ_self _) (by omega) (fun j a => by omega) (fun y a b => hw3 y (by omega)) _ _ _ hP hD hS (lv_sub hl [2, 3, 1, 0] rfl)
            · skip
              refine lv_aload_n (pc := 41) hx hb dX1_begin_41 rfl (lv_at hl 0 rfl) ?_
              refine va_get (pc := 42) (D := dd) (ci := 1) (v := .ref (ad 1)) (C := RX1) (T := TX1) (N := 11) hx hb hts hin hown hK hP 0 rfl rfl 4 (by decide) (hts (.fieldLink RX1 7 "TurningSumsModel" "index" "[I") (by decide +kernel)) (fun _ h9 => h9) rfl dX1_begin_42 ?_
              refine lv_iload_n (pc := 45) hx hb dX1_begin_45 rfl (lv_at hl 3 rfl) ?_
              refine lv_iconst (pc := 46) (v := zI (-1)) hx hb dX1_begin_46 rfl ?_
              refine nv_iast (pc := 47) hx hb hK hP hD hS 1 0 rfl rfl (by omega) (by decide) (ws' := (wM ad cI cL (q) ((g + 1)) (D) (F) ((upd (ixw) (x3) (zI ((-1))))) (ho) (re) (wk) (tu) (wa) (nx))) rfl dX1_begin_47 (fun H locs hP hD hS => ?_)
              refine lv_iinc (pc := 48) (v := nI ((x3 + 1))) (lv' := [(3, .int (nI ((x3 + 1)))), (0, .ref (ad 0)), (1, .int (nI (q))), (2, .int (nI (f)))]) hx hb dX1_begin_48 hl (k := 3) rfl (nI_inc _) (by decide) rfl (fun ls hl => ?_)
              refine lv_goto (pc := 51) (tgt := 34) hx hb dX1_begin_51 (by decide) ?_
              exact ih_34 ((x3 + 1)) ((upd (ixw) (x3) (zI ((-1))))) (by omega) (by omega) (updc hw3) _ _ _ hP hD hS (lv_sub hl [1, 2, 3, 0] rfl)
        exact L34 _ (0) (ixv) (Nat.lt_succ_self _) (by omega) (fun k a => by omega) _ _ _ hP hD hS (lv_sub hl [1, 2, 3, 0] rfl)
  exact L12 _ (0) (1) (ix) (Nat.lt_succ_self _) (by omega) (fun z => by omega) (fun z => by omega) _ _ _ hP hD hS (lv_sub hl [1, 2, 0] rfl)
