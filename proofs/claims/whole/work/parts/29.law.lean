/-! THE LAW -/
theorem rX_start {args : Array Value} {s : State} (hgv : (Jvm.Cond.and given_1 narrow_1).before args s = true) (hl : (Cond.laysStatic "TurningSums" "RELATIONS" "[I").before args s = true) (hi : (Cond.initialized "TurningSums").before args s = true) : ∃ tR : Nat, rX tR (fun q : Nat => s.heap.size ≤ q) s s.heap := by
  have hs := flat_of_before _ hgv
  have hA : ∀ a : Nat, a < s.heap.size → ¬ (fun q : Nat => s.heap.size ≤ q) a := fun a h => Nat.not_le.mpr h
  have hin : ∀ j, j < 120 → Cond.eq (.elem (.static "TurningSums" "RELATIONS" "[I") (.int (Int32.ofNat j))) (.int (zI (relC j))) ∈ flatC (Jvm.Cond.and given_1 narrow_1) := by decide +kernel
  obtain ⟨t, h1, h2⟩ := va_Tof (tm := .static "TurningSums" "RELATIONS" "[I") (ty := .int) (N := 120) (f := fun j => .int (zI (relC j))) (A := fun q : Nat => s.heap.size ≤ q) (by decide) (hs _ (by decide +kernel)) (va_eqt (hs (Cond.eq (.length (.static "TurningSums" "RELATIONS" "[I")) (.int 120)) (by decide +kernel))) (fun j hj => va_eqt (hs _ (hin j hj))) hA
  exact ⟨t, va_Zof hl hi h1 hA, h2⟩
set_option maxHeartbeats 40000000 in
set_option maxRecDepth 100000 in
theorem law_from {p : Program} {e : Env} {s : State} {m : MethodId} {below : List Frame} {meth : Method} {c : Code} (l : Launch) {b Ln : Nat} {xs : Nat → Int32} (hLn : Ln ≤ 2560) (C0 : lw_At p s m meth c b Ln xs) (dd : va_G) {ad bd : Nat → Nat} {cI cL cQ : ClassId} {tR : Nat} {A : Nat → Prop} (hAd : ∀ q, A q → s.heap.size ≤ q) (hA : ∀ q, s.heap.size ≤ q → A q) (hX : rX tR A s s.heap) (hK : va_K dd vwCl (tysA cI cL cQ) s) {P0 : Nat} {D0 : Nat} {ix0 : Nat → Int32} {pw0 : Nat → Int32} {sg0 : Nat → Int32} {tm0 : Nat → Int32} {hd0 : Nat → Nat → Int32} {wk0 : Nat → Int64} {rc0 : Nat → Int64} {lc0 : Nat → Int64} {ix20 : Nat → Int32} {ho0 : Nat → Int64} {re0 : Nat → Int32} {wk20 : Nat → Int64} {tu0 : Nat → Int64} {wa0 : Nat → Int64} {nx0 : Nat → Int64} {hv0 : Nat → Nat → Int32} (hs0 : okS P0 D0 hv0 ix0 pw0 hd0 ix20 ho0 re0)
    {H : Heap} {locs : List Loc} {ls : Array Slot} (hP : va_P dd vwCl (wC ad cI cL cQ (ix0) (pw0) (sg0) (tm0) (hd0) (wk0) (rc0) (lc0) (P0) (rootN (P0)) (D0) (phN (D0)) ++ wM bd cI cL (P0) (rootN (P0)) (D0) (phN (D0)) (ix20) (ho0) (re0) (wk20) (tu0) (wa0) (nx0)) H) (hD : va_D A (wC ad cI cL cQ (ix0) (pw0) (sg0) (tm0) (hd0) (wk0) (rc0) (lc0) (P0) (rootN (P0)) (D0) (phN (D0)) ++ wM bd cI cL (P0) (rootN (P0)) (D0) (phN (D0)) (ix20) (ho0) (re0) (wk20) (tu0) (wa0) (nx0))) (hS : va_S A s.heap H locs) (hl : lv_has ls 4 [(3, .int (nI (0))), (0, .ref (b)), (1, .ref (ad 0)), (2, .ref (bd 0))]) : W p l e room_1 s m #[Value.ref b] below meth c H locs 23 1654 (lw_Z below #[Value.ref b] s) (F0 m 18 ls []) := by
  obtain ⟨hx, hb, hr, hml, hown0, hts0, hXs, hbl, hlocks, hgv⟩ := id C0
  have hown : s.vm.findClass RL = some m.cls := hown0
  have hts : ∀ w ∈ wsL_law, w.before #[Value.ref b] s = true := fun w h => hts0 w (wsL_law_in w h)
  have hbA : ¬ A b := fun q => absurd (hAd b q) (Nat.not_le.mpr hbl)
  have L18 : ∀ (n9_18 : Nat), ∀ (i : Nat) (P : Nat) (D : Nat) (ix : Nat → Int32) (pw : Nat → Int32) (sg : Nat → Int32) (tm : Nat → Int32) (hd : Nat → Nat → Int32) (wk : Nat → Int64) (rc : Nat → Int64) (lc : Nat → Int64) (ix2 : Nat → Int32) (ho : Nat → Int64) (re : Nat → Int32) (wk2 : Nat → Int64) (tu : Nat → Int64) (wa : Nat → Int64) (nx : Nat → Int64) (hv : Nat → Nat → Int32), Ln + 5 - i < n9_18 → (i ≤ Ln) → (okS P D hv ix pw hd ix2 ho re) → ∀ (H : Heap) (locs : List Loc) (ls : Array Slot), va_P dd vwCl (wC ad cI cL cQ (ix) (pw) (sg) (tm) (hd) (wk) (rc) (lc) (P) (rootN (P)) (D) (phN (D)) ++ wM bd cI cL (P) (rootN (P)) (D) (phN (D)) (ix2) (ho) (re) (wk2) (tu) (wa) (nx)) H → va_D A (wC ad cI cL cQ (ix) (pw) (sg) (tm) (hd) (wk) (rc) (lc) (P) (rootN (P)) (D) (phN (D)) ++ wM bd cI cL (P) (rootN (P)) (D) (phN (D)) (ix2) (ho) (re) (wk2) (tu) (wa) (nx)) → va_S A s.heap H locs → lv_has ls 4 [(0, .ref (b)), (1, .ref (ad 0)), (2, .ref (bd 0)), (3, .int (nI (i)))] → W p l e room_1 s m #[Value.ref b] below meth c H locs 23 1654 (lw_Z below #[Value.ref b] s) (F0 m 18 ls []) := by
    intro n9_18
    induction n9_18 with
    | zero => intro i P D ix pw sg tm hd wk rc lc ix2 ho re wk2 tu wa nx hv hm; exact absurd hm (Nat.not_lt_zero _)
    | succ n9_18 ih_18 =>
      intro i P D ix pw sg tm hd wk rc lc ix2 ho re wk2 tu wa nx hv hm_18 hi9 hs H locs ls hP hD hS hl
      obtain ⟨hP1, hD1, hdv, hI, hH, hix2, hL, hre⟩ := id hs
      refine lv_iload_n (pc := 18) hx hb dL_law_18 rfl (lv_at hl 3 rfl) ?_
      refine lv_aload_n (pc := 19) hx hb dL_law_19 rfl (lv_at hl 0 rfl) ?_
      refine va_slen (pc := 20) hx hb hXs hbl hbA hS dL_law_20 ?_
      refine tq_i (y := nI Ln) rfl ?_
      refine nv_iconst (pc := 21) (k := 5) hx hb dL_law_21 rfl ?_
      refine zv_2 (pc := 22) (a := ((5 : Nat) : Int)) (b := ((Ln : Nat) : Int)) ((nI_zI _)) ((nI_zI _)) ?_
      refine zv_isub (pc := 22) hx hb dL_law_22 ?_
      refine zv_2 (pc := 23) (a := (((Ln : Nat) : Int) - ((5 : Nat) : Int))) (b := ((i : Nat) : Int)) (rfl) ((nI_zI _)) ?_
      refine zv_icmp_gt (pc := 23) (tgt := 722) hx hb (by omega) (by omega) dL_law_23 (by decide) (fun h23 => ?_) (fun h23 => ?_)
      · skip
        refine lv_iconst (pc := 722) (v := 1) hx hb dL_law_722 (by decide) ?_
        refine va_forget (fun q hq => hAd _ (hS.2.2 q hq)) ?_
        refine W.widen (k := 600000) (n := 7302250) (Nat.le_of_ble_eq_true rfl) (Nat.le_of_ble_eq_true rfl) ?_
        exact lw_ret hx hb hr hlocks dL_law_723
      · skip
        refine lv_aload_n (pc := 26) hx hb dL_law_26 rfl (lv_at hl 0 rfl) ?_
        refine lv_iload_n (pc := 27) hx hb dL_law_27 rfl (lv_at hl 3 rfl) ?_
        refine va_sld (pc := 28) hx hb hXs hbl hbA hS (i := nI (i)) (vp_in_nI (by omega) (by omega)) dL_law_28 ?_
        refine tq_i (y := xs (i)) (by rw [nI_clamp (by omega)]) ?_
        refine nv_bipush (pc := 29) (k := 31) hx hb dL_law_29 rfl (by decide) ?_
        refine lv_iand (pc := 31) hx hb dL_law_31 ?_
        obtain ⟨j9, hj9, ej9⟩ := pk_andE (xs i) (m := nI 31) 5 (by decide)
        refine tq_i (y := zI (((j9 : Nat) : Int))) (ej9.trans (nI_zI _)) ?_
        rcases (show ((j9 : Nat) : Int) = 0 ∨ ((j9 : Nat) : Int) = 1 ∨ ((j9 : Nat) : Int) = 2 ∨ ((j9 : Nat) : Int) = 3 ∨ ((j9 : Nat) : Int) = 4 ∨ ((j9 : Nat) : Int) = 5 ∨ ((j9 : Nat) : Int) = 6 ∨ ((j9 : Nat) : Int) = 7 ∨ ((j9 : Nat) : Int) = 8 ∨ ((j9 : Nat) : Int) = 9 ∨ ((j9 : Nat) : Int) = 10 ∨ ((j9 : Nat) : Int) = 11 ∨ ((j9 : Nat) : Int) = 12 ∨ ((j9 : Nat) : Int) = 13 ∨ ((j9 : Nat) : Int) = 14 ∨ ((j9 : Nat) : Int) = 15 ∨ ((j9 : Nat) : Int) = 16 ∨ ((j9 : Nat) : Int) = 17 ∨ (((j9 : Nat) : Int) < 0 ∨ 17 < ((j9 : Nat) : Int)) by omega) with h32 | h32 | h32 | h32 | h32 | h32 | h32 | h32 | h32 | h32 | h32 | h32 | h32 | h32 | h32 | h32 | h32 | h32 | h32
        · skip
          refine tq_i (y := zI 0) (by rw [h32]) ?_
          refine lv_tableIn (pc := 32) (tgt := 120) hx hb dL_law_32 (by decide) (by decide) rfl (by decide) ?_
          refine lv_aload_n (pc := 120) hx hb dL_law_120 rfl (lv_at hl 1 rfl) ?_
          refine lv_aload_n (pc := 121) hx hb dL_law_121 rfl (lv_at hl 0 rfl) ?_
          refine lv_iload_n (pc := 122) hx hb dL_law_122 rfl (lv_at hl 3 rfl) ?_
          refine nv_iconst (pc := 123) (k := 1) hx hb dL_law_123 rfl ?_
          refine nv_iadd (pc := 124) hx hb dL_law_124 ?_
          refine va_sld (pc := 125) hx hb hXs hbl hbA hS (i := nI ((i + 1))) (vp_in_nI (by omega) (by omega)) dL_law_125 ?_
          refine tq_i (y := zI (xs ((i + 1))).toInt) (by rw [nI_clamp (by omega), zI_of]) ?_
          refine CTi_Vp (pc := 126) (rX_ok tR) (As := [.int (zI ((xs ((i + 1))).toInt))]) (rest := []) ⟨hx, hb, hml, hown, hts⟩ (c_X0_prime l dd (ad := ad) (cI := cI) (cL := cL) (cQ := cQ) (tR := tR) (ix := ix) (pw := pw) (sg := sg) (tm := tm) (hd := hd) (wk := wk) (rc := rc) (lc := lc) (P := P) (D := D) (zI_rng _) hP1 hD1) (cwV 1 hts gL_law_X0_prime rfl rfl rfl (by decide +kernel) ⟨Nat.le_of_ble_eq_true rfl, Nat.le_of_ble_eq_true rfl⟩) hK hP hD hS hA hX hK 0 0 rfl rfl rfl [0, 1, 2, 3, 4, 5, 6, 7, 8, 9, 10, 11, 12, 13, 14] [15, 16, 17, 18, 19, 20, 21, 22] rfl rfl rfl rfl (by decide) rfl hl.1 rfl (Nat.le_of_ble_eq_true rfl) ⟨Nat.le_of_ble_eq_true rfl, Nat.le_of_ble_eq_true rfl⟩ dL_law_126 (fun ra ua H locs hwa hP hD hS => ?_)
          obtain ⟨P_126, D_126, ix_126, pw_126, hd_126⟩ := ua
          try dsimp only at hwa
          have hP : va_P dd vwCl (wC ad cI cL cQ (ix_126) (pw_126) (sg) (tm) (hd_126) (wk) (rc) (lc) (P_126) (rootN (P_126)) (D_126) (phN (D_126)) ++ wM bd cI cL (P) (rootN (P)) (D) (phN (D)) (ix2) (ho) (re) (wk2) (tu) (wa) (nx)) H := hP.sub [8, 9, 10, 11, 12, 13, 14, 15, 16, 17, 18, 19, 20, 21, 22, 0, 1, 2, 3, 4, 5, 6, 7] rfl
          have hD : va_D A (wC ad cI cL cQ (ix_126) (pw_126) (sg) (tm) (hd_126) (wk) (rc) (lc) (P_126) (rootN (P_126)) (D_126) (phN (D_126)) ++ wM bd cI cL (P) (rootN (P)) (D) (phN (D)) (ix2) (ho) (re) (wk2) (tu) (wa) (nx)) := hD.sub [8, 9, 10, 11, 12, 13, 14, 15, 16, 17, 18, 19, 20, 21, 22, 0, 1, 2, 3, 4, 5, 6, 7] (by decide) rfl
          refine lv_aload_n (pc := 129) hx hb dL_law_129 rfl (lv_at hl 2 rfl) ?_
          refine lv_aload_n (pc := 130) hx hb dL_law_130 rfl (lv_at hl 0 rfl) ?_
          refine lv_iload_n (pc := 131) hx hb dL_law_131 rfl (lv_at hl 3 rfl) ?_
          refine nv_iconst (pc := 132) (k := 1) hx hb dL_law_132 rfl ?_
          refine nv_iadd (pc := 133) hx hb dL_law_133 ?_
          refine va_sld (pc := 134) hx hb hXs hbl hbA hS (i := nI ((i + 1))) (vp_in_nI (by omega) (by omega)) dL_law_134 ?_
          refine tq_i (y := zI (xs ((i + 1))).toInt) (by rw [nI_clamp (by omega), zI_of]) ?_
          refine CTi_Vp (pc := 135) am_no_ok (As := [.int (zI ((xs ((i + 1))).toInt))]) (rest := [.int (ra)]) ⟨hx, hb, hml, hown, hts⟩ (c_X1_prime l dd (ad := bd) (cI := cI) (cL := cL) (cQ := cQ) (P := P) (D := D) (ix := ix2) (ho := ho) (re := re) (wk := wk2) (tu := tu) (wa := wa) (nx := nx) (zI_rng _) hP1 hD1) (cwV 1 hts gL_law_X1_prime rfl rfl rfl (by decide +kernel) ⟨Nat.le_of_ble_eq_true rfl, Nat.le_of_ble_eq_true rfl⟩) hK hP hD hS hA trivial hK 15 1 rfl rfl rfl [15, 16, 17, 18, 19, 20, 21, 22] [0, 1, 2, 3, 4, 5, 6, 7, 8, 9, 10, 11, 12, 13, 14] rfl rfl rfl rfl (by decide) rfl hl.1 rfl (Nat.le_of_ble_eq_true rfl) ⟨Nat.le_of_ble_eq_true rfl, Nat.le_of_ble_eq_true rfl⟩ dL_law_135 (fun rb ub H locs hwb hP hD hS => ?_)
          obtain ⟨P2_135, D2_135, ix2_135, ho_135, re_135⟩ := ub
          try dsimp only at hwb
          have hP : va_P dd vwCl (wC ad cI cL cQ (ix_126) (pw_126) (sg) (tm) (hd_126) (wk) (rc) (lc) (P_126) (rootN (P_126)) (D_126) (phN (D_126)) ++ wM bd cI cL (P2_135) (rootN (P2_135)) (D2_135) (phN (D2_135)) (ix2_135) (ho_135) (re_135) (wk2) (tu) (wa) (nx)) H := hP.sub [0, 1, 2, 3, 4, 5, 6, 7, 8, 9, 10, 11, 12, 13, 14, 15, 16, 17, 18, 19, 20, 21, 22] rfl
          have hD : va_D A (wC ad cI cL cQ (ix_126) (pw_126) (sg) (tm) (hd_126) (wk) (rc) (lc) (P_126) (rootN (P_126)) (D_126) (phN (D_126)) ++ wM bd cI cL (P2_135) (rootN (P2_135)) (D2_135) (phN (D2_135)) (ix2_135) (ho_135) (re_135) (wk2) (tu) (wa) (nx)) := hD.sub [0, 1, 2, 3, 4, 5, 6, 7, 8, 9, 10, 11, 12, 13, 14, 15, 16, 17, 18, 19, 20, 21, 22] (by decide) rfl
          obtain ⟨hz, eP, eD, hv2, hsN⟩ := mg_prime hs hwa hwb
          subst eP eD
          have hP : va_P dd vwCl (wC ad cI cL cQ (ix_126) (pw_126) (sg) (tm) (hd_126) (wk) (rc) (lc) (P_126) (rootN (P_126)) (D_126) (phN (D_126)) ++ wM bd cI cL (P_126) (rootN (P_126)) (D_126) (phN (D_126)) (ix2_135) (ho_135) (re_135) (wk2) (tu) (wa) (nx)) H := hP
          have hD : va_D A (wC ad cI cL cQ (ix_126) (pw_126) (sg) (tm) (hd_126) (wk) (rc) (lc) (P_126) (rootN (P_126)) (D_126) (phN (D_126)) ++ wM bd cI cL (P_126) (rootN (P_126)) (D_126) (phN (D_126)) (ix2_135) (ho_135) (re_135) (wk2) (tu) (wa) (nx)) := hD
          clear hwa hwb
          refine lv_icmp_eq (pc := 138) (tgt := 716) hx hb dL_law_138 (by decide) (fun _ => ?_) (fun hne => absurd hz hne)
          refine lv_iinc (pc := 716) (v := nI ((i + 5))) (lv' := [(3, .int (nI ((i + 5)))), (0, .ref (b)), (1, .ref (ad 0)), (2, .ref (bd 0))]) hx hb dL_law_716 hl (k := 3) rfl (nI_inc5 _) (by decide) rfl (fun ls hl => ?_)
          refine lv_goto (pc := 719) (tgt := 18) hx hb dL_law_719 (by decide) ?_
          exact ih_18 ((i + 5)) (P_126) (D_126) (ix_126) (pw_126) (sg) (tm) (hd_126) (wk) (rc) (lc) (ix2_135) (ho_135) (re_135) (wk2) (tu) (wa) (nx) (hv2) (by omega) (by omega) (hsN) _ _ _ hP hD hS (lv_sub hl [1, 2, 3, 0] rfl)
        · skip
          refine tq_i (y := zI 1) (by rw [h32]) ?_
          refine lv_tableIn (pc := 32) (tgt := 143) hx hb dL_law_32 (by decide) (by decide) rfl (by decide) ?_
          refine lv_aload_n (pc := 143) hx hb dL_law_143 rfl (lv_at hl 1 rfl) ?_
          refine lv_aload_n (pc := 144) hx hb dL_law_144 rfl (lv_at hl 0 rfl) ?_
          refine lv_iload_n (pc := 145) hx hb dL_law_145 rfl (lv_at hl 3 rfl) ?_
          refine nv_iconst (pc := 146) (k := 1) hx hb dL_law_146 rfl ?_
          refine nv_iadd (pc := 147) hx hb dL_law_147 ?_
          refine va_sld (pc := 148) hx hb hXs hbl hbA hS (i := nI ((i + 1))) (vp_in_nI (by omega) (by omega)) dL_law_148 ?_
          refine tq_i (y := zI (xs ((i + 1))).toInt) (by rw [nI_clamp (by omega), zI_of]) ?_
          refine CTi_Vp (pc := 149) (rX_ok tR) (As := [.int (zI ((xs ((i + 1))).toInt))]) (rest := []) ⟨hx, hb, hml, hown, hts⟩ (c_X0_degree l dd (ad := ad) (cI := cI) (cL := cL) (cQ := cQ) (tR := tR) (ix := ix) (pw := pw) (sg := sg) (tm := tm) (hd := hd) (wk := wk) (rc := rc) (lc := lc) (P := P) (D := D) (zI_rng _) hP1 hD1) (cwV 1 hts gL_law_X0_degree rfl rfl rfl (by decide +kernel) ⟨Nat.le_of_ble_eq_true rfl, Nat.le_of_ble_eq_true rfl⟩) hK hP hD hS hA hX hK 0 0 rfl rfl rfl [0, 1, 2, 3, 4, 5, 6, 7, 8, 9, 10, 11, 12, 13, 14] [15, 16, 17, 18, 19, 20, 21, 22] rfl rfl rfl rfl (by decide) rfl hl.1 rfl (Nat.le_of_ble_eq_true rfl) ⟨Nat.le_of_ble_eq_true rfl, Nat.le_of_ble_eq_true rfl⟩ dL_law_149 (fun ra ua H locs hwa hP hD hS => ?_)
          obtain ⟨D_149, hd_149⟩ := ua
          try dsimp only at hwa
          have hP : va_P dd vwCl (wC ad cI cL cQ (ix) (pw) (sg) (tm) (hd_149) (wk) (rc) (lc) (P) (rootN (P)) (D_149) (phN (D_149)) ++ wM bd cI cL (P) (rootN (P)) (D) (phN (D)) (ix2) (ho) (re) (wk2) (tu) (wa) (nx)) H := hP.sub [8, 9, 10, 11, 12, 13, 14, 15, 16, 17, 18, 19, 20, 21, 22, 0, 1, 2, 3, 4, 5, 6, 7] rfl
          have hD : va_D A (wC ad cI cL cQ (ix) (pw) (sg) (tm) (hd_149) (wk) (rc) (lc) (P) (rootN (P)) (D_149) (phN (D_149)) ++ wM bd cI cL (P) (rootN (P)) (D) (phN (D)) (ix2) (ho) (re) (wk2) (tu) (wa) (nx)) := hD.sub [8, 9, 10, 11, 12, 13, 14, 15, 16, 17, 18, 19, 20, 21, 22, 0, 1, 2, 3, 4, 5, 6, 7] (by decide) rfl
          refine lv_aload_n (pc := 152) hx hb dL_law_152 rfl (lv_at hl 2 rfl) ?_
          refine lv_aload_n (pc := 153) hx hb dL_law_153 rfl (lv_at hl 0 rfl) ?_
          refine lv_iload_n (pc := 154) hx hb dL_law_154 rfl (lv_at hl 3 rfl) ?_
          refine nv_iconst (pc := 155) (k := 1) hx hb dL_law_155 rfl ?_
          refine nv_iadd (pc := 156) hx hb dL_law_156 ?_
          refine va_sld (pc := 157) hx hb hXs hbl hbA hS (i := nI ((i + 1))) (vp_in_nI (by omega) (by omega)) dL_law_157 ?_
          refine tq_i (y := zI (xs ((i + 1))).toInt) (by rw [nI_clamp (by omega), zI_of]) ?_
          refine CTi_Vp (pc := 158) am_no_ok (As := [.int (zI ((xs ((i + 1))).toInt))]) (rest := [.int (ra)]) ⟨hx, hb, hml, hown, hts⟩ (c_X1_degree l dd (ad := bd) (cI := cI) (cL := cL) (cQ := cQ) (P := P) (D := D) (ix := ix2) (ho := ho) (re := re) (wk := wk2) (tu := tu) (wa := wa) (nx := nx) (zI_rng _) hP1 hD1) (cwV 1 hts gL_law_X1_degree rfl rfl rfl (by decide +kernel) ⟨Nat.le_of_ble_eq_true rfl, Nat.le_of_ble_eq_true rfl⟩) hK hP hD hS hA trivial hK 15 1 rfl rfl rfl [15, 16, 17, 18, 19, 20, 21, 22] [0, 1, 2, 3, 4, 5, 6, 7, 8, 9, 10, 11, 12, 13, 14] rfl rfl rfl rfl (by decide) rfl hl.1 rfl (Nat.le_of_ble_eq_true rfl) ⟨Nat.le_of_ble_eq_true rfl, Nat.le_of_ble_eq_true rfl⟩ dL_law_158 (fun rb ub H locs hwb hP hD hS => ?_)
          obtain ⟨D2_158, ho_158, re_158⟩ := ub
          try dsimp only at hwb
          have hP : va_P dd vwCl (wC ad cI cL cQ (ix) (pw) (sg) (tm) (hd_149) (wk) (rc) (lc) (P) (rootN (P)) (D_149) (phN (D_149)) ++ wM bd cI cL (P) (rootN (P)) (D2_158) (phN (D2_158)) (ix2) (ho_158) (re_158) (wk2) (tu) (wa) (nx)) H := hP.sub [0, 1, 2, 3, 4, 5, 6, 7, 8, 9, 10, 11, 12, 13, 14, 15, 16, 17, 18, 19, 20, 21, 22] rfl
          have hD : va_D A (wC ad cI cL cQ (ix) (pw) (sg) (tm) (hd_149) (wk) (rc) (lc) (P) (rootN (P)) (D_149) (phN (D_149)) ++ wM bd cI cL (P) (rootN (P)) (D2_158) (phN (D2_158)) (ix2) (ho_158) (re_158) (wk2) (tu) (wa) (nx)) := hD.sub [0, 1, 2, 3, 4, 5, 6, 7, 8, 9, 10, 11, 12, 13, 14, 15, 16, 17, 18, 19, 20, 21, 22] (by decide) rfl
          obtain ⟨hz, eD, hv2, hsN⟩ := mg_degree hs hwa hwb
          subst eD
          have hP : va_P dd vwCl (wC ad cI cL cQ (ix) (pw) (sg) (tm) (hd_149) (wk) (rc) (lc) (P) (rootN (P)) (D_149) (phN (D_149)) ++ wM bd cI cL (P) (rootN (P)) (D_149) (phN (D_149)) (ix2) (ho_158) (re_158) (wk2) (tu) (wa) (nx)) H := hP
          have hD : va_D A (wC ad cI cL cQ (ix) (pw) (sg) (tm) (hd_149) (wk) (rc) (lc) (P) (rootN (P)) (D_149) (phN (D_149)) ++ wM bd cI cL (P) (rootN (P)) (D_149) (phN (D_149)) (ix2) (ho_158) (re_158) (wk2) (tu) (wa) (nx)) := hD
          clear hwa hwb
          refine lv_icmp_eq (pc := 161) (tgt := 716) hx hb dL_law_161 (by decide) (fun _ => ?_) (fun hne => absurd hz hne)
          refine lv_iinc (pc := 716) (v := nI ((i + 5))) (lv' := [(3, .int (nI ((i + 5)))), (0, .ref (b)), (1, .ref (ad 0)), (2, .ref (bd 0))]) hx hb dL_law_716 hl (k := 3) rfl (nI_inc5 _) (by decide) rfl (fun ls hl => ?_)
          refine lv_goto (pc := 719) (tgt := 18) hx hb dL_law_719 (by decide) ?_
          exact ih_18 ((i + 5)) (P) (D_149) (ix) (pw) (sg) (tm) (hd_149) (wk) (rc) (lc) (ix2) (ho_158) (re_158) (wk2) (tu) (wa) (nx) (hv2) (by omega) (by omega) (hsN) _ _ _ hP hD hS (lv_sub hl [1, 2, 3, 0] rfl)
        · skip
          refine tq_i (y := zI 2) (by rw [h32]) ?_
          refine lv_tableIn (pc := 32) (tgt := 166) hx hb dL_law_32 (by decide) (by decide) rfl (by decide) ?_
          refine lv_aload_n (pc := 166) hx hb dL_law_166 rfl (lv_at hl 1 rfl) ?_
          refine lv_aload_n (pc := 167) hx hb dL_law_167 rfl (lv_at hl 0 rfl) ?_
          refine lv_iload_n (pc := 168) hx hb dL_law_168 rfl (lv_at hl 3 rfl) ?_
          refine nv_iconst (pc := 169) (k := 1) hx hb dL_law_169 rfl ?_
          refine nv_iadd (pc := 170) hx hb dL_law_170 ?_
          refine va_sld (pc := 171) hx hb hXs hbl hbA hS (i := nI ((i + 1))) (vp_in_nI (by omega) (by omega)) dL_law_171 ?_
          refine tq_i (y := zI (xs ((i + 1))).toInt) (by rw [nI_clamp (by omega), zI_of]) ?_
          refine lv_aload_n (pc := 172) hx hb dL_law_172 rfl (lv_at hl 0 rfl) ?_
          refine lv_iload_n (pc := 173) hx hb dL_law_173 rfl (lv_at hl 3 rfl) ?_
          refine nv_iconst (pc := 174) (k := 2) hx hb dL_law_174 rfl ?_
          refine nv_iadd (pc := 175) hx hb dL_law_175 ?_
          refine va_sld (pc := 176) hx hb hXs hbl hbA hS (i := nI ((i + 2))) (vp_in_nI (by omega) (by omega)) dL_law_176 ?_
          refine tq_i (y := zI (xs ((i + 2))).toInt) (by rw [nI_clamp (by omega), zI_of]) ?_
          refine CTi_Vp (pc := 177) (rX_ok tR) (As := [.int (zI ((xs ((i + 1))).toInt)), .int (zI ((xs ((i + 2))).toInt))]) (rest := []) ⟨hx, hb, hml, hown, hts⟩ (c_X0_rest l dd (ad := ad) (cI := cI) (cL := cL) (cQ := cQ) (tR := tR) (ix := ix) (pw := pw) (sg := sg) (tm := tm) (hd := hd) (wk := wk) (rc := rc) (lc := lc) (P := P) (D := D) (zI_rng _) (zI_rng _) hP1 hD1 hI.1) (cwV 2 hts gL_law_X0_rest rfl rfl rfl (by decide +kernel) ⟨Nat.le_of_ble_eq_true rfl, Nat.le_of_ble_eq_true rfl⟩) hK hP hD hS hA hX hK 0 0 rfl rfl rfl [0, 1, 2, 3, 4, 5, 6, 7, 8, 9, 10, 11, 12, 13, 14] [15, 16, 17, 18, 19, 20, 21, 22] rfl rfl rfl rfl (by decide) rfl hl.1 rfl (Nat.le_of_ble_eq_true rfl) ⟨Nat.le_of_ble_eq_true rfl, Nat.le_of_ble_eq_true rfl⟩ dL_law_177 (fun ra _ H locs hwa hP hD hS => ?_)
          try dsimp only at hwa
          have hP : va_P dd vwCl (wC ad cI cL cQ (ix) (pw) (sg) (tm) (hd) (wk) (rc) (lc) (P) (rootN (P)) (D) (phN (D)) ++ wM bd cI cL (P) (rootN (P)) (D) (phN (D)) (ix2) (ho) (re) (wk2) (tu) (wa) (nx)) H := hP.sub [8, 9, 10, 11, 12, 13, 14, 15, 16, 17, 18, 19, 20, 21, 22, 0, 1, 2, 3, 4, 5, 6, 7] rfl
          have hD : va_D A (wC ad cI cL cQ (ix) (pw) (sg) (tm) (hd) (wk) (rc) (lc) (P) (rootN (P)) (D) (phN (D)) ++ wM bd cI cL (P) (rootN (P)) (D) (phN (D)) (ix2) (ho) (re) (wk2) (tu) (wa) (nx)) := hD.sub [8, 9, 10, 11, 12, 13, 14, 15, 16, 17, 18, 19, 20, 21, 22, 0, 1, 2, 3, 4, 5, 6, 7] (by decide) rfl
          refine lv_aload_n (pc := 180) hx hb dL_law_180 rfl (lv_at hl 2 rfl) ?_
          refine lv_aload_n (pc := 181) hx hb dL_law_181 rfl (lv_at hl 0 rfl) ?_
          refine lv_iload_n (pc := 182) hx hb dL_law_182 rfl (lv_at hl 3 rfl) ?_
          refine nv_iconst (pc := 183) (k := 1) hx hb dL_law_183 rfl ?_
          refine nv_iadd (pc := 184) hx hb dL_law_184 ?_
          refine va_sld (pc := 185) hx hb hXs hbl hbA hS (i := nI ((i + 1))) (vp_in_nI (by omega) (by omega)) dL_law_185 ?_
          refine tq_i (y := zI (xs ((i + 1))).toInt) (by rw [nI_clamp (by omega), zI_of]) ?_
          refine lv_aload_n (pc := 186) hx hb dL_law_186 rfl (lv_at hl 0 rfl) ?_
          refine lv_iload_n (pc := 187) hx hb dL_law_187 rfl (lv_at hl 3 rfl) ?_
          refine nv_iconst (pc := 188) (k := 2) hx hb dL_law_188 rfl ?_
          refine nv_iadd (pc := 189) hx hb dL_law_189 ?_
          refine va_sld (pc := 190) hx hb hXs hbl hbA hS (i := nI ((i + 2))) (vp_in_nI (by omega) (by omega)) dL_law_190 ?_
          refine tq_i (y := zI (xs ((i + 2))).toInt) (by rw [nI_clamp (by omega), zI_of]) ?_
          refine CTi_Vp (pc := 191) am_no_ok (As := [.int (zI ((xs ((i + 1))).toInt)), .int (zI ((xs ((i + 2))).toInt))]) (rest := [.int (ra)]) ⟨hx, hb, hml, hown, hts⟩ (c_X1_rest l dd (ad := bd) (cI := cI) (cL := cL) (cQ := cQ) (P := P) (D := D) (ix := ix2) (ho := ho) (re := re) (wk := wk2) (tu := tu) (wa := wa) (nx := nx) (zI_rng _) (zI_rng _) hP1 hD1 hix2) (cwV 2 hts gL_law_X1_rest rfl rfl rfl (by decide +kernel) ⟨Nat.le_of_ble_eq_true rfl, Nat.le_of_ble_eq_true rfl⟩) hK hP hD hS hA trivial hK 15 1 rfl rfl rfl [15, 16, 17, 18, 19, 20, 21, 22] [0, 1, 2, 3, 4, 5, 6, 7, 8, 9, 10, 11, 12, 13, 14] rfl rfl rfl rfl (by decide) rfl hl.1 rfl (Nat.le_of_ble_eq_true rfl) ⟨Nat.le_of_ble_eq_true rfl, Nat.le_of_ble_eq_true rfl⟩ dL_law_191 (fun rb _ H locs hwb hP hD hS => ?_)
          try dsimp only at hwb
          have hP : va_P dd vwCl (wC ad cI cL cQ (ix) (pw) (sg) (tm) (hd) (wk) (rc) (lc) (P) (rootN (P)) (D) (phN (D)) ++ wM bd cI cL (P) (rootN (P)) (D) (phN (D)) (ix2) (ho) (re) (wk2) (tu) (wa) (nx)) H := hP.sub [0, 1, 2, 3, 4, 5, 6, 7, 8, 9, 10, 11, 12, 13, 14, 15, 16, 17, 18, 19, 20, 21, 22] rfl
          have hD : va_D A (wC ad cI cL cQ (ix) (pw) (sg) (tm) (hd) (wk) (rc) (lc) (P) (rootN (P)) (D) (phN (D)) ++ wM bd cI cL (P) (rootN (P)) (D) (phN (D)) (ix2) (ho) (re) (wk2) (tu) (wa) (nx)) := hD.sub [0, 1, 2, 3, 4, 5, 6, 7, 8, 9, 10, 11, 12, 13, 14, 15, 16, 17, 18, 19, 20, 21, 22] (by decide) rfl
          have hz : ra = rb := hwa.trans hwb.symm
          have hsN := hs
          clear hwa hwb
          refine lv_icmp_eq (pc := 194) (tgt := 716) hx hb dL_law_194 (by decide) (fun _ => ?_) (fun hne => absurd hz hne)
          refine lv_iinc (pc := 716) (v := nI ((i + 5))) (lv' := [(3, .int (nI ((i + 5)))), (0, .ref (b)), (1, .ref (ad 0)), (2, .ref (bd 0))]) hx hb dL_law_716 hl (k := 3) rfl (nI_inc5 _) (by decide) rfl (fun ls hl => ?_)
          refine lv_goto (pc := 719) (tgt := 18) hx hb dL_law_719 (by decide) ?_
          exact ih_18 ((i + 5)) (P) (D) (ix) (pw) (sg) (tm) (hd) (wk) (rc) (lc) (ix2) (ho) (re) (wk2) (tu) (wa) (nx) (hv) (by omega) (by omega) (hsN) _ _ _ hP hD hS (lv_sub hl [1, 2, 3, 0] rfl)
        · skip
          refine tq_i (y := zI 3) (by rw [h32]) ?_
          refine lv_tableIn (pc := 32) (tgt := 199) hx hb dL_law_32 (by decide) (by decide) rfl (by decide) ?_
          refine lv_aload_n (pc := 199) hx hb dL_law_199 rfl (lv_at hl 1 rfl) ?_
          refine lv_aload_n (pc := 200) hx hb dL_law_200 rfl (lv_at hl 0 rfl) ?_
          refine lv_iload_n (pc := 201) hx hb dL_law_201 rfl (lv_at hl 3 rfl) ?_
          refine nv_iconst (pc := 202) (k := 1) hx hb dL_law_202 rfl ?_
          refine nv_iadd (pc := 203) hx hb dL_law_203 ?_
          refine va_sld (pc := 204) hx hb hXs hbl hbA hS (i := nI ((i + 1))) (vp_in_nI (by omega) (by omega)) dL_law_204 ?_
          refine tq_i (y := zI (xs ((i + 1))).toInt) (by rw [nI_clamp (by omega), zI_of]) ?_
          refine lv_aload_n (pc := 205) hx hb dL_law_205 rfl (lv_at hl 0 rfl) ?_
          refine lv_iload_n (pc := 206) hx hb dL_law_206 rfl (lv_at hl 3 rfl) ?_
          refine nv_iconst (pc := 207) (k := 2) hx hb dL_law_207 rfl ?_
          refine nv_iadd (pc := 208) hx hb dL_law_208 ?_
          refine va_sld (pc := 209) hx hb hXs hbl hbA hS (i := nI ((i + 2))) (vp_in_nI (by omega) (by omega)) dL_law_209 ?_
          refine tq_i (y := zI (xs ((i + 2))).toInt) (by rw [nI_clamp (by omega), zI_of]) ?_
          refine CTi_Vp (pc := 210) (rX_ok tR) (As := [.int (zI ((xs ((i + 1))).toInt)), .int (zI ((xs ((i + 2))).toInt))]) (rest := []) ⟨hx, hb, hml, hown, hts⟩ (c_X0_meeting l dd (ad := ad) (cI := cI) (cL := cL) (cQ := cQ) (tR := tR) (ix := ix) (pw := pw) (sg := sg) (tm := tm) (hd := hd) (wk := wk) (rc := rc) (lc := lc) (P := P) (D := D) (zI_rng _) (zI_rng _) hP1 hD1 hI.1) (cwV 2 hts gL_law_X0_meeting rfl rfl rfl (by decide +kernel) ⟨Nat.le_of_ble_eq_true rfl, Nat.le_of_ble_eq_true rfl⟩) hK hP hD hS hA hX hK 0 0 rfl rfl rfl [0, 1, 2, 3, 4, 5, 6, 7, 8, 9, 10, 11, 12, 13, 14] [15, 16, 17, 18, 19, 20, 21, 22] rfl rfl rfl rfl (by decide) rfl hl.1 rfl (Nat.le_of_ble_eq_true rfl) ⟨Nat.le_of_ble_eq_true rfl, Nat.le_of_ble_eq_true rfl⟩ dL_law_210 (fun ra _ H locs hwa hP hD hS => ?_)
          try dsimp only at hwa
          have hP : va_P dd vwCl (wC ad cI cL cQ (ix) (pw) (sg) (tm) (hd) (wk) (rc) (lc) (P) (rootN (P)) (D) (phN (D)) ++ wM bd cI cL (P) (rootN (P)) (D) (phN (D)) (ix2) (ho) (re) (wk2) (tu) (wa) (nx)) H := hP.sub [8, 9, 10, 11, 12, 13, 14, 15, 16, 17, 18, 19, 20, 21, 22, 0, 1, 2, 3, 4, 5, 6, 7] rfl
          have hD : va_D A (wC ad cI cL cQ (ix) (pw) (sg) (tm) (hd) (wk) (rc) (lc) (P) (rootN (P)) (D) (phN (D)) ++ wM bd cI cL (P) (rootN (P)) (D) (phN (D)) (ix2) (ho) (re) (wk2) (tu) (wa) (nx)) := hD.sub [8, 9, 10, 11, 12, 13, 14, 15, 16, 17, 18, 19, 20, 21, 22, 0, 1, 2, 3, 4, 5, 6, 7] (by decide) rfl
          refine lv_aload_n (pc := 213) hx hb dL_law_213 rfl (lv_at hl 2 rfl) ?_
          refine lv_aload_n (pc := 214) hx hb dL_law_214 rfl (lv_at hl 0 rfl) ?_
          refine lv_iload_n (pc := 215) hx hb dL_law_215 rfl (lv_at hl 3 rfl) ?_
          refine nv_iconst (pc := 216) (k := 1) hx hb dL_law_216 rfl ?_
          refine nv_iadd (pc := 217) hx hb dL_law_217 ?_
          refine va_sld (pc := 218) hx hb hXs hbl hbA hS (i := nI ((i + 1))) (vp_in_nI (by omega) (by omega)) dL_law_218 ?_
          refine tq_i (y := zI (xs ((i + 1))).toInt) (by rw [nI_clamp (by omega), zI_of]) ?_
          refine lv_aload_n (pc := 219) hx hb dL_law_219 rfl (lv_at hl 0 rfl) ?_
          refine lv_iload_n (pc := 220) hx hb dL_law_220 rfl (lv_at hl 3 rfl) ?_
          refine nv_iconst (pc := 221) (k := 2) hx hb dL_law_221 rfl ?_
          refine nv_iadd (pc := 222) hx hb dL_law_222 ?_
          refine va_sld (pc := 223) hx hb hXs hbl hbA hS (i := nI ((i + 2))) (vp_in_nI (by omega) (by omega)) dL_law_223 ?_
          refine tq_i (y := zI (xs ((i + 2))).toInt) (by rw [nI_clamp (by omega), zI_of]) ?_
          refine CTi_Vp (pc := 224) am_no_ok (As := [.int (zI ((xs ((i + 1))).toInt)), .int (zI ((xs ((i + 2))).toInt))]) (rest := [.int (ra)]) ⟨hx, hb, hml, hown, hts⟩ (c_X1_meeting l dd (ad := bd) (cI := cI) (cL := cL) (cQ := cQ) (P := P) (D := D) (ix := ix2) (ho := ho) (re := re) (wk := wk2) (tu := tu) (wa := wa) (nx := nx) (zI_rng _) (zI_rng _) hP1 hD1 hix2) (cwV 2 hts gL_law_X1_meeting rfl rfl rfl (by decide +kernel) ⟨Nat.le_of_ble_eq_true rfl, Nat.le_of_ble_eq_true rfl⟩) hK hP hD hS hA trivial hK 15 1 rfl rfl rfl [15, 16, 17, 18, 19, 20, 21, 22] [0, 1, 2, 3, 4, 5, 6, 7, 8, 9, 10, 11, 12, 13, 14] rfl rfl rfl rfl (by decide) rfl hl.1 rfl (Nat.le_of_ble_eq_true rfl) ⟨Nat.le_of_ble_eq_true rfl, Nat.le_of_ble_eq_true rfl⟩ dL_law_224 (fun rb _ H locs hwb hP hD hS => ?_)
          try dsimp only at hwb
          have hP : va_P dd vwCl (wC ad cI cL cQ (ix) (pw) (sg) (tm) (hd) (wk) (rc) (lc) (P) (rootN (P)) (D) (phN (D)) ++ wM bd cI cL (P) (rootN (P)) (D) (phN (D)) (ix2) (ho) (re) (wk2) (tu) (wa) (nx)) H := hP.sub [0, 1, 2, 3, 4, 5, 6, 7, 8, 9, 10, 11, 12, 13, 14, 15, 16, 17, 18, 19, 20, 21, 22] rfl
          have hD : va_D A (wC ad cI cL cQ (ix) (pw) (sg) (tm) (hd) (wk) (rc) (lc) (P) (rootN (P)) (D) (phN (D)) ++ wM bd cI cL (P) (rootN (P)) (D) (phN (D)) (ix2) (ho) (re) (wk2) (tu) (wa) (nx)) := hD.sub [0, 1, 2, 3, 4, 5, 6, 7, 8, 9, 10, 11, 12, 13, 14, 15, 16, 17, 18, 19, 20, 21, 22] (by decide) rfl
          have hz : ra = rb := hwa.trans hwb.symm
          have hsN := hs
          clear hwa hwb
          refine lv_icmp_eq (pc := 227) (tgt := 716) hx hb dL_law_227 (by decide) (fun _ => ?_) (fun hne => absurd hz hne)
          refine lv_iinc (pc := 716) (v := nI ((i + 5))) (lv' := [(3, .int (nI ((i + 5)))), (0, .ref (b)), (1, .ref (ad 0)), (2, .ref (bd 0))]) hx hb dL_law_716 hl (k := 3) rfl (nI_inc5 _) (by decide) rfl (fun ls hl => ?_)
          refine lv_goto (pc := 719) (tgt := 18) hx hb dL_law_719 (by decide) ?_
          exact ih_18 ((i + 5)) (P) (D) (ix) (pw) (sg) (tm) (hd) (wk) (rc) (lc) (ix2) (ho) (re) (wk2) (tu) (wa) (nx) (hv) (by omega) (by omega) (hsN) _ _ _ hP hD hS (lv_sub hl [1, 2, 3, 0] rfl)
        · skip
          refine tq_i (y := zI 4) (by rw [h32]) ?_
          refine lv_tableIn (pc := 32) (tgt := 232) hx hb dL_law_32 (by decide) (by decide) rfl (by decide) ?_
          refine lv_aload_n (pc := 232) hx hb dL_law_232 rfl (lv_at hl 1 rfl) ?_
          refine lv_aload_n (pc := 233) hx hb dL_law_233 rfl (lv_at hl 0 rfl) ?_
          refine lv_iload_n (pc := 234) hx hb dL_law_234 rfl (lv_at hl 3 rfl) ?_
          refine nv_iconst (pc := 235) (k := 1) hx hb dL_law_235 rfl ?_
          refine nv_iadd (pc := 236) hx hb dL_law_236 ?_
          refine va_sld (pc := 237) hx hb hXs hbl hbA hS (i := nI ((i + 1))) (vp_in_nI (by omega) (by omega)) dL_law_237 ?_
          refine tq_i (y := zI (xs ((i + 1))).toInt) (by rw [nI_clamp (by omega), zI_of]) ?_
          refine lv_aload_n (pc := 238) hx hb dL_law_238 rfl (lv_at hl 0 rfl) ?_
          refine lv_iload_n (pc := 239) hx hb dL_law_239 rfl (lv_at hl 3 rfl) ?_
          refine nv_iconst (pc := 240) (k := 2) hx hb dL_law_240 rfl ?_
          refine nv_iadd (pc := 241) hx hb dL_law_241 ?_
          refine va_sld (pc := 242) hx hb hXs hbl hbA hS (i := nI ((i + 2))) (vp_in_nI (by omega) (by omega)) dL_law_242 ?_
          refine tq_i (y := zI (xs ((i + 2))).toInt) (by rw [nI_clamp (by omega), zI_of]) ?_
          refine lv_aload_n (pc := 243) hx hb dL_law_243 rfl (lv_at hl 0 rfl) ?_
          refine lv_iload_n (pc := 244) hx hb dL_law_244 rfl (lv_at hl 3 rfl) ?_
          refine nv_iconst (pc := 245) (k := 3) hx hb dL_law_245 rfl ?_
          refine nv_iadd (pc := 246) hx hb dL_law_246 ?_
          refine va_sld (pc := 247) hx hb hXs hbl hbA hS (i := nI ((i + 3))) (vp_in_nI (by omega) (by omega)) dL_law_247 ?_
          refine tq_i (y := zI (xs ((i + 3))).toInt) (by rw [nI_clamp (by omega), zI_of]) ?_
          refine CTi_Vp (pc := 248) (rX_ok tR) (As := [.int (zI ((xs ((i + 1))).toInt)), .int (zI ((xs ((i + 2))).toInt)), .int (zI ((xs ((i + 3))).toInt))]) (rest := []) ⟨hx, hb, hml, hown, hts⟩ (c_X0_sum l dd (ad := ad) (cI := cI) (cL := cL) (cQ := cQ) (tR := tR) (ix := ix) (pw := pw) (sg := sg) (tm := tm) (hd := hd) (wk := wk) (rc := rc) (lc := lc) (P := P) (D := D) (zI_rng _) (zI_rng _) (zI_rng _) hP1 hD1 hI.1 hH) (cwV 3 hts gL_law_X0_sum rfl rfl rfl (by decide +kernel) ⟨Nat.le_of_ble_eq_true rfl, Nat.le_of_ble_eq_true rfl⟩) hK hP hD hS hA hX hK 0 0 rfl rfl rfl [0, 1, 2, 3, 4, 5, 6, 7, 8, 9, 10, 11, 12, 13, 14] [15, 16, 17, 18, 19, 20, 21, 22] rfl rfl rfl rfl (by decide) rfl hl.1 rfl (Nat.le_of_ble_eq_true rfl) ⟨Nat.le_of_ble_eq_true rfl, Nat.le_of_ble_eq_true rfl⟩ dL_law_248 (fun ra ua H locs hwa hP hD hS => ?_)
          obtain ⟨wk_248, hd_248⟩ := ua
          try dsimp only at hwa
          have hP : va_P dd vwCl (wC ad cI cL cQ (ix) (pw) (sg) (tm) (hd_248) (wk_248) (rc) (lc) (P) (rootN (P)) (D) (phN (D)) ++ wM bd cI cL (P) (rootN (P)) (D) (phN (D)) (ix2) (ho) (re) (wk2) (tu) (wa) (nx)) H := hP.sub [8, 9, 10, 11, 12, 13, 14, 15, 16, 17, 18, 19, 20, 21, 22, 0, 1, 2, 3, 4, 5, 6, 7] rfl
          have hD : va_D A (wC ad cI cL cQ (ix) (pw) (sg) (tm) (hd_248) (wk_248) (rc) (lc) (P) (rootN (P)) (D) (phN (D)) ++ wM bd cI cL (P) (rootN (P)) (D) (phN (D)) (ix2) (ho) (re) (wk2) (tu) (wa) (nx)) := hD.sub [8, 9, 10, 11, 12, 13, 14, 15, 16, 17, 18, 19, 20, 21, 22, 0, 1, 2, 3, 4, 5, 6, 7] (by decide) rfl
          refine lv_aload_n (pc := 251) hx hb dL_law_251 rfl (lv_at hl 2 rfl) ?_
          refine lv_aload_n (pc := 252) hx hb dL_law_252 rfl (lv_at hl 0 rfl) ?_
          refine lv_iload_n (pc := 253) hx hb dL_law_253 rfl (lv_at hl 3 rfl) ?_
          refine nv_iconst (pc := 254) (k := 1) hx hb dL_law_254 rfl ?_
          refine nv_iadd (pc := 255) hx hb dL_law_255 ?_
          refine va_sld (pc := 256) hx hb hXs hbl hbA hS (i := nI ((i + 1))) (vp_in_nI (by omega) (by omega)) dL_law_256 ?_
          refine tq_i (y := zI (xs ((i + 1))).toInt) (by rw [nI_clamp (by omega), zI_of]) ?_
          refine lv_aload_n (pc := 257) hx hb dL_law_257 rfl (lv_at hl 0 rfl) ?_
          refine lv_iload_n (pc := 258) hx hb dL_law_258 rfl (lv_at hl 3 rfl) ?_
          refine nv_iconst (pc := 259) (k := 2) hx hb dL_law_259 rfl ?_
          refine nv_iadd (pc := 260) hx hb dL_law_260 ?_
          refine va_sld (pc := 261) hx hb hXs hbl hbA hS (i := nI ((i + 2))) (vp_in_nI (by omega) (by omega)) dL_law_261 ?_
          refine tq_i (y := zI (xs ((i + 2))).toInt) (by rw [nI_clamp (by omega), zI_of]) ?_
          refine lv_aload_n (pc := 262) hx hb dL_law_262 rfl (lv_at hl 0 rfl) ?_
          refine lv_iload_n (pc := 263) hx hb dL_law_263 rfl (lv_at hl 3 rfl) ?_
          refine nv_iconst (pc := 264) (k := 3) hx hb dL_law_264 rfl ?_
          refine nv_iadd (pc := 265) hx hb dL_law_265 ?_
          refine va_sld (pc := 266) hx hb hXs hbl hbA hS (i := nI ((i + 3))) (vp_in_nI (by omega) (by omega)) dL_law_266 ?_
          refine tq_i (y := zI (xs ((i + 3))).toInt) (by rw [nI_clamp (by omega), zI_of]) ?_
          refine CTi_Vp (pc := 267) am_no_ok (As := [.int (zI ((xs ((i + 1))).toInt)), .int (zI ((xs ((i + 2))).toInt)), .int (zI ((xs ((i + 3))).toInt))]) (rest := [.int (ra)]) ⟨hx, hb, hml, hown, hts⟩ (c_X1_sum l dd (ad := bd) (cI := cI) (cL := cL) (cQ := cQ) (P := P) (D := D) (ix := ix2) (ho := ho) (re := re) (wk := wk2) (tu := tu) (wa := wa) (nx := nx) (zI_rng _) (zI_rng _) (zI_rng _) hP1 hD1 hix2 hre hL) (cwV 3 hts gL_law_X1_sum rfl rfl rfl (by decide +kernel) ⟨Nat.le_of_ble_eq_true rfl, Nat.le_of_ble_eq_true rfl⟩) hK hP hD hS hA trivial hK 15 1 rfl rfl rfl [15, 16, 17, 18, 19, 20, 21, 22] [0, 1, 2, 3, 4, 5, 6, 7, 8, 9, 10, 11, 12, 13, 14] rfl rfl rfl rfl (by decide) rfl hl.1 rfl (Nat.le_of_ble_eq_true rfl) ⟨Nat.le_of_ble_eq_true rfl, Nat.le_of_ble_eq_true rfl⟩ dL_law_267 (fun rb ub H locs hwb hP hD hS => ?_)
          obtain ⟨wk2_267, ho_267⟩ := ub
          try dsimp only at hwb
          have hP : va_P dd vwCl (wC ad cI cL cQ (ix) (pw) (sg) (tm) (hd_248) (wk_248) (rc) (lc) (P) (rootN (P)) (D) (phN (D)) ++ wM bd cI cL (P) (rootN (P)) (D) (phN (D)) (ix2) (ho_267) (re) (wk2_267) (tu) (wa) (nx)) H := hP.sub [0, 1, 2, 3, 4, 5, 6, 7, 8, 9, 10, 11, 12, 13, 14, 15, 16, 17, 18, 19, 20, 21, 22] rfl
          have hD : va_D A (wC ad cI cL cQ (ix) (pw) (sg) (tm) (hd_248) (wk_248) (rc) (lc) (P) (rootN (P)) (D) (phN (D)) ++ wM bd cI cL (P) (rootN (P)) (D) (phN (D)) (ix2) (ho_267) (re) (wk2_267) (tu) (wa) (nx)) := hD.sub [0, 1, 2, 3, 4, 5, 6, 7, 8, 9, 10, 11, 12, 13, 14, 15, 16, 17, 18, 19, 20, 21, 22] (by decide) rfl
          obtain ⟨hz, hv2, hH2, hL2⟩ := mg_sum hH hL hwa hwb
          have hsN : okS P D hv2 ix pw hd_248 ix2 ho_267 re := ⟨hP1, hD1, hdv, hI, hH2, hix2, hL2, hre⟩
          clear hwa hwb
          refine lv_icmp_eq (pc := 270) (tgt := 716) hx hb dL_law_270 (by decide) (fun _ => ?_) (fun hne => absurd hz hne)
          refine lv_iinc (pc := 716) (v := nI ((i + 5))) (lv' := [(3, .int (nI ((i + 5)))), (0, .ref (b)), (1, .ref (ad 0)), (2, .ref (bd 0))]) hx hb dL_law_716 hl (k := 3) rfl (nI_inc5 _) (by decide) rfl (fun ls hl => ?_)
          refine lv_goto (pc := 719) (tgt := 18) hx hb dL_law_719 (by decide) ?_
          exact ih_18 ((i + 5)) (P) (D) (ix) (pw) (sg) (tm) (hd_248) (wk_248) (rc) (lc) (ix2) (ho_267) (re) (wk2_267) (tu) (wa) (nx) (hv2) (by omega) (by omega) (hsN) _ _ _ hP hD hS (lv_sub hl [1, 2, 3, 0] rfl)
        · skip
          refine tq_i (y := zI 5) (by rw [h32]) ?_
          refine lv_tableIn (pc := 32) (tgt := 275) hx hb dL_law_32 (by decide) (by decide) rfl (by decide) ?_
          refine lv_aload_n (pc := 275) hx hb dL_law_275 rfl (lv_at hl 1 rfl) ?_
          refine lv_aload_n (pc := 276) hx hb dL_law_276 rfl (lv_at hl 0 rfl) ?_
          refine lv_iload_n (pc := 277) hx hb dL_law_277 rfl (lv_at hl 3 rfl) ?_
          refine nv_iconst (pc := 278) (k := 1) hx hb dL_law_278 rfl ?_
          refine nv_iadd (pc := 279) hx hb dL_law_279 ?_
          refine va_sld (pc := 280) hx hb hXs hbl hbA hS (i := nI ((i + 1))) (vp_in_nI (by omega) (by omega)) dL_law_280 ?_
          refine tq_i (y := zI (xs ((i + 1))).toInt) (by rw [nI_clamp (by omega), zI_of]) ?_
          refine lv_aload_n (pc := 281) hx hb dL_law_281 rfl (lv_at hl 0 rfl) ?_
          refine lv_iload_n (pc := 282) hx hb dL_law_282 rfl (lv_at hl 3 rfl) ?_
          refine nv_iconst (pc := 283) (k := 2) hx hb dL_law_283 rfl ?_
          refine nv_iadd (pc := 284) hx hb dL_law_284 ?_
          refine va_sld (pc := 285) hx hb hXs hbl hbA hS (i := nI ((i + 2))) (vp_in_nI (by omega) (by omega)) dL_law_285 ?_
          refine tq_i (y := zI (xs ((i + 2))).toInt) (by rw [nI_clamp (by omega), zI_of]) ?_
          refine lv_aload_n (pc := 286) hx hb dL_law_286 rfl (lv_at hl 0 rfl) ?_
          refine lv_iload_n (pc := 287) hx hb dL_law_287 rfl (lv_at hl 3 rfl) ?_
          refine nv_iconst (pc := 288) (k := 3) hx hb dL_law_288 rfl ?_
          refine nv_iadd (pc := 289) hx hb dL_law_289 ?_
          refine va_sld (pc := 290) hx hb hXs hbl hbA hS (i := nI ((i + 3))) (vp_in_nI (by omega) (by omega)) dL_law_290 ?_
          refine tq_i (y := zI (xs ((i + 3))).toInt) (by rw [nI_clamp (by omega), zI_of]) ?_
          refine CTi_Vp (pc := 291) (rX_ok tR) (As := [.int (zI ((xs ((i + 1))).toInt)), .int (zI ((xs ((i + 2))).toInt)), .int (zI ((xs ((i + 3))).toInt))]) (rest := []) ⟨hx, hb, hml, hown, hts⟩ (c_X0_unit l dd (ad := ad) (cI := cI) (cL := cL) (cQ := cQ) (tR := tR) (ix := ix) (pw := pw) (sg := sg) (tm := tm) (hd := hd) (wk := wk) (rc := rc) (lc := lc) (P := P) (D := D) (zI_rng _) (zI_rng _) (zI_rng _) hP1 hD1 hH) (cwV 3 hts gL_law_X0_unit rfl rfl rfl (by decide +kernel) ⟨Nat.le_of_ble_eq_true rfl, Nat.le_of_ble_eq_true rfl⟩) hK hP hD hS hA hX hK 0 0 rfl rfl rfl [0, 1, 2, 3, 4, 5, 6, 7, 8, 9, 10, 11, 12, 13, 14] [15, 16, 17, 18, 19, 20, 21, 22] rfl rfl rfl rfl (by decide) rfl hl.1 rfl (Nat.le_of_ble_eq_true rfl) ⟨Nat.le_of_ble_eq_true rfl, Nat.le_of_ble_eq_true rfl⟩ dL_law_291 (fun ra ua H locs hwa hP hD hS => ?_)
          obtain ⟨wk_291, hd_291⟩ := ua
          try dsimp only at hwa
          have hP : va_P dd vwCl (wC ad cI cL cQ (ix) (pw) (sg) (tm) (hd_291) (wk_291) (rc) (lc) (P) (rootN (P)) (D) (phN (D)) ++ wM bd cI cL (P) (rootN (P)) (D) (phN (D)) (ix2) (ho) (re) (wk2) (tu) (wa) (nx)) H := hP.sub [8, 9, 10, 11, 12, 13, 14, 15, 16, 17, 18, 19, 20, 21, 22, 0, 1, 2, 3, 4, 5, 6, 7] rfl
          have hD : va_D A (wC ad cI cL cQ (ix) (pw) (sg) (tm) (hd_291) (wk_291) (rc) (lc) (P) (rootN (P)) (D) (phN (D)) ++ wM bd cI cL (P) (rootN (P)) (D) (phN (D)) (ix2) (ho) (re) (wk2) (tu) (wa) (nx)) := hD.sub [8, 9, 10, 11, 12, 13, 14, 15, 16, 17, 18, 19, 20, 21, 22, 0, 1, 2, 3, 4, 5, 6, 7] (by decide) rfl
          refine lv_aload_n (pc := 294) hx hb dL_law_294 rfl (lv_at hl 2 rfl) ?_
          refine lv_aload_n (pc := 295) hx hb dL_law_295 rfl (lv_at hl 0 rfl) ?_
          refine lv_iload_n (pc := 296) hx hb dL_law_296 rfl (lv_at hl 3 rfl) ?_
          refine nv_iconst (pc := 297) (k := 1) hx hb dL_law_297 rfl ?_
          refine nv_iadd (pc := 298) hx hb dL_law_298 ?_
          refine va_sld (pc := 299) hx hb hXs hbl hbA hS (i := nI ((i + 1))) (vp_in_nI (by omega) (by omega)) dL_law_299 ?_
          refine tq_i (y := zI (xs ((i + 1))).toInt) (by rw [nI_clamp (by omega), zI_of]) ?_
          refine lv_aload_n (pc := 300) hx hb dL_law_300 rfl (lv_at hl 0 rfl) ?_
          refine lv_iload_n (pc := 301) hx hb dL_law_301 rfl (lv_at hl 3 rfl) ?_
          refine nv_iconst (pc := 302) (k := 2) hx hb dL_law_302 rfl ?_
          refine nv_iadd (pc := 303) hx hb dL_law_303 ?_
          refine va_sld (pc := 304) hx hb hXs hbl hbA hS (i := nI ((i + 2))) (vp_in_nI (by omega) (by omega)) dL_law_304 ?_
          refine tq_i (y := zI (xs ((i + 2))).toInt) (by rw [nI_clamp (by omega), zI_of]) ?_
          refine lv_aload_n (pc := 305) hx hb dL_law_305 rfl (lv_at hl 0 rfl) ?_
          refine lv_iload_n (pc := 306) hx hb dL_law_306 rfl (lv_at hl 3 rfl) ?_
          refine nv_iconst (pc := 307) (k := 3) hx hb dL_law_307 rfl ?_
          refine nv_iadd (pc := 308) hx hb dL_law_308 ?_
          refine va_sld (pc := 309) hx hb hXs hbl hbA hS (i := nI ((i + 3))) (vp_in_nI (by omega) (by omega)) dL_law_309 ?_
          refine tq_i (y := zI (xs ((i + 3))).toInt) (by rw [nI_clamp (by omega), zI_of]) ?_
          refine CTi_Vp (pc := 310) am_no_ok (As := [.int (zI ((xs ((i + 1))).toInt)), .int (zI ((xs ((i + 2))).toInt)), .int (zI ((xs ((i + 3))).toInt))]) (rest := [.int (ra)]) ⟨hx, hb, hml, hown, hts⟩ (c_X1_unit l dd (ad := bd) (cI := cI) (cL := cL) (cQ := cQ) (P := P) (D := D) (ix := ix2) (ho := ho) (re := re) (wk := wk2) (tu := tu) (wa := wa) (nx := nx) (zI_rng _) (zI_rng _) (zI_rng _) hP1 hD1 hre hL) (cwV 3 hts gL_law_X1_unit rfl rfl rfl (by decide +kernel) ⟨Nat.le_of_ble_eq_true rfl, Nat.le_of_ble_eq_true rfl⟩) hK hP hD hS hA trivial hK 15 1 rfl rfl rfl [15, 16, 17, 18, 19, 20, 21, 22] [0, 1, 2, 3, 4, 5, 6, 7, 8, 9, 10, 11, 12, 13, 14] rfl rfl rfl rfl (by decide) rfl hl.1 rfl (Nat.le_of_ble_eq_true rfl) ⟨Nat.le_of_ble_eq_true rfl, Nat.le_of_ble_eq_true rfl⟩ dL_law_310 (fun rb ub H locs hwb hP hD hS => ?_)
          obtain ⟨wk2_310, ho_310⟩ := ub
          try dsimp only at hwb
          have hP : va_P dd vwCl (wC ad cI cL cQ (ix) (pw) (sg) (tm) (hd_291) (wk_291) (rc) (lc) (P) (rootN (P)) (D) (phN (D)) ++ wM bd cI cL (P) (rootN (P)) (D) (phN (D)) (ix2) (ho_310) (re) (wk2_310) (tu) (wa) (nx)) H := hP.sub [0, 1, 2, 3, 4, 5, 6, 7, 8, 9, 10, 11, 12, 13, 14, 15, 16, 17, 18, 19, 20, 21, 22] rfl
          have hD : va_D A (wC ad cI cL cQ (ix) (pw) (sg) (tm) (hd_291) (wk_291) (rc) (lc) (P) (rootN (P)) (D) (phN (D)) ++ wM bd cI cL (P) (rootN (P)) (D) (phN (D)) (ix2) (ho_310) (re) (wk2_310) (tu) (wa) (nx)) := hD.sub [0, 1, 2, 3, 4, 5, 6, 7, 8, 9, 10, 11, 12, 13, 14, 15, 16, 17, 18, 19, 20, 21, 22] (by decide) rfl
          obtain ⟨hz, hv2, hH2, hL2⟩ := mg_u hwa hwb (fun a1 b1 => mg_G hH hL a1 b1) (fun a1 b1 => mg_st hH hL a1 b1)
          have hsN : okS P D hv2 ix pw hd_291 ix2 ho_310 re := ⟨hP1, hD1, hdv, hI, hH2, hix2, hL2, hre⟩
          clear hwa hwb
          refine lv_icmp_eq (pc := 313) (tgt := 716) hx hb dL_law_313 (by decide) (fun _ => ?_) (fun hne => absurd hz hne)
          refine lv_iinc (pc := 716) (v := nI ((i + 5))) (lv' := [(3, .int (nI ((i + 5)))), (0, .ref (b)), (1, .ref (ad 0)), (2, .ref (bd 0))]) hx hb dL_law_716 hl (k := 3) rfl (nI_inc5 _) (by decide) rfl (fun ls hl => ?_)
          refine lv_goto (pc := 719) (tgt := 18) hx hb dL_law_719 (by decide) ?_
          exact ih_18 ((i + 5)) (P) (D) (ix) (pw) (sg) (tm) (hd_291) (wk_291) (rc) (lc) (ix2) (ho_310) (re) (wk2_310) (tu) (wa) (nx) (hv2) (by omega) (by omega) (hsN) _ _ _ hP hD hS (lv_sub hl [1, 2, 3, 0] rfl)
        · skip
          refine tq_i (y := zI 6) (by rw [h32]) ?_
          refine lv_tableIn (pc := 32) (tgt := 318) hx hb dL_law_32 (by decide) (by decide) rfl (by decide) ?_
          refine lv_aload_n (pc := 318) hx hb dL_law_318 rfl (lv_at hl 1 rfl) ?_
          refine lv_aload_n (pc := 319) hx hb dL_law_319 rfl (lv_at hl 0 rfl) ?_
          refine lv_iload_n (pc := 320) hx hb dL_law_320 rfl (lv_at hl 3 rfl) ?_
          refine nv_iconst (pc := 321) (k := 1) hx hb dL_law_321 rfl ?_
          refine nv_iadd (pc := 322) hx hb dL_law_322 ?_
          refine va_sld (pc := 323) hx hb hXs hbl hbA hS (i := nI ((i + 1))) (vp_in_nI (by omega) (by omega)) dL_law_323 ?_
          refine tq_i (y := zI (xs ((i + 1))).toInt) (by rw [nI_clamp (by omega), zI_of]) ?_
          refine lv_aload_n (pc := 324) hx hb dL_law_324 rfl (lv_at hl 0 rfl) ?_
          refine lv_iload_n (pc := 325) hx hb dL_law_325 rfl (lv_at hl 3 rfl) ?_
          refine nv_iconst (pc := 326) (k := 2) hx hb dL_law_326 rfl ?_
          refine nv_iadd (pc := 327) hx hb dL_law_327 ?_
          refine va_sld (pc := 328) hx hb hXs hbl hbA hS (i := nI ((i + 2))) (vp_in_nI (by omega) (by omega)) dL_law_328 ?_
          refine tq_i (y := zI (xs ((i + 2))).toInt) (by rw [nI_clamp (by omega), zI_of]) ?_
          refine lv_aload_n (pc := 329) hx hb dL_law_329 rfl (lv_at hl 0 rfl) ?_
          refine lv_iload_n (pc := 330) hx hb dL_law_330 rfl (lv_at hl 3 rfl) ?_
          refine nv_iconst (pc := 331) (k := 3) hx hb dL_law_331 rfl ?_
          refine nv_iadd (pc := 332) hx hb dL_law_332 ?_
          refine va_sld (pc := 333) hx hb hXs hbl hbA hS (i := nI ((i + 3))) (vp_in_nI (by omega) (by omega)) dL_law_333 ?_
          refine tq_i (y := zI (xs ((i + 3))).toInt) (by rw [nI_clamp (by omega), zI_of]) ?_
          refine lv_aload_n (pc := 334) hx hb dL_law_334 rfl (lv_at hl 0 rfl) ?_
          refine lv_iload_n (pc := 335) hx hb dL_law_335 rfl (lv_at hl 3 rfl) ?_
          refine nv_iconst (pc := 336) (k := 4) hx hb dL_law_336 rfl ?_
          refine nv_iadd (pc := 337) hx hb dL_law_337 ?_
          refine va_sld (pc := 338) hx hb hXs hbl hbA hS (i := nI ((i + 4))) (vp_in_nI (by omega) (by omega)) dL_law_338 ?_
          refine tq_i (y := zI (xs ((i + 4))).toInt) (by rw [nI_clamp (by omega), zI_of]) ?_
          refine CTi_Vp (pc := 339) (rX_ok tR) (As := [.int (zI ((xs ((i + 1))).toInt)), .int (zI ((xs ((i + 2))).toInt)), .int (zI ((xs ((i + 3))).toInt)), .int (zI ((xs ((i + 4))).toInt))]) (rest := []) ⟨hx, hb, hml, hown, hts⟩ (c_X0_join l dd (ad := ad) (cI := cI) (cL := cL) (cQ := cQ) (tR := tR) (ix := ix) (pw := pw) (sg := sg) (tm := tm) (hd := hd) (wk := wk) (rc := rc) (lc := lc) (P := P) (D := D) (zI_rng _) (zI_rng _) (zI_rng _) (zI_rng _) hP1 hD1 hH) (cwV 4 hts gL_law_X0_join rfl rfl rfl (by decide +kernel) ⟨Nat.le_of_ble_eq_true rfl, Nat.le_of_ble_eq_true rfl⟩) hK hP hD hS hA hX hK 0 0 rfl rfl rfl [0, 1, 2, 3, 4, 5, 6, 7, 8, 9, 10, 11, 12, 13, 14] [15, 16, 17, 18, 19, 20, 21, 22] rfl rfl rfl rfl (by decide) rfl hl.1 rfl (Nat.le_of_ble_eq_true rfl) ⟨Nat.le_of_ble_eq_true rfl, Nat.le_of_ble_eq_true rfl⟩ dL_law_339 (fun ra ua H locs hwa hP hD hS => ?_)
          obtain ⟨wk_339, hd_339⟩ := ua
          try dsimp only at hwa
          have hP : va_P dd vwCl (wC ad cI cL cQ (ix) (pw) (sg) (tm) (hd_339) (wk_339) (rc) (lc) (P) (rootN (P)) (D) (phN (D)) ++ wM bd cI cL (P) (rootN (P)) (D) (phN (D)) (ix2) (ho) (re) (wk2) (tu) (wa) (nx)) H := hP.sub [8, 9, 10, 11, 12, 13, 14, 15, 16, 17, 18, 19, 20, 21, 22, 0, 1, 2, 3, 4, 5, 6, 7] rfl
          have hD : va_D A (wC ad cI cL cQ (ix) (pw) (sg) (tm) (hd_339) (wk_339) (rc) (lc) (P) (rootN (P)) (D) (phN (D)) ++ wM bd cI cL (P) (rootN (P)) (D) (phN (D)) (ix2) (ho) (re) (wk2) (tu) (wa) (nx)) := hD.sub [8, 9, 10, 11, 12, 13, 14, 15, 16, 17, 18, 19, 20, 21, 22, 0, 1, 2, 3, 4, 5, 6, 7] (by decide) rfl
          refine lv_aload_n (pc := 342) hx hb dL_law_342 rfl (lv_at hl 2 rfl) ?_
          refine lv_aload_n (pc := 343) hx hb dL_law_343 rfl (lv_at hl 0 rfl) ?_
          refine lv_iload_n (pc := 344) hx hb dL_law_344 rfl (lv_at hl 3 rfl) ?_
          refine nv_iconst (pc := 345) (k := 1) hx hb dL_law_345 rfl ?_
          refine nv_iadd (pc := 346) hx hb dL_law_346 ?_
          refine va_sld (pc := 347) hx hb hXs hbl hbA hS (i := nI ((i + 1))) (vp_in_nI (by omega) (by omega)) dL_law_347 ?_
          refine tq_i (y := zI (xs ((i + 1))).toInt) (by rw [nI_clamp (by omega), zI_of]) ?_
          refine lv_aload_n (pc := 348) hx hb dL_law_348 rfl (lv_at hl 0 rfl) ?_
          refine lv_iload_n (pc := 349) hx hb dL_law_349 rfl (lv_at hl 3 rfl) ?_
          refine nv_iconst (pc := 350) (k := 2) hx hb dL_law_350 rfl ?_
          refine nv_iadd (pc := 351) hx hb dL_law_351 ?_
          refine va_sld (pc := 352) hx hb hXs hbl hbA hS (i := nI ((i + 2))) (vp_in_nI (by omega) (by omega)) dL_law_352 ?_
          refine tq_i (y := zI (xs ((i + 2))).toInt) (by rw [nI_clamp (by omega), zI_of]) ?_
          refine lv_aload_n (pc := 353) hx hb dL_law_353 rfl (lv_at hl 0 rfl) ?_
          refine lv_iload_n (pc := 354) hx hb dL_law_354 rfl (lv_at hl 3 rfl) ?_
          refine nv_iconst (pc := 355) (k := 3) hx hb dL_law_355 rfl ?_
          refine nv_iadd (pc := 356) hx hb dL_law_356 ?_
          refine va_sld (pc := 357) hx hb hXs hbl hbA hS (i := nI ((i + 3))) (vp_in_nI (by omega) (by omega)) dL_law_357 ?_
          refine tq_i (y := zI (xs ((i + 3))).toInt) (by rw [nI_clamp (by omega), zI_of]) ?_
          refine lv_aload_n (pc := 358) hx hb dL_law_358 rfl (lv_at hl 0 rfl) ?_
          refine lv_iload_n (pc := 359) hx hb dL_law_359 rfl (lv_at hl 3 rfl) ?_
          refine nv_iconst (pc := 360) (k := 4) hx hb dL_law_360 rfl ?_
          refine nv_iadd (pc := 361) hx hb dL_law_361 ?_
          refine va_sld (pc := 362) hx hb hXs hbl hbA hS (i := nI ((i + 4))) (vp_in_nI (by omega) (by omega)) dL_law_362 ?_
          refine tq_i (y := zI (xs ((i + 4))).toInt) (by rw [nI_clamp (by omega), zI_of]) ?_
          refine CTi_Vp (pc := 363) am_no_ok (As := [.int (zI ((xs ((i + 1))).toInt)), .int (zI ((xs ((i + 2))).toInt)), .int (zI ((xs ((i + 3))).toInt)), .int (zI ((xs ((i + 4))).toInt))]) (rest := [.int (ra)]) ⟨hx, hb, hml, hown, hts⟩ (c_X1_join l dd (ad := bd) (cI := cI) (cL := cL) (cQ := cQ) (P := P) (D := D) (ix := ix2) (ho := ho) (re := re) (wk := wk2) (tu := tu) (wa := wa) (nx := nx) (zI_rng _) (zI_rng _) (zI_rng _) (zI_rng _) hP1 hD1 hre hL) (cwV 4 hts gL_law_X1_join rfl rfl rfl (by decide +kernel) ⟨Nat.le_of_ble_eq_true rfl, Nat.le_of_ble_eq_true rfl⟩) hK hP hD hS hA trivial hK 15 1 rfl rfl rfl [15, 16, 17, 18, 19, 20, 21, 22] [0, 1, 2, 3, 4, 5, 6, 7, 8, 9, 10, 11, 12, 13, 14] rfl rfl rfl rfl (by decide) rfl hl.1 rfl (Nat.le_of_ble_eq_true rfl) ⟨Nat.le_of_ble_eq_true rfl, Nat.le_of_ble_eq_true rfl⟩ dL_law_363 (fun rb ub H locs hwb hP hD hS => ?_)
          obtain ⟨wk2_363, ho_363⟩ := ub
          try dsimp only at hwb
          have hP : va_P dd vwCl (wC ad cI cL cQ (ix) (pw) (sg) (tm) (hd_339) (wk_339) (rc) (lc) (P) (rootN (P)) (D) (phN (D)) ++ wM bd cI cL (P) (rootN (P)) (D) (phN (D)) (ix2) (ho_363) (re) (wk2_363) (tu) (wa) (nx)) H := hP.sub [0, 1, 2, 3, 4, 5, 6, 7, 8, 9, 10, 11, 12, 13, 14, 15, 16, 17, 18, 19, 20, 21, 22] rfl
          have hD : va_D A (wC ad cI cL cQ (ix) (pw) (sg) (tm) (hd_339) (wk_339) (rc) (lc) (P) (rootN (P)) (D) (phN (D)) ++ wM bd cI cL (P) (rootN (P)) (D) (phN (D)) (ix2) (ho_363) (re) (wk2_363) (tu) (wa) (nx)) := hD.sub [0, 1, 2, 3, 4, 5, 6, 7, 8, 9, 10, 11, 12, 13, 14, 15, 16, 17, 18, 19, 20, 21, 22] (by decide) rfl
          obtain ⟨hz, hv2, hH2, hL2⟩ := mg_u hwa hwb (fun a1 b1 => mg_G hH hL a1 b1) (fun a1 b1 => mg_st hH hL a1 b1)
          have hsN : okS P D hv2 ix pw hd_339 ix2 ho_363 re := ⟨hP1, hD1, hdv, hI, hH2, hix2, hL2, hre⟩
          clear hwa hwb
          refine lv_icmp_eq (pc := 366) (tgt := 716) hx hb dL_law_366 (by decide) (fun _ => ?_) (fun hne => absurd hz hne)
          refine lv_iinc (pc := 716) (v := nI ((i + 5))) (lv' := [(3, .int (nI ((i + 5)))), (0, .ref (b)), (1, .ref (ad 0)), (2, .ref (bd 0))]) hx hb dL_law_716 hl (k := 3) rfl (nI_inc5 _) (by decide) rfl (fun ls hl => ?_)
          refine lv_goto (pc := 719) (tgt := 18) hx hb dL_law_719 (by decide) ?_
          exact ih_18 ((i + 5)) (P) (D) (ix) (pw) (sg) (tm) (hd_339) (wk_339) (rc) (lc) (ix2) (ho_363) (re) (wk2_363) (tu) (wa) (nx) (hv2) (by omega) (by omega) (hsN) _ _ _ hP hD hS (lv_sub hl [1, 2, 3, 0] rfl)
        · skip
          refine tq_i (y := zI 7) (by rw [h32]) ?_
          refine lv_tableIn (pc := 32) (tgt := 371) hx hb dL_law_32 (by decide) (by decide) rfl (by decide) ?_
          refine lv_aload_n (pc := 371) hx hb dL_law_371 rfl (lv_at hl 1 rfl) ?_
          refine lv_aload_n (pc := 372) hx hb dL_law_372 rfl (lv_at hl 0 rfl) ?_
          refine lv_iload_n (pc := 373) hx hb dL_law_373 rfl (lv_at hl 3 rfl) ?_
          refine nv_iconst (pc := 374) (k := 1) hx hb dL_law_374 rfl ?_
          refine nv_iadd (pc := 375) hx hb dL_law_375 ?_
          refine va_sld (pc := 376) hx hb hXs hbl hbA hS (i := nI ((i + 1))) (vp_in_nI (by omega) (by omega)) dL_law_376 ?_
          refine tq_i (y := zI (xs ((i + 1))).toInt) (by rw [nI_clamp (by omega), zI_of]) ?_
          refine lv_aload_n (pc := 377) hx hb dL_law_377 rfl (lv_at hl 0 rfl) ?_
          refine lv_iload_n (pc := 378) hx hb dL_law_378 rfl (lv_at hl 3 rfl) ?_
          refine nv_iconst (pc := 379) (k := 2) hx hb dL_law_379 rfl ?_
          refine nv_iadd (pc := 380) hx hb dL_law_380 ?_
          refine va_sld (pc := 381) hx hb hXs hbl hbA hS (i := nI ((i + 2))) (vp_in_nI (by omega) (by omega)) dL_law_381 ?_
          refine tq_i (y := zI (xs ((i + 2))).toInt) (by rw [nI_clamp (by omega), zI_of]) ?_
          refine lv_aload_n (pc := 382) hx hb dL_law_382 rfl (lv_at hl 0 rfl) ?_
          refine lv_iload_n (pc := 383) hx hb dL_law_383 rfl (lv_at hl 3 rfl) ?_
          refine nv_iconst (pc := 384) (k := 3) hx hb dL_law_384 rfl ?_
          refine nv_iadd (pc := 385) hx hb dL_law_385 ?_
          refine va_sld (pc := 386) hx hb hXs hbl hbA hS (i := nI ((i + 3))) (vp_in_nI (by omega) (by omega)) dL_law_386 ?_
          refine tq_i (y := zI (xs ((i + 3))).toInt) (by rw [nI_clamp (by omega), zI_of]) ?_
          refine CTi_Vp (pc := 387) (rX_ok tR) (As := [.int (zI ((xs ((i + 1))).toInt)), .int (zI ((xs ((i + 2))).toInt)), .int (zI ((xs ((i + 3))).toInt))]) (rest := []) ⟨hx, hb, hml, hown, hts⟩ (c_X0_turn l dd (ad := ad) (cI := cI) (cL := cL) (cQ := cQ) (tR := tR) (ix := ix) (pw := pw) (sg := sg) (tm := tm) (hd := hd) (wk := wk) (rc := rc) (lc := lc) (P := P) (D := D) (zI_rng _) (zI_rng _) (zI_rng _) hP1 hD1 hH) (cwV 3 hts gL_law_X0_turn rfl rfl rfl (by decide +kernel) ⟨Nat.le_of_ble_eq_true rfl, Nat.le_of_ble_eq_true rfl⟩) hK hP hD hS hA hX hK 0 0 rfl rfl rfl [0, 1, 2, 3, 4, 5, 6, 7, 8, 9, 10, 11, 12, 13, 14] [15, 16, 17, 18, 19, 20, 21, 22] rfl rfl rfl rfl (by decide) rfl hl.1 rfl (Nat.le_of_ble_eq_true rfl) ⟨Nat.le_of_ble_eq_true rfl, Nat.le_of_ble_eq_true rfl⟩ dL_law_387 (fun ra ua H locs hwa hP hD hS => ?_)
          obtain ⟨wk_387, hd_387⟩ := ua
          try dsimp only at hwa
          have hP : va_P dd vwCl (wC ad cI cL cQ (ix) (pw) (sg) (tm) (hd_387) (wk_387) (rc) (lc) (P) (rootN (P)) (D) (phN (D)) ++ wM bd cI cL (P) (rootN (P)) (D) (phN (D)) (ix2) (ho) (re) (wk2) (tu) (wa) (nx)) H := hP.sub [8, 9, 10, 11, 12, 13, 14, 15, 16, 17, 18, 19, 20, 21, 22, 0, 1, 2, 3, 4, 5, 6, 7] rfl
          have hD : va_D A (wC ad cI cL cQ (ix) (pw) (sg) (tm) (hd_387) (wk_387) (rc) (lc) (P) (rootN (P)) (D) (phN (D)) ++ wM bd cI cL (P) (rootN (P)) (D) (phN (D)) (ix2) (ho) (re) (wk2) (tu) (wa) (nx)) := hD.sub [8, 9, 10, 11, 12, 13, 14, 15, 16, 17, 18, 19, 20, 21, 22, 0, 1, 2, 3, 4, 5, 6, 7] (by decide) rfl
          refine lv_aload_n (pc := 390) hx hb dL_law_390 rfl (lv_at hl 2 rfl) ?_
          refine lv_aload_n (pc := 391) hx hb dL_law_391 rfl (lv_at hl 0 rfl) ?_
          refine lv_iload_n (pc := 392) hx hb dL_law_392 rfl (lv_at hl 3 rfl) ?_
          refine nv_iconst (pc := 393) (k := 1) hx hb dL_law_393 rfl ?_
          refine nv_iadd (pc := 394) hx hb dL_law_394 ?_
          refine va_sld (pc := 395) hx hb hXs hbl hbA hS (i := nI ((i + 1))) (vp_in_nI (by omega) (by omega)) dL_law_395 ?_
          refine tq_i (y := zI (xs ((i + 1))).toInt) (by rw [nI_clamp (by omega), zI_of]) ?_
          refine lv_aload_n (pc := 396) hx hb dL_law_396 rfl (lv_at hl 0 rfl) ?_
          refine lv_iload_n (pc := 397) hx hb dL_law_397 rfl (lv_at hl 3 rfl) ?_
          refine nv_iconst (pc := 398) (k := 2) hx hb dL_law_398 rfl ?_
          refine nv_iadd (pc := 399) hx hb dL_law_399 ?_
          refine va_sld (pc := 400) hx hb hXs hbl hbA hS (i := nI ((i + 2))) (vp_in_nI (by omega) (by omega)) dL_law_400 ?_
          refine tq_i (y := zI (xs ((i + 2))).toInt) (by rw [nI_clamp (by omega), zI_of]) ?_
          refine lv_aload_n (pc := 401) hx hb dL_law_401 rfl (lv_at hl 0 rfl) ?_
          refine lv_iload_n (pc := 402) hx hb dL_law_402 rfl (lv_at hl 3 rfl) ?_
          refine nv_iconst (pc := 403) (k := 3) hx hb dL_law_403 rfl ?_
          refine nv_iadd (pc := 404) hx hb dL_law_404 ?_
          refine va_sld (pc := 405) hx hb hXs hbl hbA hS (i := nI ((i + 3))) (vp_in_nI (by omega) (by omega)) dL_law_405 ?_
          refine tq_i (y := zI (xs ((i + 3))).toInt) (by rw [nI_clamp (by omega), zI_of]) ?_
          refine CTi_Vp (pc := 406) am_no_ok (As := [.int (zI ((xs ((i + 1))).toInt)), .int (zI ((xs ((i + 2))).toInt)), .int (zI ((xs ((i + 3))).toInt))]) (rest := [.int (ra)]) ⟨hx, hb, hml, hown, hts⟩ (c_X1_turn l dd (ad := bd) (cI := cI) (cL := cL) (cQ := cQ) (P := P) (D := D) (ix := ix2) (ho := ho) (re := re) (wk := wk2) (tu := tu) (wa := wa) (nx := nx) (zI_rng _) (zI_rng _) (zI_rng _) hP1 hD1 hre hL) (cwV 3 hts gL_law_X1_turn rfl rfl rfl (by decide +kernel) ⟨Nat.le_of_ble_eq_true rfl, Nat.le_of_ble_eq_true rfl⟩) hK hP hD hS hA trivial hK 15 1 rfl rfl rfl [15, 16, 17, 18, 19, 20, 21, 22] [0, 1, 2, 3, 4, 5, 6, 7, 8, 9, 10, 11, 12, 13, 14] rfl rfl rfl rfl (by decide) rfl hl.1 rfl (Nat.le_of_ble_eq_true rfl) ⟨Nat.le_of_ble_eq_true rfl, Nat.le_of_ble_eq_true rfl⟩ dL_law_406 (fun rb ub H locs hwb hP hD hS => ?_)
          obtain ⟨wk2_406, ho_406⟩ := ub
          try dsimp only at hwb
          have hP : va_P dd vwCl (wC ad cI cL cQ (ix) (pw) (sg) (tm) (hd_387) (wk_387) (rc) (lc) (P) (rootN (P)) (D) (phN (D)) ++ wM bd cI cL (P) (rootN (P)) (D) (phN (D)) (ix2) (ho_406) (re) (wk2_406) (tu) (wa) (nx)) H := hP.sub [0, 1, 2, 3, 4, 5, 6, 7, 8, 9, 10, 11, 12, 13, 14, 15, 16, 17, 18, 19, 20, 21, 22] rfl
          have hD : va_D A (wC ad cI cL cQ (ix) (pw) (sg) (tm) (hd_387) (wk_387) (rc) (lc) (P) (rootN (P)) (D) (phN (D)) ++ wM bd cI cL (P) (rootN (P)) (D) (phN (D)) (ix2) (ho_406) (re) (wk2_406) (tu) (wa) (nx)) := hD.sub [0, 1, 2, 3, 4, 5, 6, 7, 8, 9, 10, 11, 12, 13, 14, 15, 16, 17, 18, 19, 20, 21, 22] (by decide) rfl
          rw [← Bool.not_eq_true] at hwa hwb
          obtain ⟨hz, hv2, hH2, hL2⟩ := mg_u hwa hwb (fun a1 b1 => mg_G hH hL a1 b1) (fun a1 b1 => mg_st hH hL a1 b1)
          have hsN : okS P D hv2 ix pw hd_387 ix2 ho_406 re := ⟨hP1, hD1, hdv, hI, hH2, hix2, hL2, hre⟩
          clear hwa hwb
          refine lv_icmp_eq (pc := 409) (tgt := 716) hx hb dL_law_409 (by decide) (fun _ => ?_) (fun hne => absurd hz hne)
          refine lv_iinc (pc := 716) (v := nI ((i + 5))) (lv' := [(3, .int (nI ((i + 5)))), (0, .ref (b)), (1, .ref (ad 0)), (2, .ref (bd 0))]) hx hb dL_law_716 hl (k := 3) rfl (nI_inc5 _) (by decide) rfl (fun ls hl => ?_)
          refine lv_goto (pc := 719) (tgt := 18) hx hb dL_law_719 (by decide) ?_
          exact ih_18 ((i + 5)) (P) (D) (ix) (pw) (sg) (tm) (hd_387) (wk_387) (rc) (lc) (ix2) (ho_406) (re) (wk2_406) (tu) (wa) (nx) (hv2) (by omega) (by omega) (hsN) _ _ _ hP hD hS (lv_sub hl [1, 2, 3, 0] rfl)
        · skip
          refine tq_i (y := zI 8) (by rw [h32]) ?_
          refine lv_tableIn (pc := 32) (tgt := 414) hx hb dL_law_32 (by decide) (by decide) rfl (by decide) ?_
          refine lv_aload_n (pc := 414) hx hb dL_law_414 rfl (lv_at hl 1 rfl) ?_
          refine lv_aload_n (pc := 415) hx hb dL_law_415 rfl (lv_at hl 0 rfl) ?_
          refine lv_iload_n (pc := 416) hx hb dL_law_416 rfl (lv_at hl 3 rfl) ?_
          refine nv_iconst (pc := 417) (k := 1) hx hb dL_law_417 rfl ?_
          refine nv_iadd (pc := 418) hx hb dL_law_418 ?_
          refine va_sld (pc := 419) hx hb hXs hbl hbA hS (i := nI ((i + 1))) (vp_in_nI (by omega) (by omega)) dL_law_419 ?_
          refine tq_i (y := zI (xs ((i + 1))).toInt) (by rw [nI_clamp (by omega), zI_of]) ?_
          refine lv_aload_n (pc := 420) hx hb dL_law_420 rfl (lv_at hl 0 rfl) ?_
          refine lv_iload_n (pc := 421) hx hb dL_law_421 rfl (lv_at hl 3 rfl) ?_
          refine nv_iconst (pc := 422) (k := 2) hx hb dL_law_422 rfl ?_
          refine nv_iadd (pc := 423) hx hb dL_law_423 ?_
          refine va_sld (pc := 424) hx hb hXs hbl hbA hS (i := nI ((i + 2))) (vp_in_nI (by omega) (by omega)) dL_law_424 ?_
          refine tq_i (y := zI (xs ((i + 2))).toInt) (by rw [nI_clamp (by omega), zI_of]) ?_
          refine CTi_Vp (pc := 425) (rX_ok tR) (As := [.int (zI ((xs ((i + 1))).toInt)), .int (zI ((xs ((i + 2))).toInt))]) (rest := []) ⟨hx, hb, hml, hown, hts⟩ (c_X0_at l dd (ad := ad) (cI := cI) (cL := cL) (cQ := cQ) (tR := tR) (ix := ix) (pw := pw) (sg := sg) (tm := tm) (hd := hd) (wk := wk) (rc := rc) (lc := lc) (P := P) (D := D) (zI_rng _) (zI_rng _) hP1 hD1 hH) (cwV 2 hts gL_law_X0_at rfl rfl rfl (by decide +kernel) ⟨Nat.le_of_ble_eq_true rfl, Nat.le_of_ble_eq_true rfl⟩) hK hP hD hS hA hX hK 0 0 rfl rfl rfl [0, 1, 2, 3, 4, 5, 6, 7, 8, 9, 10, 11, 12, 13, 14] [15, 16, 17, 18, 19, 20, 21, 22] rfl rfl rfl rfl (by decide) rfl hl.1 rfl (Nat.le_of_ble_eq_true rfl) ⟨Nat.le_of_ble_eq_true rfl, Nat.le_of_ble_eq_true rfl⟩ dL_law_425 (fun ra _ H locs hwa hP hD hS => ?_)
          try dsimp only at hwa
          have hP : va_P dd vwCl (wC ad cI cL cQ (ix) (pw) (sg) (tm) (hd) (wk) (rc) (lc) (P) (rootN (P)) (D) (phN (D)) ++ wM bd cI cL (P) (rootN (P)) (D) (phN (D)) (ix2) (ho) (re) (wk2) (tu) (wa) (nx)) H := hP.sub [8, 9, 10, 11, 12, 13, 14, 15, 16, 17, 18, 19, 20, 21, 22, 0, 1, 2, 3, 4, 5, 6, 7] rfl
          have hD : va_D A (wC ad cI cL cQ (ix) (pw) (sg) (tm) (hd) (wk) (rc) (lc) (P) (rootN (P)) (D) (phN (D)) ++ wM bd cI cL (P) (rootN (P)) (D) (phN (D)) (ix2) (ho) (re) (wk2) (tu) (wa) (nx)) := hD.sub [8, 9, 10, 11, 12, 13, 14, 15, 16, 17, 18, 19, 20, 21, 22, 0, 1, 2, 3, 4, 5, 6, 7] (by decide) rfl
          refine lv_aload_n (pc := 428) hx hb dL_law_428 rfl (lv_at hl 2 rfl) ?_
          refine lv_aload_n (pc := 429) hx hb dL_law_429 rfl (lv_at hl 0 rfl) ?_
          refine lv_iload_n (pc := 430) hx hb dL_law_430 rfl (lv_at hl 3 rfl) ?_
          refine nv_iconst (pc := 431) (k := 1) hx hb dL_law_431 rfl ?_
          refine nv_iadd (pc := 432) hx hb dL_law_432 ?_
          refine va_sld (pc := 433) hx hb hXs hbl hbA hS (i := nI ((i + 1))) (vp_in_nI (by omega) (by omega)) dL_law_433 ?_
          refine tq_i (y := zI (xs ((i + 1))).toInt) (by rw [nI_clamp (by omega), zI_of]) ?_
          refine lv_aload_n (pc := 434) hx hb dL_law_434 rfl (lv_at hl 0 rfl) ?_
          refine lv_iload_n (pc := 435) hx hb dL_law_435 rfl (lv_at hl 3 rfl) ?_
          refine nv_iconst (pc := 436) (k := 2) hx hb dL_law_436 rfl ?_
          refine nv_iadd (pc := 437) hx hb dL_law_437 ?_
          refine va_sld (pc := 438) hx hb hXs hbl hbA hS (i := nI ((i + 2))) (vp_in_nI (by omega) (by omega)) dL_law_438 ?_
          refine tq_i (y := zI (xs ((i + 2))).toInt) (by rw [nI_clamp (by omega), zI_of]) ?_
          refine CTi_Vp (pc := 439) am_no_ok (As := [.int (zI ((xs ((i + 1))).toInt)), .int (zI ((xs ((i + 2))).toInt))]) (rest := [.int (ra)]) ⟨hx, hb, hml, hown, hts⟩ (c_X1_at l dd (ad := bd) (cI := cI) (cL := cL) (cQ := cQ) (P := P) (D := D) (ix := ix2) (ho := ho) (re := re) (wk := wk2) (tu := tu) (wa := wa) (nx := nx) (zI_rng _) (zI_rng _) hP1 hD1 hL) (cwV 2 hts gL_law_X1_at rfl rfl rfl (by decide +kernel) ⟨Nat.le_of_ble_eq_true rfl, Nat.le_of_ble_eq_true rfl⟩) hK hP hD hS hA trivial hK 15 1 rfl rfl rfl [15, 16, 17, 18, 19, 20, 21, 22] [0, 1, 2, 3, 4, 5, 6, 7, 8, 9, 10, 11, 12, 13, 14] rfl rfl rfl rfl (by decide) rfl hl.1 rfl (Nat.le_of_ble_eq_true rfl) ⟨Nat.le_of_ble_eq_true rfl, Nat.le_of_ble_eq_true rfl⟩ dL_law_439 (fun rb _ H locs hwb hP hD hS => ?_)
          try dsimp only at hwb
          have hP : va_P dd vwCl (wC ad cI cL cQ (ix) (pw) (sg) (tm) (hd) (wk) (rc) (lc) (P) (rootN (P)) (D) (phN (D)) ++ wM bd cI cL (P) (rootN (P)) (D) (phN (D)) (ix2) (ho) (re) (wk2) (tu) (wa) (nx)) H := hP.sub [0, 1, 2, 3, 4, 5, 6, 7, 8, 9, 10, 11, 12, 13, 14, 15, 16, 17, 18, 19, 20, 21, 22] rfl
          have hD : va_D A (wC ad cI cL cQ (ix) (pw) (sg) (tm) (hd) (wk) (rc) (lc) (P) (rootN (P)) (D) (phN (D)) ++ wM bd cI cL (P) (rootN (P)) (D) (phN (D)) (ix2) (ho) (re) (wk2) (tu) (wa) (nx)) := hD.sub [0, 1, 2, 3, 4, 5, 6, 7, 8, 9, 10, 11, 12, 13, 14, 15, 16, 17, 18, 19, 20, 21, 22] (by decide) rfl
          have hz : ra = rb := hwa.trans hwb.symm
          have hsN := hs
          clear hwa hwb
          refine lv_icmp_eq (pc := 442) (tgt := 716) hx hb dL_law_442 (by decide) (fun _ => ?_) (fun hne => absurd hz hne)
          refine lv_iinc (pc := 716) (v := nI ((i + 5))) (lv' := [(3, .int (nI ((i + 5)))), (0, .ref (b)), (1, .ref (ad 0)), (2, .ref (bd 0))]) hx hb dL_law_716 hl (k := 3) rfl (nI_inc5 _) (by decide) rfl (fun ls hl => ?_)
          refine lv_goto (pc := 719) (tgt := 18) hx hb dL_law_719 (by decide) ?_
          exact ih_18 ((i + 5)) (P) (D) (ix) (pw) (sg) (tm) (hd) (wk) (rc) (lc) (ix2) (ho) (re) (wk2) (tu) (wa) (nx) (hv) (by omega) (by omega) (hsN) _ _ _ hP hD hS (lv_sub hl [1, 2, 3, 0] rfl)
        · skip
          refine tq_i (y := zI 9) (by rw [h32]) ?_
          refine lv_tableIn (pc := 32) (tgt := 447) hx hb dL_law_32 (by decide) (by decide) rfl (by decide) ?_
          refine lv_aload_n (pc := 447) hx hb dL_law_447 rfl (lv_at hl 1 rfl) ?_
          refine lv_aload_n (pc := 448) hx hb dL_law_448 rfl (lv_at hl 0 rfl) ?_
          refine lv_iload_n (pc := 449) hx hb dL_law_449 rfl (lv_at hl 3 rfl) ?_
          refine nv_iconst (pc := 450) (k := 1) hx hb dL_law_450 rfl ?_
          refine nv_iadd (pc := 451) hx hb dL_law_451 ?_
          refine va_sld (pc := 452) hx hb hXs hbl hbA hS (i := nI ((i + 1))) (vp_in_nI (by omega) (by omega)) dL_law_452 ?_
          refine tq_i (y := zI (xs ((i + 1))).toInt) (by rw [nI_clamp (by omega), zI_of]) ?_
          refine lv_aload_n (pc := 453) hx hb dL_law_453 rfl (lv_at hl 0 rfl) ?_
          refine lv_iload_n (pc := 454) hx hb dL_law_454 rfl (lv_at hl 3 rfl) ?_
          refine nv_iconst (pc := 455) (k := 2) hx hb dL_law_455 rfl ?_
          refine nv_iadd (pc := 456) hx hb dL_law_456 ?_
          refine va_sld (pc := 457) hx hb hXs hbl hbA hS (i := nI ((i + 2))) (vp_in_nI (by omega) (by omega)) dL_law_457 ?_
          refine tq_i (y := zI (xs ((i + 2))).toInt) (by rw [nI_clamp (by omega), zI_of]) ?_
          refine CTi_Vp (pc := 458) (rX_ok tR) (As := [.int (zI ((xs ((i + 1))).toInt)), .int (zI ((xs ((i + 2))).toInt))]) (rest := []) ⟨hx, hb, hml, hown, hts⟩ (c_X0_same l dd (ad := ad) (cI := cI) (cL := cL) (cQ := cQ) (tR := tR) (ix := ix) (pw := pw) (sg := sg) (tm := tm) (hd := hd) (wk := wk) (rc := rc) (lc := lc) (P := P) (D := D) (zI_rng _) (zI_rng _) hP1 hD1 hH) (cwV 2 hts gL_law_X0_same rfl rfl rfl (by decide +kernel) ⟨Nat.le_of_ble_eq_true rfl, Nat.le_of_ble_eq_true rfl⟩) hK hP hD hS hA hX hK 0 0 rfl rfl rfl [0, 1, 2, 3, 4, 5, 6, 7, 8, 9, 10, 11, 12, 13, 14] [15, 16, 17, 18, 19, 20, 21, 22] rfl rfl rfl rfl (by decide) rfl hl.1 rfl (Nat.le_of_ble_eq_true rfl) ⟨Nat.le_of_ble_eq_true rfl, Nat.le_of_ble_eq_true rfl⟩ dL_law_458 (fun ra _ H locs hwa hP hD hS => ?_)
          try dsimp only at hwa
          have hP : va_P dd vwCl (wC ad cI cL cQ (ix) (pw) (sg) (tm) (hd) (wk) (rc) (lc) (P) (rootN (P)) (D) (phN (D)) ++ wM bd cI cL (P) (rootN (P)) (D) (phN (D)) (ix2) (ho) (re) (wk2) (tu) (wa) (nx)) H := hP.sub [8, 9, 10, 11, 12, 13, 14, 15, 16, 17, 18, 19, 20, 21, 22, 0, 1, 2, 3, 4, 5, 6, 7] rfl
          have hD : va_D A (wC ad cI cL cQ (ix) (pw) (sg) (tm) (hd) (wk) (rc) (lc) (P) (rootN (P)) (D) (phN (D)) ++ wM bd cI cL (P) (rootN (P)) (D) (phN (D)) (ix2) (ho) (re) (wk2) (tu) (wa) (nx)) := hD.sub [8, 9, 10, 11, 12, 13, 14, 15, 16, 17, 18, 19, 20, 21, 22, 0, 1, 2, 3, 4, 5, 6, 7] (by decide) rfl
          refine lv_aload_n (pc := 461) hx hb dL_law_461 rfl (lv_at hl 2 rfl) ?_
          refine lv_aload_n (pc := 462) hx hb dL_law_462 rfl (lv_at hl 0 rfl) ?_
          refine lv_iload_n (pc := 463) hx hb dL_law_463 rfl (lv_at hl 3 rfl) ?_
          refine nv_iconst (pc := 464) (k := 1) hx hb dL_law_464 rfl ?_
          refine nv_iadd (pc := 465) hx hb dL_law_465 ?_
          refine va_sld (pc := 466) hx hb hXs hbl hbA hS (i := nI ((i + 1))) (vp_in_nI (by omega) (by omega)) dL_law_466 ?_
          refine tq_i (y := zI (xs ((i + 1))).toInt) (by rw [nI_clamp (by omega), zI_of]) ?_
          refine lv_aload_n (pc := 467) hx hb dL_law_467 rfl (lv_at hl 0 rfl) ?_
          refine lv_iload_n (pc := 468) hx hb dL_law_468 rfl (lv_at hl 3 rfl) ?_
          refine nv_iconst (pc := 469) (k := 2) hx hb dL_law_469 rfl ?_
          refine nv_iadd (pc := 470) hx hb dL_law_470 ?_
          refine va_sld (pc := 471) hx hb hXs hbl hbA hS (i := nI ((i + 2))) (vp_in_nI (by omega) (by omega)) dL_law_471 ?_
          refine tq_i (y := zI (xs ((i + 2))).toInt) (by rw [nI_clamp (by omega), zI_of]) ?_
          refine CTi_Vp (pc := 472) am_no_ok (As := [.int (zI ((xs ((i + 1))).toInt)), .int (zI ((xs ((i + 2))).toInt))]) (rest := [.int (ra)]) ⟨hx, hb, hml, hown, hts⟩ (c_X1_same l dd (ad := bd) (cI := cI) (cL := cL) (cQ := cQ) (P := P) (D := D) (ix := ix2) (ho := ho) (re := re) (wk := wk2) (tu := tu) (wa := wa) (nx := nx) (zI_rng _) (zI_rng _) hP1 hD1 hL) (cwV 2 hts gL_law_X1_same rfl rfl rfl (by decide +kernel) ⟨Nat.le_of_ble_eq_true rfl, Nat.le_of_ble_eq_true rfl⟩) hK hP hD hS hA trivial hK 15 1 rfl rfl rfl [15, 16, 17, 18, 19, 20, 21, 22] [0, 1, 2, 3, 4, 5, 6, 7, 8, 9, 10, 11, 12, 13, 14] rfl rfl rfl rfl (by decide) rfl hl.1 rfl (Nat.le_of_ble_eq_true rfl) ⟨Nat.le_of_ble_eq_true rfl, Nat.le_of_ble_eq_true rfl⟩ dL_law_472 (fun rb _ H locs hwb hP hD hS => ?_)
          try dsimp only at hwb
          have hP : va_P dd vwCl (wC ad cI cL cQ (ix) (pw) (sg) (tm) (hd) (wk) (rc) (lc) (P) (rootN (P)) (D) (phN (D)) ++ wM bd cI cL (P) (rootN (P)) (D) (phN (D)) (ix2) (ho) (re) (wk2) (tu) (wa) (nx)) H := hP.sub [0, 1, 2, 3, 4, 5, 6, 7, 8, 9, 10, 11, 12, 13, 14, 15, 16, 17, 18, 19, 20, 21, 22] rfl
          have hD : va_D A (wC ad cI cL cQ (ix) (pw) (sg) (tm) (hd) (wk) (rc) (lc) (P) (rootN (P)) (D) (phN (D)) ++ wM bd cI cL (P) (rootN (P)) (D) (phN (D)) (ix2) (ho) (re) (wk2) (tu) (wa) (nx)) := hD.sub [0, 1, 2, 3, 4, 5, 6, 7, 8, 9, 10, 11, 12, 13, 14, 15, 16, 17, 18, 19, 20, 21, 22] (by decide) rfl
          have hz : ra = rb := hwa.trans hwb.symm
          have hsN := hs
          clear hwa hwb
          refine lv_icmp_eq (pc := 475) (tgt := 716) hx hb dL_law_475 (by decide) (fun _ => ?_) (fun hne => absurd hz hne)
          refine lv_iinc (pc := 716) (v := nI ((i + 5))) (lv' := [(3, .int (nI ((i + 5)))), (0, .ref (b)), (1, .ref (ad 0)), (2, .ref (bd 0))]) hx hb dL_law_716 hl (k := 3) rfl (nI_inc5 _) (by decide) rfl (fun ls hl => ?_)
          refine lv_goto (pc := 719) (tgt := 18) hx hb dL_law_719 (by decide) ?_
          exact ih_18 ((i + 5)) (P) (D) (ix) (pw) (sg) (tm) (hd) (wk) (rc) (lc) (ix2) (ho) (re) (wk2) (tu) (wa) (nx) (hv) (by omega) (by omega) (hsN) _ _ _ hP hD hS (lv_sub hl [1, 2, 3, 0] rfl)
        · skip
          refine tq_i (y := zI 10) (by rw [h32]) ?_
          refine lv_tableIn (pc := 32) (tgt := 480) hx hb dL_law_32 (by decide) (by decide) rfl (by decide) ?_
          refine lv_aload_n (pc := 480) hx hb dL_law_480 rfl (lv_at hl 1 rfl) ?_
          refine lv_aload_n (pc := 481) hx hb dL_law_481 rfl (lv_at hl 0 rfl) ?_
          refine lv_iload_n (pc := 482) hx hb dL_law_482 rfl (lv_at hl 3 rfl) ?_
          refine nv_iconst (pc := 483) (k := 1) hx hb dL_law_483 rfl ?_
          refine nv_iadd (pc := 484) hx hb dL_law_484 ?_
          refine va_sld (pc := 485) hx hb hXs hbl hbA hS (i := nI ((i + 1))) (vp_in_nI (by omega) (by omega)) dL_law_485 ?_
          refine tq_i (y := zI (xs ((i + 1))).toInt) (by rw [nI_clamp (by omega), zI_of]) ?_
          refine CTl_Vp (pc := 486) (rX_ok tR) (As := [.int (zI ((xs ((i + 1))).toInt))]) (rest := []) ⟨hx, hb, hml, hown, hts⟩ (c_X0_size l dd (ad := ad) (cI := cI) (cL := cL) (cQ := cQ) (tR := tR) (ix := ix) (pw := pw) (sg := sg) (tm := tm) (hd := hd) (wk := wk) (rc := rc) (lc := lc) (P := P) (D := D) (zI_rng _) hP1 hD1 hH) (cwV 1 hts gL_law_X0_size rfl rfl rfl (by decide +kernel) ⟨Nat.le_of_ble_eq_true rfl, Nat.le_of_ble_eq_true rfl⟩) hK hP hD hS hA hX hK 0 0 rfl rfl rfl [0, 1, 2, 3, 4, 5, 6, 7, 8, 9, 10, 11, 12, 13, 14] [15, 16, 17, 18, 19, 20, 21, 22] rfl rfl rfl rfl (by decide) rfl hl.1 rfl (Nat.le_of_ble_eq_true rfl) ⟨Nat.le_of_ble_eq_true rfl, Nat.le_of_ble_eq_true rfl⟩ dL_law_486 (fun ra wk_486 H locs hwa hP hD hS => ?_)
          try dsimp only at hwa
          have hP : va_P dd vwCl (wC ad cI cL cQ (ix) (pw) (sg) (tm) (hd) (wk_486) (rc) (lc) (P) (rootN (P)) (D) (phN (D)) ++ wM bd cI cL (P) (rootN (P)) (D) (phN (D)) (ix2) (ho) (re) (wk2) (tu) (wa) (nx)) H := hP.sub [8, 9, 10, 11, 12, 13, 14, 15, 16, 17, 18, 19, 20, 21, 22, 0, 1, 2, 3, 4, 5, 6, 7] rfl
          have hD : va_D A (wC ad cI cL cQ (ix) (pw) (sg) (tm) (hd) (wk_486) (rc) (lc) (P) (rootN (P)) (D) (phN (D)) ++ wM bd cI cL (P) (rootN (P)) (D) (phN (D)) (ix2) (ho) (re) (wk2) (tu) (wa) (nx)) := hD.sub [8, 9, 10, 11, 12, 13, 14, 15, 16, 17, 18, 19, 20, 21, 22, 0, 1, 2, 3, 4, 5, 6, 7] (by decide) rfl
          refine lv_aload_n (pc := 489) hx hb dL_law_489 rfl (lv_at hl 2 rfl) ?_
          refine lv_aload_n (pc := 490) hx hb dL_law_490 rfl (lv_at hl 0 rfl) ?_
          refine lv_iload_n (pc := 491) hx hb dL_law_491 rfl (lv_at hl 3 rfl) ?_
          refine nv_iconst (pc := 492) (k := 1) hx hb dL_law_492 rfl ?_
          refine nv_iadd (pc := 493) hx hb dL_law_493 ?_
          refine va_sld (pc := 494) hx hb hXs hbl hbA hS (i := nI ((i + 1))) (vp_in_nI (by omega) (by omega)) dL_law_494 ?_
          refine tq_i (y := zI (xs ((i + 1))).toInt) (by rw [nI_clamp (by omega), zI_of]) ?_
          refine CTl_Vp (pc := 495) am_no_ok (As := [.int (zI ((xs ((i + 1))).toInt))]) (rest := [.long (ra)]) ⟨hx, hb, hml, hown, hts⟩ (c_X1_size l dd (ad := bd) (cI := cI) (cL := cL) (cQ := cQ) (P := P) (D := D) (ix := ix2) (ho := ho) (re := re) (wk := wk2) (tu := tu) (wa := wa) (nx := nx) (zI_rng _) hP1 hD1 hre hL) (cwV 1 hts gL_law_X1_size rfl rfl rfl (by decide +kernel) ⟨Nat.le_of_ble_eq_true rfl, Nat.le_of_ble_eq_true rfl⟩) hK hP hD hS hA trivial hK 15 1 rfl rfl rfl [15, 16, 17, 18, 19, 20, 21, 22] [0, 1, 2, 3, 4, 5, 6, 7, 8, 9, 10, 11, 12, 13, 14] rfl rfl rfl rfl (by decide) rfl hl.1 rfl (Nat.le_of_ble_eq_true rfl) ⟨Nat.le_of_ble_eq_true rfl, Nat.le_of_ble_eq_true rfl⟩ dL_law_495 (fun rb ub H locs hwb hP hD hS => ?_)
          obtain ⟨wk2_495, tu_495⟩ := ub
          try dsimp only at hwb
          have hP : va_P dd vwCl (wC ad cI cL cQ (ix) (pw) (sg) (tm) (hd) (wk_486) (rc) (lc) (P) (rootN (P)) (D) (phN (D)) ++ wM bd cI cL (P) (rootN (P)) (D) (phN (D)) (ix2) (ho) (re) (wk2_495) (tu_495) (wa) (nx)) H := hP.sub [0, 1, 2, 3, 4, 5, 6, 7, 8, 9, 10, 11, 12, 13, 14, 15, 16, 17, 18, 19, 20, 21, 22] rfl
          have hD : va_D A (wC ad cI cL cQ (ix) (pw) (sg) (tm) (hd) (wk_486) (rc) (lc) (P) (rootN (P)) (D) (phN (D)) ++ wM bd cI cL (P) (rootN (P)) (D) (phN (D)) (ix2) (ho) (re) (wk2_495) (tu_495) (wa) (nx)) := hD.sub [0, 1, 2, 3, 4, 5, 6, 7, 8, 9, 10, 11, 12, 13, 14, 15, 16, 17, 18, 19, 20, 21, 22] (by decide) rfl
          have hz : ra = rb := mg_3 (fun a1 b1 => by obtain ⟨j, j1, j2, j3⟩ := a1; exact j3 (b1 j j1 j2)) hwa hwb
          have hsN := hs
          clear hwa hwb
          refine W.lcmp (pc := 498) hx hb dL_law_498 ?_
          refine cv_if_eq (pc := 499) (tgt := 716) hx hb dL_law_499 (by decide) (fun _ => ?_) (fun hne => absurd hz hne)
          refine lv_iinc (pc := 716) (v := nI ((i + 5))) (lv' := [(3, .int (nI ((i + 5)))), (0, .ref (b)), (1, .ref (ad 0)), (2, .ref (bd 0))]) hx hb dL_law_716 hl (k := 3) rfl (nI_inc5 _) (by decide) rfl (fun ls hl => ?_)
          refine lv_goto (pc := 719) (tgt := 18) hx hb dL_law_719 (by decide) ?_
          exact ih_18 ((i + 5)) (P) (D) (ix) (pw) (sg) (tm) (hd) (wk_486) (rc) (lc) (ix2) (ho) (re) (wk2_495) (tu_495) (wa) (nx) (hv) (by omega) (by omega) (hsN) _ _ _ hP hD hS (lv_sub hl [1, 2, 3, 0] rfl)
        · skip
          refine tq_i (y := zI 11) (by rw [h32]) ?_
          refine lv_tableIn (pc := 32) (tgt := 504) hx hb dL_law_32 (by decide) (by decide) rfl (by decide) ?_
          refine lv_aload_n (pc := 504) hx hb dL_law_504 rfl (lv_at hl 1 rfl) ?_
          refine lv_aload_n (pc := 505) hx hb dL_law_505 rfl (lv_at hl 0 rfl) ?_
          refine lv_iload_n (pc := 506) hx hb dL_law_506 rfl (lv_at hl 3 rfl) ?_
          refine nv_iconst (pc := 507) (k := 1) hx hb dL_law_507 rfl ?_
          refine nv_iadd (pc := 508) hx hb dL_law_508 ?_
          refine va_sld (pc := 509) hx hb hXs hbl hbA hS (i := nI ((i + 1))) (vp_in_nI (by omega) (by omega)) dL_law_509 ?_
          refine tq_i (y := zI (xs ((i + 1))).toInt) (by rw [nI_clamp (by omega), zI_of]) ?_
          refine lv_aload_n (pc := 510) hx hb dL_law_510 rfl (lv_at hl 0 rfl) ?_
          refine lv_iload_n (pc := 511) hx hb dL_law_511 rfl (lv_at hl 3 rfl) ?_
          refine nv_iconst (pc := 512) (k := 2) hx hb dL_law_512 rfl ?_
          refine nv_iadd (pc := 513) hx hb dL_law_513 ?_
          refine va_sld (pc := 514) hx hb hXs hbl hbA hS (i := nI ((i + 2))) (vp_in_nI (by omega) (by omega)) dL_law_514 ?_
          refine tq_i (y := zI (xs ((i + 2))).toInt) (by rw [nI_clamp (by omega), zI_of]) ?_
          refine lv_aload_n (pc := 515) hx hb dL_law_515 rfl (lv_at hl 0 rfl) ?_
          refine lv_iload_n (pc := 516) hx hb dL_law_516 rfl (lv_at hl 3 rfl) ?_
          refine nv_iconst (pc := 517) (k := 3) hx hb dL_law_517 rfl ?_
          refine nv_iadd (pc := 518) hx hb dL_law_518 ?_
          refine va_sld (pc := 519) hx hb hXs hbl hbA hS (i := nI ((i + 3))) (vp_in_nI (by omega) (by omega)) dL_law_519 ?_
          refine tq_i (y := zI (xs ((i + 3))).toInt) (by rw [nI_clamp (by omega), zI_of]) ?_
          refine CTi_Vp (pc := 520) (rX_ok tR) (As := [.int (zI ((xs ((i + 1))).toInt)), .int (zI ((xs ((i + 2))).toInt)), .int (zI ((xs ((i + 3))).toInt))]) (rest := []) ⟨hx, hb, hml, hown, hts⟩ (c_X0_solutions l dd (ad := ad) (cI := cI) (cL := cL) (cQ := cQ) (tR := tR) (ix := ix) (pw := pw) (sg := sg) (tm := tm) (hd := hd) (wk := wk) (rc := rc) (lc := lc) (P := P) (D := D) (zI_rng _) (zI_rng _) (zI_rng _) hP1 hD1 hI) (cwV 3 hts gL_law_X0_solutions rfl rfl rfl (by decide +kernel) ⟨Nat.le_of_ble_eq_true rfl, Nat.le_of_ble_eq_true rfl⟩) hK hP hD hS hA hX hK 0 0 rfl rfl rfl [0, 1, 2, 3, 4, 5, 6, 7, 8, 9, 10, 11, 12, 13, 14] [15, 16, 17, 18, 19, 20, 21, 22] rfl rfl rfl rfl (by decide) rfl hl.1 rfl (Nat.le_of_ble_eq_true rfl) ⟨Nat.le_of_ble_eq_true rfl, Nat.le_of_ble_eq_true rfl⟩ dL_law_520 (fun ra tm_520 H locs hwa hP hD hS => ?_)
          try dsimp only at hwa
          have hP : va_P dd vwCl (wC ad cI cL cQ (ix) (pw) (sg) (tm_520) (hd) (wk) (rc) (lc) (P) (rootN (P)) (D) (phN (D)) ++ wM bd cI cL (P) (rootN (P)) (D) (phN (D)) (ix2) (ho) (re) (wk2) (tu) (wa) (nx)) H := hP.sub [8, 9, 10, 11, 12, 13, 14, 15, 16, 17, 18, 19, 20, 21, 22, 0, 1, 2, 3, 4, 5, 6, 7] rfl
          have hD : va_D A (wC ad cI cL cQ (ix) (pw) (sg) (tm_520) (hd) (wk) (rc) (lc) (P) (rootN (P)) (D) (phN (D)) ++ wM bd cI cL (P) (rootN (P)) (D) (phN (D)) (ix2) (ho) (re) (wk2) (tu) (wa) (nx)) := hD.sub [8, 9, 10, 11, 12, 13, 14, 15, 16, 17, 18, 19, 20, 21, 22, 0, 1, 2, 3, 4, 5, 6, 7] (by decide) rfl
          refine lv_aload_n (pc := 523) hx hb dL_law_523 rfl (lv_at hl 2 rfl) ?_
          refine lv_aload_n (pc := 524) hx hb dL_law_524 rfl (lv_at hl 0 rfl) ?_
          refine lv_iload_n (pc := 525) hx hb dL_law_525 rfl (lv_at hl 3 rfl) ?_
          refine nv_iconst (pc := 526) (k := 1) hx hb dL_law_526 rfl ?_
          refine nv_iadd (pc := 527) hx hb dL_law_527 ?_
          refine va_sld (pc := 528) hx hb hXs hbl hbA hS (i := nI ((i + 1))) (vp_in_nI (by omega) (by omega)) dL_law_528 ?_
          refine tq_i (y := zI (xs ((i + 1))).toInt) (by rw [nI_clamp (by omega), zI_of]) ?_
          refine lv_aload_n (pc := 529) hx hb dL_law_529 rfl (lv_at hl 0 rfl) ?_
          refine lv_iload_n (pc := 530) hx hb dL_law_530 rfl (lv_at hl 3 rfl) ?_
          refine nv_iconst (pc := 531) (k := 2) hx hb dL_law_531 rfl ?_
          refine nv_iadd (pc := 532) hx hb dL_law_532 ?_
          refine va_sld (pc := 533) hx hb hXs hbl hbA hS (i := nI ((i + 2))) (vp_in_nI (by omega) (by omega)) dL_law_533 ?_
          refine tq_i (y := zI (xs ((i + 2))).toInt) (by rw [nI_clamp (by omega), zI_of]) ?_
          refine lv_aload_n (pc := 534) hx hb dL_law_534 rfl (lv_at hl 0 rfl) ?_
          refine lv_iload_n (pc := 535) hx hb dL_law_535 rfl (lv_at hl 3 rfl) ?_
          refine nv_iconst (pc := 536) (k := 3) hx hb dL_law_536 rfl ?_
          refine nv_iadd (pc := 537) hx hb dL_law_537 ?_
          refine va_sld (pc := 538) hx hb hXs hbl hbA hS (i := nI ((i + 3))) (vp_in_nI (by omega) (by omega)) dL_law_538 ?_
          refine tq_i (y := zI (xs ((i + 3))).toInt) (by rw [nI_clamp (by omega), zI_of]) ?_
          refine CTi_Vp (pc := 539) am_no_ok (As := [.int (zI ((xs ((i + 1))).toInt)), .int (zI ((xs ((i + 2))).toInt)), .int (zI ((xs ((i + 3))).toInt))]) (rest := [.int (ra)]) ⟨hx, hb, hml, hown, hts⟩ (c_X1_solutions l dd (ad := bd) (cI := cI) (cL := cL) (cQ := cQ) (P := P) (D := D) (ix := ix2) (ho := ho) (re := re) (wk := wk2) (tu := tu) (wa := wa) (nx := nx) (zI_rng _) (zI_rng _) (zI_rng _) hP1 hD1) (cwV 3 hts gL_law_X1_solutions rfl rfl rfl (by decide +kernel) ⟨Nat.le_of_ble_eq_true rfl, Nat.le_of_ble_eq_true rfl⟩) hK hP hD hS hA trivial hK 15 1 rfl rfl rfl [15, 16, 17, 18, 19, 20, 21, 22] [0, 1, 2, 3, 4, 5, 6, 7, 8, 9, 10, 11, 12, 13, 14] rfl rfl rfl rfl (by decide) rfl hl.1 rfl (Nat.le_of_ble_eq_true rfl) ⟨Nat.le_of_ble_eq_true rfl, Nat.le_of_ble_eq_true rfl⟩ dL_law_539 (fun rb _ H locs hwb hP hD hS => ?_)
          try dsimp only at hwb
          have hP : va_P dd vwCl (wC ad cI cL cQ (ix) (pw) (sg) (tm_520) (hd) (wk) (rc) (lc) (P) (rootN (P)) (D) (phN (D)) ++ wM bd cI cL (P) (rootN (P)) (D) (phN (D)) (ix2) (ho) (re) (wk2) (tu) (wa) (nx)) H := hP.sub [0, 1, 2, 3, 4, 5, 6, 7, 8, 9, 10, 11, 12, 13, 14, 15, 16, 17, 18, 19, 20, 21, 22] rfl
          have hD : va_D A (wC ad cI cL cQ (ix) (pw) (sg) (tm_520) (hd) (wk) (rc) (lc) (P) (rootN (P)) (D) (phN (D)) ++ wM bd cI cL (P) (rootN (P)) (D) (phN (D)) (ix2) (ho) (re) (wk2) (tu) (wa) (nx)) := hD.sub [0, 1, 2, 3, 4, 5, 6, 7, 8, 9, 10, 11, 12, 13, 14, 15, 16, 17, 18, 19, 20, 21, 22] (by decide) rfl
          have hz : ra = rb := hwa.trans hwb.symm
          have hsN := hs
          clear hwa hwb
          refine lv_icmp_eq (pc := 542) (tgt := 716) hx hb dL_law_542 (by decide) (fun _ => ?_) (fun hne => absurd hz hne)
          refine lv_iinc (pc := 716) (v := nI ((i + 5))) (lv' := [(3, .int (nI ((i + 5)))), (0, .ref (b)), (1, .ref (ad 0)), (2, .ref (bd 0))]) hx hb dL_law_716 hl (k := 3) rfl (nI_inc5 _) (by decide) rfl (fun ls hl => ?_)
          refine lv_goto (pc := 719) (tgt := 18) hx hb dL_law_719 (by decide) ?_
          exact ih_18 ((i + 5)) (P) (D) (ix) (pw) (sg) (tm_520) (hd) (wk) (rc) (lc) (ix2) (ho) (re) (wk2) (tu) (wa) (nx) (hv) (by omega) (by omega) (hsN) _ _ _ hP hD hS (lv_sub hl [1, 2, 3, 0] rfl)
        · skip
          refine tq_i (y := zI 12) (by rw [h32]) ?_
          refine lv_tableIn (pc := 32) (tgt := 547) hx hb dL_law_32 (by decide) (by decide) rfl (by decide) ?_
          refine lv_aload_n (pc := 547) hx hb dL_law_547 rfl (lv_at hl 1 rfl) ?_
          refine lv_aload_n (pc := 548) hx hb dL_law_548 rfl (lv_at hl 0 rfl) ?_
          refine lv_iload_n (pc := 549) hx hb dL_law_549 rfl (lv_at hl 3 rfl) ?_
          refine nv_iconst (pc := 550) (k := 1) hx hb dL_law_550 rfl ?_
          refine nv_iadd (pc := 551) hx hb dL_law_551 ?_
          refine va_sld (pc := 552) hx hb hXs hbl hbA hS (i := nI ((i + 1))) (vp_in_nI (by omega) (by omega)) dL_law_552 ?_
          refine tq_i (y := zI (xs ((i + 1))).toInt) (by rw [nI_clamp (by omega), zI_of]) ?_
          refine CTl_Vp (pc := 553) (rX_ok tR) (As := [.int (zI ((xs ((i + 1))).toInt))]) (rest := []) ⟨hx, hb, hml, hown, hts⟩ (c_X0_rows l dd (ad := ad) (cI := cI) (cL := cL) (cQ := cQ) (tR := tR) (ix := ix) (pw := pw) (sg := sg) (tm := tm) (hd := hd) (wk := wk) (rc := rc) (lc := lc) (P := P) (D := D) (zI_rng _) hP1 hD1 hdv hI) (cwV 1 hts gL_law_X0_rows rfl rfl rfl (by decide +kernel) ⟨Nat.le_of_ble_eq_true rfl, Nat.le_of_ble_eq_true rfl⟩) hK hP hD hS hA hX hK 0 0 rfl rfl rfl [0, 1, 2, 3, 4, 5, 6, 7, 8, 9, 10, 11, 12, 13, 14] [15, 16, 17, 18, 19, 20, 21, 22] rfl rfl rfl rfl (by decide) rfl hl.1 rfl (Nat.le_of_ble_eq_true rfl) ⟨Nat.le_of_ble_eq_true rfl, Nat.le_of_ble_eq_true rfl⟩ dL_law_553 (fun ra ua H locs hwa hP hD hS => ?_)
          obtain ⟨rc_553, lc_553⟩ := ua
          try dsimp only at hwa
          have hP : va_P dd vwCl (wC ad cI cL cQ (ix) (pw) (sg) (tm) (hd) (wk) (rc_553) (lc_553) (P) (rootN (P)) (D) (phN (D)) ++ wM bd cI cL (P) (rootN (P)) (D) (phN (D)) (ix2) (ho) (re) (wk2) (tu) (wa) (nx)) H := hP.sub [8, 9, 10, 11, 12, 13, 14, 15, 16, 17, 18, 19, 20, 21, 22, 0, 1, 2, 3, 4, 5, 6, 7] rfl
          have hD : va_D A (wC ad cI cL cQ (ix) (pw) (sg) (tm) (hd) (wk) (rc_553) (lc_553) (P) (rootN (P)) (D) (phN (D)) ++ wM bd cI cL (P) (rootN (P)) (D) (phN (D)) (ix2) (ho) (re) (wk2) (tu) (wa) (nx)) := hD.sub [8, 9, 10, 11, 12, 13, 14, 15, 16, 17, 18, 19, 20, 21, 22, 0, 1, 2, 3, 4, 5, 6, 7] (by decide) rfl
          refine lv_aload_n (pc := 556) hx hb dL_law_556 rfl (lv_at hl 2 rfl) ?_
          refine lv_aload_n (pc := 557) hx hb dL_law_557 rfl (lv_at hl 0 rfl) ?_
          refine lv_iload_n (pc := 558) hx hb dL_law_558 rfl (lv_at hl 3 rfl) ?_
          refine nv_iconst (pc := 559) (k := 1) hx hb dL_law_559 rfl ?_
          refine nv_iadd (pc := 560) hx hb dL_law_560 ?_
          refine va_sld (pc := 561) hx hb hXs hbl hbA hS (i := nI ((i + 1))) (vp_in_nI (by omega) (by omega)) dL_law_561 ?_
          refine tq_i (y := zI (xs ((i + 1))).toInt) (by rw [nI_clamp (by omega), zI_of]) ?_
          refine CTl_Vp (pc := 562) am_no_ok (As := [.int (zI ((xs ((i + 1))).toInt))]) (rest := [.long (ra)]) ⟨hx, hb, hml, hown, hts⟩ (c_X1_rows l dd (ad := bd) (cI := cI) (cL := cL) (cQ := cQ) (P := P) (D := D) (ix := ix2) (ho := ho) (re := re) (wk := wk2) (tu := tu) (wa := wa) (nx := nx) (zI_rng _) hP1 hD1 hix2) (cwV 1 hts gL_law_X1_rows rfl rfl rfl (by decide +kernel) ⟨Nat.le_of_ble_eq_true rfl, Nat.le_of_ble_eq_true rfl⟩) hK hP hD hS hA trivial hK 15 1 rfl rfl rfl [15, 16, 17, 18, 19, 20, 21, 22] [0, 1, 2, 3, 4, 5, 6, 7, 8, 9, 10, 11, 12, 13, 14] rfl rfl rfl rfl (by decide) rfl hl.1 rfl (Nat.le_of_ble_eq_true rfl) ⟨Nat.le_of_ble_eq_true rfl, Nat.le_of_ble_eq_true rfl⟩ dL_law_562 (fun rb ub H locs hwb hP hD hS => ?_)
          obtain ⟨wa_562, nx_562⟩ := ub
          try dsimp only at hwb
          have hP : va_P dd vwCl (wC ad cI cL cQ (ix) (pw) (sg) (tm) (hd) (wk) (rc_553) (lc_553) (P) (rootN (P)) (D) (phN (D)) ++ wM bd cI cL (P) (rootN (P)) (D) (phN (D)) (ix2) (ho) (re) (wk2) (tu) (wa_562) (nx_562)) H := hP.sub [0, 1, 2, 3, 4, 5, 6, 7, 8, 9, 10, 11, 12, 13, 14, 15, 16, 17, 18, 19, 20, 21, 22] rfl
          have hD : va_D A (wC ad cI cL cQ (ix) (pw) (sg) (tm) (hd) (wk) (rc_553) (lc_553) (P) (rootN (P)) (D) (phN (D)) ++ wM bd cI cL (P) (rootN (P)) (D) (phN (D)) (ix2) (ho) (re) (wk2) (tu) (wa_562) (nx_562)) := hD.sub [0, 1, 2, 3, 4, 5, 6, 7, 8, 9, 10, 11, 12, 13, 14, 15, 16, 17, 18, 19, 20, 21, 22] (by decide) rfl
          have hz : ra = rb := hwa.trans hwb.symm
          have hsN := hs
          clear hwa hwb
          refine W.lcmp (pc := 565) hx hb dL_law_565 ?_
          refine cv_if_eq (pc := 566) (tgt := 716) hx hb dL_law_566 (by decide) (fun _ => ?_) (fun hne => absurd hz hne)
          refine lv_iinc (pc := 716) (v := nI ((i + 5))) (lv' := [(3, .int (nI ((i + 5)))), (0, .ref (b)), (1, .ref (ad 0)), (2, .ref (bd 0))]) hx hb dL_law_716 hl (k := 3) rfl (nI_inc5 _) (by decide) rfl (fun ls hl => ?_)
          refine lv_goto (pc := 719) (tgt := 18) hx hb dL_law_719 (by decide) ?_
          exact ih_18 ((i + 5)) (P) (D) (ix) (pw) (sg) (tm) (hd) (wk) (rc_553) (lc_553) (ix2) (ho) (re) (wk2) (tu) (wa_562) (nx_562) (hv) (by omega) (by omega) (hsN) _ _ _ hP hD hS (lv_sub hl [1, 2, 3, 0] rfl)
        · skip
          refine tq_i (y := zI 13) (by rw [h32]) ?_
          refine lv_tableIn (pc := 32) (tgt := 571) hx hb dL_law_32 (by decide) (by decide) rfl (by decide) ?_
          refine lv_aload_n (pc := 571) hx hb dL_law_571 rfl (lv_at hl 1 rfl) ?_
          refine lv_aload_n (pc := 572) hx hb dL_law_572 rfl (lv_at hl 0 rfl) ?_
          refine lv_iload_n (pc := 573) hx hb dL_law_573 rfl (lv_at hl 3 rfl) ?_
          refine nv_iconst (pc := 574) (k := 1) hx hb dL_law_574 rfl ?_
          refine nv_iadd (pc := 575) hx hb dL_law_575 ?_
          refine va_sld (pc := 576) hx hb hXs hbl hbA hS (i := nI ((i + 1))) (vp_in_nI (by omega) (by omega)) dL_law_576 ?_
          refine tq_i (y := zI (xs ((i + 1))).toInt) (by rw [nI_clamp (by omega), zI_of]) ?_
          refine lv_aload_n (pc := 577) hx hb dL_law_577 rfl (lv_at hl 0 rfl) ?_
          refine lv_iload_n (pc := 578) hx hb dL_law_578 rfl (lv_at hl 3 rfl) ?_
          refine nv_iconst (pc := 579) (k := 2) hx hb dL_law_579 rfl ?_
          refine nv_iadd (pc := 580) hx hb dL_law_580 ?_
          refine va_sld (pc := 581) hx hb hXs hbl hbA hS (i := nI ((i + 2))) (vp_in_nI (by omega) (by omega)) dL_law_581 ?_
          refine tq_i (y := zI (xs ((i + 2))).toInt) (by rw [nI_clamp (by omega), zI_of]) ?_
          refine lv_aload_n (pc := 582) hx hb dL_law_582 rfl (lv_at hl 0 rfl) ?_
          refine lv_iload_n (pc := 583) hx hb dL_law_583 rfl (lv_at hl 3 rfl) ?_
          refine nv_iconst (pc := 584) (k := 3) hx hb dL_law_584 rfl ?_
          refine nv_iadd (pc := 585) hx hb dL_law_585 ?_
          refine va_sld (pc := 586) hx hb hXs hbl hbA hS (i := nI ((i + 3))) (vp_in_nI (by omega) (by omega)) dL_law_586 ?_
          refine tq_i (y := zI (xs ((i + 3))).toInt) (by rw [nI_clamp (by omega), zI_of]) ?_
          refine CTi_Vp (pc := 587) (rX_ok tR) (As := [.int (zI ((xs ((i + 1))).toInt)), .int (zI ((xs ((i + 2))).toInt)), .int (zI ((xs ((i + 3))).toInt))]) (rest := []) ⟨hx, hb, hml, hown, hts⟩ (c_X0_over l dd (ad := ad) (cI := cI) (cL := cL) (cQ := cQ) (tR := tR) (ix := ix) (pw := pw) (sg := sg) (tm := tm) (hd := hd) (wk := wk) (rc := rc) (lc := lc) (P := P) (D := D) (zI_rng _) (zI_rng _) (zI_rng _) hP1 hD1 hI.1) (cwV 3 hts gL_law_X0_over rfl rfl rfl (by decide +kernel) ⟨Nat.le_of_ble_eq_true rfl, Nat.le_of_ble_eq_true rfl⟩) hK hP hD hS hA hX hK 0 0 rfl rfl rfl [0, 1, 2, 3, 4, 5, 6, 7, 8, 9, 10, 11, 12, 13, 14] [15, 16, 17, 18, 19, 20, 21, 22] rfl rfl rfl rfl (by decide) rfl hl.1 rfl (Nat.le_of_ble_eq_true rfl) ⟨Nat.le_of_ble_eq_true rfl, Nat.le_of_ble_eq_true rfl⟩ dL_law_587 (fun ra sg_587 H locs hwa hP hD hS => ?_)
          try dsimp only at hwa
          have hP : va_P dd vwCl (wC ad cI cL cQ (ix) (pw) (sg_587) (tm) (hd) (wk) (rc) (lc) (P) (rootN (P)) (D) (phN (D)) ++ wM bd cI cL (P) (rootN (P)) (D) (phN (D)) (ix2) (ho) (re) (wk2) (tu) (wa) (nx)) H := hP.sub [8, 9, 10, 11, 12, 13, 14, 15, 16, 17, 18, 19, 20, 21, 22, 0, 1, 2, 3, 4, 5, 6, 7] rfl
          have hD : va_D A (wC ad cI cL cQ (ix) (pw) (sg_587) (tm) (hd) (wk) (rc) (lc) (P) (rootN (P)) (D) (phN (D)) ++ wM bd cI cL (P) (rootN (P)) (D) (phN (D)) (ix2) (ho) (re) (wk2) (tu) (wa) (nx)) := hD.sub [8, 9, 10, 11, 12, 13, 14, 15, 16, 17, 18, 19, 20, 21, 22, 0, 1, 2, 3, 4, 5, 6, 7] (by decide) rfl
          refine lv_aload_n (pc := 590) hx hb dL_law_590 rfl (lv_at hl 2 rfl) ?_
          refine lv_aload_n (pc := 591) hx hb dL_law_591 rfl (lv_at hl 0 rfl) ?_
          refine lv_iload_n (pc := 592) hx hb dL_law_592 rfl (lv_at hl 3 rfl) ?_
          refine nv_iconst (pc := 593) (k := 1) hx hb dL_law_593 rfl ?_
          refine nv_iadd (pc := 594) hx hb dL_law_594 ?_
          refine va_sld (pc := 595) hx hb hXs hbl hbA hS (i := nI ((i + 1))) (vp_in_nI (by omega) (by omega)) dL_law_595 ?_
          refine tq_i (y := zI (xs ((i + 1))).toInt) (by rw [nI_clamp (by omega), zI_of]) ?_
          refine lv_aload_n (pc := 596) hx hb dL_law_596 rfl (lv_at hl 0 rfl) ?_
          refine lv_iload_n (pc := 597) hx hb dL_law_597 rfl (lv_at hl 3 rfl) ?_
          refine nv_iconst (pc := 598) (k := 2) hx hb dL_law_598 rfl ?_
          refine nv_iadd (pc := 599) hx hb dL_law_599 ?_
          refine va_sld (pc := 600) hx hb hXs hbl hbA hS (i := nI ((i + 2))) (vp_in_nI (by omega) (by omega)) dL_law_600 ?_
          refine tq_i (y := zI (xs ((i + 2))).toInt) (by rw [nI_clamp (by omega), zI_of]) ?_
          refine lv_aload_n (pc := 601) hx hb dL_law_601 rfl (lv_at hl 0 rfl) ?_
          refine lv_iload_n (pc := 602) hx hb dL_law_602 rfl (lv_at hl 3 rfl) ?_
          refine nv_iconst (pc := 603) (k := 3) hx hb dL_law_603 rfl ?_
          refine nv_iadd (pc := 604) hx hb dL_law_604 ?_
          refine va_sld (pc := 605) hx hb hXs hbl hbA hS (i := nI ((i + 3))) (vp_in_nI (by omega) (by omega)) dL_law_605 ?_
          refine tq_i (y := zI (xs ((i + 3))).toInt) (by rw [nI_clamp (by omega), zI_of]) ?_
          refine CTi_Vp (pc := 606) am_no_ok (As := [.int (zI ((xs ((i + 1))).toInt)), .int (zI ((xs ((i + 2))).toInt)), .int (zI ((xs ((i + 3))).toInt))]) (rest := [.int (ra)]) ⟨hx, hb, hml, hown, hts⟩ (c_X1_over l dd (ad := bd) (cI := cI) (cL := cL) (cQ := cQ) (P := P) (D := D) (ix := ix2) (ho := ho) (re := re) (wk := wk2) (tu := tu) (wa := wa) (nx := nx) (zI_rng _) (zI_rng _) (zI_rng _) hP1 hD1 hix2) (cwV 3 hts gL_law_X1_over rfl rfl rfl (by decide +kernel) ⟨Nat.le_of_ble_eq_true rfl, Nat.le_of_ble_eq_true rfl⟩) hK hP hD hS hA trivial hK 15 1 rfl rfl rfl [15, 16, 17, 18, 19, 20, 21, 22] [0, 1, 2, 3, 4, 5, 6, 7, 8, 9, 10, 11, 12, 13, 14] rfl rfl rfl rfl (by decide) rfl hl.1 rfl (Nat.le_of_ble_eq_true rfl) ⟨Nat.le_of_ble_eq_true rfl, Nat.le_of_ble_eq_true rfl⟩ dL_law_606 (fun rb _ H locs hwb hP hD hS => ?_)
          try dsimp only at hwb
          have hP : va_P dd vwCl (wC ad cI cL cQ (ix) (pw) (sg_587) (tm) (hd) (wk) (rc) (lc) (P) (rootN (P)) (D) (phN (D)) ++ wM bd cI cL (P) (rootN (P)) (D) (phN (D)) (ix2) (ho) (re) (wk2) (tu) (wa) (nx)) H := hP.sub [0, 1, 2, 3, 4, 5, 6, 7, 8, 9, 10, 11, 12, 13, 14, 15, 16, 17, 18, 19, 20, 21, 22] rfl
          have hD : va_D A (wC ad cI cL cQ (ix) (pw) (sg_587) (tm) (hd) (wk) (rc) (lc) (P) (rootN (P)) (D) (phN (D)) ++ wM bd cI cL (P) (rootN (P)) (D) (phN (D)) (ix2) (ho) (re) (wk2) (tu) (wa) (nx)) := hD.sub [0, 1, 2, 3, 4, 5, 6, 7, 8, 9, 10, 11, 12, 13, 14, 15, 16, 17, 18, 19, 20, 21, 22] (by decide) rfl
          have hz : ra = rb := hwa.trans hwb.symm
          have hsN := hs
          clear hwa hwb
          refine lv_icmp_eq (pc := 609) (tgt := 716) hx hb dL_law_609 (by decide) (fun _ => ?_) (fun hne => absurd hz hne)
          refine lv_iinc (pc := 716) (v := nI ((i + 5))) (lv' := [(3, .int (nI ((i + 5)))), (0, .ref (b)), (1, .ref (ad 0)), (2, .ref (bd 0))]) hx hb dL_law_716 hl (k := 3) rfl (nI_inc5 _) (by decide) rfl (fun ls hl => ?_)
          refine lv_goto (pc := 719) (tgt := 18) hx hb dL_law_719 (by decide) ?_
          exact ih_18 ((i + 5)) (P) (D) (ix) (pw) (sg_587) (tm) (hd) (wk) (rc) (lc) (ix2) (ho) (re) (wk2) (tu) (wa) (nx) (hv) (by omega) (by omega) (hsN) _ _ _ hP hD hS (lv_sub hl [1, 2, 3, 0] rfl)
        · skip
          refine tq_i (y := zI 14) (by rw [h32]) ?_
          refine lv_tableIn (pc := 32) (tgt := 614) hx hb dL_law_32 (by decide) (by decide) rfl (by decide) ?_
          refine lv_aload_n (pc := 614) hx hb dL_law_614 rfl (lv_at hl 1 rfl) ?_
          refine lv_aload_n (pc := 615) hx hb dL_law_615 rfl (lv_at hl 0 rfl) ?_
          refine lv_iload_n (pc := 616) hx hb dL_law_616 rfl (lv_at hl 3 rfl) ?_
          refine nv_iconst (pc := 617) (k := 1) hx hb dL_law_617 rfl ?_
          refine nv_iadd (pc := 618) hx hb dL_law_618 ?_
          refine va_sld (pc := 619) hx hb hXs hbl hbA hS (i := nI ((i + 1))) (vp_in_nI (by omega) (by omega)) dL_law_619 ?_
          refine tq_i (y := zI (xs ((i + 1))).toInt) (by rw [nI_clamp (by omega), zI_of]) ?_
          refine lv_aload_n (pc := 620) hx hb dL_law_620 rfl (lv_at hl 0 rfl) ?_
          refine lv_iload_n (pc := 621) hx hb dL_law_621 rfl (lv_at hl 3 rfl) ?_
          refine nv_iconst (pc := 622) (k := 2) hx hb dL_law_622 rfl ?_
          refine nv_iadd (pc := 623) hx hb dL_law_623 ?_
          refine va_sld (pc := 624) hx hb hXs hbl hbA hS (i := nI ((i + 2))) (vp_in_nI (by omega) (by omega)) dL_law_624 ?_
          refine tq_i (y := zI (xs ((i + 2))).toInt) (by rw [nI_clamp (by omega), zI_of]) ?_
          refine CTi_Vp (pc := 625) (rX_ok tR) (As := [.int (zI ((xs ((i + 1))).toInt)), .int (zI ((xs ((i + 2))).toInt))]) (rest := []) ⟨hx, hb, hml, hown, hts⟩ (c_X0_peak l dd (ad := ad) (cI := cI) (cL := cL) (cQ := cQ) (tR := tR) (ix := ix) (pw := pw) (sg := sg) (tm := tm) (hd := hd) (wk := wk) (rc := rc) (lc := lc) (P := P) (D := D) (zI_rng _) (zI_rng _) hP1 hD1 hdv hI) (cwV 2 hts gL_law_X0_peak rfl rfl rfl (by decide +kernel) ⟨Nat.le_of_ble_eq_true rfl, Nat.le_of_ble_eq_true rfl⟩) hK hP hD hS hA hX hK 0 0 rfl rfl rfl [0, 1, 2, 3, 4, 5, 6, 7, 8, 9, 10, 11, 12, 13, 14] [15, 16, 17, 18, 19, 20, 21, 22] rfl rfl rfl rfl (by decide) rfl hl.1 rfl (Nat.le_of_ble_eq_true rfl) ⟨Nat.le_of_ble_eq_true rfl, Nat.le_of_ble_eq_true rfl⟩ dL_law_625 (fun ra sg_625 H locs hwa hP hD hS => ?_)
          try dsimp only at hwa
          have hP : va_P dd vwCl (wC ad cI cL cQ (ix) (pw) (sg_625) (tm) (hd) (wk) (rc) (lc) (P) (rootN (P)) (D) (phN (D)) ++ wM bd cI cL (P) (rootN (P)) (D) (phN (D)) (ix2) (ho) (re) (wk2) (tu) (wa) (nx)) H := hP.sub [8, 9, 10, 11, 12, 13, 14, 15, 16, 17, 18, 19, 20, 21, 22, 0, 1, 2, 3, 4, 5, 6, 7] rfl
          have hD : va_D A (wC ad cI cL cQ (ix) (pw) (sg_625) (tm) (hd) (wk) (rc) (lc) (P) (rootN (P)) (D) (phN (D)) ++ wM bd cI cL (P) (rootN (P)) (D) (phN (D)) (ix2) (ho) (re) (wk2) (tu) (wa) (nx)) := hD.sub [8, 9, 10, 11, 12, 13, 14, 15, 16, 17, 18, 19, 20, 21, 22, 0, 1, 2, 3, 4, 5, 6, 7] (by decide) rfl
          refine lv_aload_n (pc := 628) hx hb dL_law_628 rfl (lv_at hl 2 rfl) ?_
          refine lv_aload_n (pc := 629) hx hb dL_law_629 rfl (lv_at hl 0 rfl) ?_
          refine lv_iload_n (pc := 630) hx hb dL_law_630 rfl (lv_at hl 3 rfl) ?_
          refine nv_iconst (pc := 631) (k := 1) hx hb dL_law_631 rfl ?_
          refine nv_iadd (pc := 632) hx hb dL_law_632 ?_
          refine va_sld (pc := 633) hx hb hXs hbl hbA hS (i := nI ((i + 1))) (vp_in_nI (by omega) (by omega)) dL_law_633 ?_
          refine tq_i (y := zI (xs ((i + 1))).toInt) (by rw [nI_clamp (by omega), zI_of]) ?_
          refine lv_aload_n (pc := 634) hx hb dL_law_634 rfl (lv_at hl 0 rfl) ?_
          refine lv_iload_n (pc := 635) hx hb dL_law_635 rfl (lv_at hl 3 rfl) ?_
          refine nv_iconst (pc := 636) (k := 2) hx hb dL_law_636 rfl ?_
          refine nv_iadd (pc := 637) hx hb dL_law_637 ?_
          refine va_sld (pc := 638) hx hb hXs hbl hbA hS (i := nI ((i + 2))) (vp_in_nI (by omega) (by omega)) dL_law_638 ?_
          refine tq_i (y := zI (xs ((i + 2))).toInt) (by rw [nI_clamp (by omega), zI_of]) ?_
          refine CTi_Vp (pc := 639) am_no_ok (As := [.int (zI ((xs ((i + 1))).toInt)), .int (zI ((xs ((i + 2))).toInt))]) (rest := [.int (ra)]) ⟨hx, hb, hml, hown, hts⟩ (c_X1_peak l dd (ad := bd) (cI := cI) (cL := cL) (cQ := cQ) (P := P) (D := D) (ix := ix2) (ho := ho) (re := re) (wk := wk2) (tu := tu) (wa := wa) (nx := nx) (zI_rng _) (zI_rng _) hP1 hD1 hix2) (cwV 2 hts gL_law_X1_peak rfl rfl rfl (by decide +kernel) ⟨Nat.le_of_ble_eq_true rfl, Nat.le_of_ble_eq_true rfl⟩) hK hP hD hS hA trivial hK 15 1 rfl rfl rfl [15, 16, 17, 18, 19, 20, 21, 22] [0, 1, 2, 3, 4, 5, 6, 7, 8, 9, 10, 11, 12, 13, 14] rfl rfl rfl rfl (by decide) rfl hl.1 rfl (Nat.le_of_ble_eq_true rfl) ⟨Nat.le_of_ble_eq_true rfl, Nat.le_of_ble_eq_true rfl⟩ dL_law_639 (fun rb _ H locs hwb hP hD hS => ?_)
          try dsimp only at hwb
          have hP : va_P dd vwCl (wC ad cI cL cQ (ix) (pw) (sg_625) (tm) (hd) (wk) (rc) (lc) (P) (rootN (P)) (D) (phN (D)) ++ wM bd cI cL (P) (rootN (P)) (D) (phN (D)) (ix2) (ho) (re) (wk2) (tu) (wa) (nx)) H := hP.sub [0, 1, 2, 3, 4, 5, 6, 7, 8, 9, 10, 11, 12, 13, 14, 15, 16, 17, 18, 19, 20, 21, 22] rfl
          have hD : va_D A (wC ad cI cL cQ (ix) (pw) (sg_625) (tm) (hd) (wk) (rc) (lc) (P) (rootN (P)) (D) (phN (D)) ++ wM bd cI cL (P) (rootN (P)) (D) (phN (D)) (ix2) (ho) (re) (wk2) (tu) (wa) (nx)) := hD.sub [0, 1, 2, 3, 4, 5, 6, 7, 8, 9, 10, 11, 12, 13, 14, 15, 16, 17, 18, 19, 20, 21, 22] (by decide) rfl
          have hz : ra = rb := hwa.trans hwb.symm
          have hsN := hs
          clear hwa hwb
          refine lv_icmp_eq (pc := 642) (tgt := 716) hx hb dL_law_642 (by decide) (fun _ => ?_) (fun hne => absurd hz hne)
          refine lv_iinc (pc := 716) (v := nI ((i + 5))) (lv' := [(3, .int (nI ((i + 5)))), (0, .ref (b)), (1, .ref (ad 0)), (2, .ref (bd 0))]) hx hb dL_law_716 hl (k := 3) rfl (nI_inc5 _) (by decide) rfl (fun ls hl => ?_)
          refine lv_goto (pc := 719) (tgt := 18) hx hb dL_law_719 (by decide) ?_
          exact ih_18 ((i + 5)) (P) (D) (ix) (pw) (sg_625) (tm) (hd) (wk) (rc) (lc) (ix2) (ho) (re) (wk2) (tu) (wa) (nx) (hv) (by omega) (by omega) (hsN) _ _ _ hP hD hS (lv_sub hl [1, 2, 3, 0] rfl)
        · skip
          refine tq_i (y := zI 15) (by rw [h32]) ?_
          refine lv_tableIn (pc := 32) (tgt := 647) hx hb dL_law_32 (by decide) (by decide) rfl (by decide) ?_
          refine lv_aload_n (pc := 647) hx hb dL_law_647 rfl (lv_at hl 1 rfl) ?_
          refine lv_aload_n (pc := 648) hx hb dL_law_648 rfl (lv_at hl 0 rfl) ?_
          refine lv_iload_n (pc := 649) hx hb dL_law_649 rfl (lv_at hl 3 rfl) ?_
          refine nv_iconst (pc := 650) (k := 1) hx hb dL_law_650 rfl ?_
          refine nv_iadd (pc := 651) hx hb dL_law_651 ?_
          refine va_sld (pc := 652) hx hb hXs hbl hbA hS (i := nI ((i + 1))) (vp_in_nI (by omega) (by omega)) dL_law_652 ?_
          refine tq_i (y := zI (xs ((i + 1))).toInt) (by rw [nI_clamp (by omega), zI_of]) ?_
          refine CTi_Vp (pc := 653) (rX_ok tR) (As := [.int (zI ((xs ((i + 1))).toInt))]) (rest := []) ⟨hx, hb, hml, hown, hts⟩ (c_X0_even l dd (ad := ad) (cI := cI) (cL := cL) (cQ := cQ) (tR := tR) (ix := ix) (pw := pw) (sg := sg) (tm := tm) (hd := hd) (wk := wk) (rc := rc) (lc := lc) (P := P) (D := D) (zI_rng _) hP1 hD1 hdv hI) (cwV 1 hts gL_law_X0_even rfl rfl rfl (by decide +kernel) ⟨Nat.le_of_ble_eq_true rfl, Nat.le_of_ble_eq_true rfl⟩) hK hP hD hS hA hX hK 0 0 rfl rfl rfl [0, 1, 2, 3, 4, 5, 6, 7, 8, 9, 10, 11, 12, 13, 14] [15, 16, 17, 18, 19, 20, 21, 22] rfl rfl rfl rfl (by decide) rfl hl.1 rfl (Nat.le_of_ble_eq_true rfl) ⟨Nat.le_of_ble_eq_true rfl, Nat.le_of_ble_eq_true rfl⟩ dL_law_653 (fun ra sg_653 H locs hwa hP hD hS => ?_)
          try dsimp only at hwa
          have hP : va_P dd vwCl (wC ad cI cL cQ (ix) (pw) (sg_653) (tm) (hd) (wk) (rc) (lc) (P) (rootN (P)) (D) (phN (D)) ++ wM bd cI cL (P) (rootN (P)) (D) (phN (D)) (ix2) (ho) (re) (wk2) (tu) (wa) (nx)) H := hP.sub [8, 9, 10, 11, 12, 13, 14, 15, 16, 17, 18, 19, 20, 21, 22, 0, 1, 2, 3, 4, 5, 6, 7] rfl
          have hD : va_D A (wC ad cI cL cQ (ix) (pw) (sg_653) (tm) (hd) (wk) (rc) (lc) (P) (rootN (P)) (D) (phN (D)) ++ wM bd cI cL (P) (rootN (P)) (D) (phN (D)) (ix2) (ho) (re) (wk2) (tu) (wa) (nx)) := hD.sub [8, 9, 10, 11, 12, 13, 14, 15, 16, 17, 18, 19, 20, 21, 22, 0, 1, 2, 3, 4, 5, 6, 7] (by decide) rfl
          refine lv_aload_n (pc := 656) hx hb dL_law_656 rfl (lv_at hl 2 rfl) ?_
          refine lv_aload_n (pc := 657) hx hb dL_law_657 rfl (lv_at hl 0 rfl) ?_
          refine lv_iload_n (pc := 658) hx hb dL_law_658 rfl (lv_at hl 3 rfl) ?_
          refine nv_iconst (pc := 659) (k := 1) hx hb dL_law_659 rfl ?_
          refine nv_iadd (pc := 660) hx hb dL_law_660 ?_
          refine va_sld (pc := 661) hx hb hXs hbl hbA hS (i := nI ((i + 1))) (vp_in_nI (by omega) (by omega)) dL_law_661 ?_
          refine tq_i (y := zI (xs ((i + 1))).toInt) (by rw [nI_clamp (by omega), zI_of]) ?_
          refine CTi_Vp (pc := 662) am_no_ok (As := [.int (zI ((xs ((i + 1))).toInt))]) (rest := [.int (ra)]) ⟨hx, hb, hml, hown, hts⟩ (c_X1_even l dd (ad := bd) (cI := cI) (cL := cL) (cQ := cQ) (P := P) (D := D) (ix := ix2) (ho := ho) (re := re) (wk := wk2) (tu := tu) (wa := wa) (nx := nx) (zI_rng _) hP1 hD1 hix2) (cwV 1 hts gL_law_X1_even rfl rfl rfl (by decide +kernel) ⟨Nat.le_of_ble_eq_true rfl, Nat.le_of_ble_eq_true rfl⟩) hK hP hD hS hA trivial hK 15 1 rfl rfl rfl [15, 16, 17, 18, 19, 20, 21, 22] [0, 1, 2, 3, 4, 5, 6, 7, 8, 9, 10, 11, 12, 13, 14] rfl rfl rfl rfl (by decide) rfl hl.1 rfl (Nat.le_of_ble_eq_true rfl) ⟨Nat.le_of_ble_eq_true rfl, Nat.le_of_ble_eq_true rfl⟩ dL_law_662 (fun rb _ H locs hwb hP hD hS => ?_)
          try dsimp only at hwb
          have hP : va_P dd vwCl (wC ad cI cL cQ (ix) (pw) (sg_653) (tm) (hd) (wk) (rc) (lc) (P) (rootN (P)) (D) (phN (D)) ++ wM bd cI cL (P) (rootN (P)) (D) (phN (D)) (ix2) (ho) (re) (wk2) (tu) (wa) (nx)) H := hP.sub [0, 1, 2, 3, 4, 5, 6, 7, 8, 9, 10, 11, 12, 13, 14, 15, 16, 17, 18, 19, 20, 21, 22] rfl
          have hD : va_D A (wC ad cI cL cQ (ix) (pw) (sg_653) (tm) (hd) (wk) (rc) (lc) (P) (rootN (P)) (D) (phN (D)) ++ wM bd cI cL (P) (rootN (P)) (D) (phN (D)) (ix2) (ho) (re) (wk2) (tu) (wa) (nx)) := hD.sub [0, 1, 2, 3, 4, 5, 6, 7, 8, 9, 10, 11, 12, 13, 14, 15, 16, 17, 18, 19, 20, 21, 22] (by decide) rfl
          have hz : ra = rb := mg_e hwa hwb
          have hsN := hs
          clear hwa hwb
          refine lv_icmp_eq (pc := 665) (tgt := 716) hx hb dL_law_665 (by decide) (fun _ => ?_) (fun hne => absurd hz hne)
          refine lv_iinc (pc := 716) (v := nI ((i + 5))) (lv' := [(3, .int (nI ((i + 5)))), (0, .ref (b)), (1, .ref (ad 0)), (2, .ref (bd 0))]) hx hb dL_law_716 hl (k := 3) rfl (nI_inc5 _) (by decide) rfl (fun ls hl => ?_)
          refine lv_goto (pc := 719) (tgt := 18) hx hb dL_law_719 (by decide) ?_
          exact ih_18 ((i + 5)) (P) (D) (ix) (pw) (sg_653) (tm) (hd) (wk) (rc) (lc) (ix2) (ho) (re) (wk2) (tu) (wa) (nx) (hv) (by omega) (by omega) (hsN) _ _ _ hP hD hS (lv_sub hl [1, 2, 3, 0] rfl)
        · skip
          refine tq_i (y := zI 16) (by rw [h32]) ?_
          refine lv_tableIn (pc := 32) (tgt := 670) hx hb dL_law_32 (by decide) (by decide) rfl (by decide) ?_
          refine lv_aload_n (pc := 670) hx hb dL_law_670 rfl (lv_at hl 1 rfl) ?_
          refine lv_aload_n (pc := 671) hx hb dL_law_671 rfl (lv_at hl 0 rfl) ?_
          refine lv_iload_n (pc := 672) hx hb dL_law_672 rfl (lv_at hl 3 rfl) ?_
          refine nv_iconst (pc := 673) (k := 1) hx hb dL_law_673 rfl ?_
          refine nv_iadd (pc := 674) hx hb dL_law_674 ?_
          refine va_sld (pc := 675) hx hb hXs hbl hbA hS (i := nI ((i + 1))) (vp_in_nI (by omega) (by omega)) dL_law_675 ?_
          refine tq_i (y := zI (xs ((i + 1))).toInt) (by rw [nI_clamp (by omega), zI_of]) ?_
          refine CTi_Vp (pc := 676) (rX_ok tR) (As := [.int (zI ((xs ((i + 1))).toInt))]) (rest := []) ⟨hx, hb, hml, hown, hts⟩ (c_X0_classes l dd (ad := ad) (cI := cI) (cL := cL) (cQ := cQ) (tR := tR) (ix := ix) (pw := pw) (sg := sg) (tm := tm) (hd := hd) (wk := wk) (rc := rc) (lc := lc) (P := P) (D := D) (zI_rng _) hP1 hD1 hI.1) (cwV 1 hts gL_law_X0_classes rfl rfl rfl (by decide +kernel) ⟨Nat.le_of_ble_eq_true rfl, Nat.le_of_ble_eq_true rfl⟩) hK hP hD hS hA hX hK 0 0 rfl rfl rfl [0, 1, 2, 3, 4, 5, 6, 7, 8, 9, 10, 11, 12, 13, 14] [15, 16, 17, 18, 19, 20, 21, 22] rfl rfl rfl rfl (by decide) rfl hl.1 rfl (Nat.le_of_ble_eq_true rfl) ⟨Nat.le_of_ble_eq_true rfl, Nat.le_of_ble_eq_true rfl⟩ dL_law_676 (fun ra _ H locs hwa hP hD hS => ?_)
          try dsimp only at hwa
          have hP : va_P dd vwCl (wC ad cI cL cQ (ix) (pw) (sg) (tm) (hd) (wk) (rc) (lc) (P) (rootN (P)) (D) (phN (D)) ++ wM bd cI cL (P) (rootN (P)) (D) (phN (D)) (ix2) (ho) (re) (wk2) (tu) (wa) (nx)) H := hP.sub [8, 9, 10, 11, 12, 13, 14, 15, 16, 17, 18, 19, 20, 21, 22, 0, 1, 2, 3, 4, 5, 6, 7] rfl
          have hD : va_D A (wC ad cI cL cQ (ix) (pw) (sg) (tm) (hd) (wk) (rc) (lc) (P) (rootN (P)) (D) (phN (D)) ++ wM bd cI cL (P) (rootN (P)) (D) (phN (D)) (ix2) (ho) (re) (wk2) (tu) (wa) (nx)) := hD.sub [8, 9, 10, 11, 12, 13, 14, 15, 16, 17, 18, 19, 20, 21, 22, 0, 1, 2, 3, 4, 5, 6, 7] (by decide) rfl
          refine lv_aload_n (pc := 679) hx hb dL_law_679 rfl (lv_at hl 2 rfl) ?_
          refine lv_aload_n (pc := 680) hx hb dL_law_680 rfl (lv_at hl 0 rfl) ?_
          refine lv_iload_n (pc := 681) hx hb dL_law_681 rfl (lv_at hl 3 rfl) ?_
          refine nv_iconst (pc := 682) (k := 1) hx hb dL_law_682 rfl ?_
          refine nv_iadd (pc := 683) hx hb dL_law_683 ?_
          refine va_sld (pc := 684) hx hb hXs hbl hbA hS (i := nI ((i + 1))) (vp_in_nI (by omega) (by omega)) dL_law_684 ?_
          refine tq_i (y := zI (xs ((i + 1))).toInt) (by rw [nI_clamp (by omega), zI_of]) ?_
          refine CTi_Vp (pc := 685) am_no_ok (As := [.int (zI ((xs ((i + 1))).toInt))]) (rest := [.int (ra)]) ⟨hx, hb, hml, hown, hts⟩ (c_X1_classes l dd (ad := bd) (cI := cI) (cL := cL) (cQ := cQ) (P := P) (D := D) (ix := ix2) (ho := ho) (re := re) (wk := wk2) (tu := tu) (wa := wa) (nx := nx) (zI_rng _) hP1 hD1 hix2) (cwV 1 hts gL_law_X1_classes rfl rfl rfl (by decide +kernel) ⟨Nat.le_of_ble_eq_true rfl, Nat.le_of_ble_eq_true rfl⟩) hK hP hD hS hA trivial hK 15 1 rfl rfl rfl [15, 16, 17, 18, 19, 20, 21, 22] [0, 1, 2, 3, 4, 5, 6, 7, 8, 9, 10, 11, 12, 13, 14] rfl rfl rfl rfl (by decide) rfl hl.1 rfl (Nat.le_of_ble_eq_true rfl) ⟨Nat.le_of_ble_eq_true rfl, Nat.le_of_ble_eq_true rfl⟩ dL_law_685 (fun rb _ H locs hwb hP hD hS => ?_)
          try dsimp only at hwb
          have hP : va_P dd vwCl (wC ad cI cL cQ (ix) (pw) (sg) (tm) (hd) (wk) (rc) (lc) (P) (rootN (P)) (D) (phN (D)) ++ wM bd cI cL (P) (rootN (P)) (D) (phN (D)) (ix2) (ho) (re) (wk2) (tu) (wa) (nx)) H := hP.sub [0, 1, 2, 3, 4, 5, 6, 7, 8, 9, 10, 11, 12, 13, 14, 15, 16, 17, 18, 19, 20, 21, 22] rfl
          have hD : va_D A (wC ad cI cL cQ (ix) (pw) (sg) (tm) (hd) (wk) (rc) (lc) (P) (rootN (P)) (D) (phN (D)) ++ wM bd cI cL (P) (rootN (P)) (D) (phN (D)) (ix2) (ho) (re) (wk2) (tu) (wa) (nx)) := hD.sub [0, 1, 2, 3, 4, 5, 6, 7, 8, 9, 10, 11, 12, 13, 14, 15, 16, 17, 18, 19, 20, 21, 22] (by decide) rfl
          have hz : ra = rb := hwa.trans hwb.symm
          have hsN := hs
          clear hwa hwb
          refine lv_icmp_eq (pc := 688) (tgt := 716) hx hb dL_law_688 (by decide) (fun _ => ?_) (fun hne => absurd hz hne)
          refine lv_iinc (pc := 716) (v := nI ((i + 5))) (lv' := [(3, .int (nI ((i + 5)))), (0, .ref (b)), (1, .ref (ad 0)), (2, .ref (bd 0))]) hx hb dL_law_716 hl (k := 3) rfl (nI_inc5 _) (by decide) rfl (fun ls hl => ?_)
          refine lv_goto (pc := 719) (tgt := 18) hx hb dL_law_719 (by decide) ?_
          exact ih_18 ((i + 5)) (P) (D) (ix) (pw) (sg) (tm) (hd) (wk) (rc) (lc) (ix2) (ho) (re) (wk2) (tu) (wa) (nx) (hv) (by omega) (by omega) (hsN) _ _ _ hP hD hS (lv_sub hl [1, 2, 3, 0] rfl)
        · skip
          refine tq_i (y := zI 17) (by rw [h32]) ?_
          refine lv_tableIn (pc := 32) (tgt := 693) hx hb dL_law_32 (by decide) (by decide) rfl (by decide) ?_
          refine lv_aload_n (pc := 693) hx hb dL_law_693 rfl (lv_at hl 1 rfl) ?_
          refine lv_aload_n (pc := 694) hx hb dL_law_694 rfl (lv_at hl 0 rfl) ?_
          refine lv_iload_n (pc := 695) hx hb dL_law_695 rfl (lv_at hl 3 rfl) ?_
          refine nv_iconst (pc := 696) (k := 1) hx hb dL_law_696 rfl ?_
          refine nv_iadd (pc := 697) hx hb dL_law_697 ?_
          refine va_sld (pc := 698) hx hb hXs hbl hbA hS (i := nI ((i + 1))) (vp_in_nI (by omega) (by omega)) dL_law_698 ?_
          refine tq_i (y := zI (xs ((i + 1))).toInt) (by rw [nI_clamp (by omega), zI_of]) ?_
          refine CTi_Vp (pc := 699) (rX_ok tR) (As := [.int (zI ((xs ((i + 1))).toInt))]) (rest := []) ⟨hx, hb, hml, hown, hts⟩ (c_X0_count l dd (ad := ad) (cI := cI) (cL := cL) (cQ := cQ) (tR := tR) (ix := ix) (pw := pw) (sg := sg) (tm := tm) (hd := hd) (wk := wk) (rc := rc) (lc := lc) (P := P) (D := D) (zI_rng _)) (cwV 1 hts gL_law_X0_count rfl rfl rfl (by decide +kernel) ⟨Nat.le_of_ble_eq_true rfl, Nat.le_of_ble_eq_true rfl⟩) hK hP hD hS hA hX hK 0 0 rfl rfl rfl [0, 1, 2, 3, 4, 5, 6, 7, 8, 9, 10, 11, 12, 13, 14] [15, 16, 17, 18, 19, 20, 21, 22] rfl rfl rfl rfl (by decide) rfl hl.1 rfl (Nat.le_of_ble_eq_true rfl) ⟨Nat.le_of_ble_eq_true rfl, Nat.le_of_ble_eq_true rfl⟩ dL_law_699 (fun ra _ H locs hwa hP hD hS => ?_)
          try dsimp only at hwa
          have hP : va_P dd vwCl (wC ad cI cL cQ (ix) (pw) (sg) (tm) (hd) (wk) (rc) (lc) (P) (rootN (P)) (D) (phN (D)) ++ wM bd cI cL (P) (rootN (P)) (D) (phN (D)) (ix2) (ho) (re) (wk2) (tu) (wa) (nx)) H := hP.sub [8, 9, 10, 11, 12, 13, 14, 15, 16, 17, 18, 19, 20, 21, 22, 0, 1, 2, 3, 4, 5, 6, 7] rfl
          have hD : va_D A (wC ad cI cL cQ (ix) (pw) (sg) (tm) (hd) (wk) (rc) (lc) (P) (rootN (P)) (D) (phN (D)) ++ wM bd cI cL (P) (rootN (P)) (D) (phN (D)) (ix2) (ho) (re) (wk2) (tu) (wa) (nx)) := hD.sub [8, 9, 10, 11, 12, 13, 14, 15, 16, 17, 18, 19, 20, 21, 22, 0, 1, 2, 3, 4, 5, 6, 7] (by decide) rfl
          refine lv_aload_n (pc := 702) hx hb dL_law_702 rfl (lv_at hl 2 rfl) ?_
          refine lv_aload_n (pc := 703) hx hb dL_law_703 rfl (lv_at hl 0 rfl) ?_
          refine lv_iload_n (pc := 704) hx hb dL_law_704 rfl (lv_at hl 3 rfl) ?_
          refine nv_iconst (pc := 705) (k := 1) hx hb dL_law_705 rfl ?_
          refine nv_iadd (pc := 706) hx hb dL_law_706 ?_
          refine va_sld (pc := 707) hx hb hXs hbl hbA hS (i := nI ((i + 1))) (vp_in_nI (by omega) (by omega)) dL_law_707 ?_
          refine tq_i (y := zI (xs ((i + 1))).toInt) (by rw [nI_clamp (by omega), zI_of]) ?_
          refine CTi_Vp (pc := 708) am_no_ok (As := [.int (zI ((xs ((i + 1))).toInt))]) (rest := [.int (ra)]) ⟨hx, hb, hml, hown, hts⟩ (c_X1_count l dd (ad := bd) (cI := cI) (cL := cL) (cQ := cQ) (P := P) (D := D) (ix := ix2) (ho := ho) (re := re) (wk := wk2) (tu := tu) (wa := wa) (nx := nx) (zI_rng _)) (cwV 1 hts gL_law_X1_count rfl rfl rfl (by decide +kernel) ⟨Nat.le_of_ble_eq_true rfl, Nat.le_of_ble_eq_true rfl⟩) hK hP hD hS hA trivial hK 15 1 rfl rfl rfl [15, 16, 17, 18, 19, 20, 21, 22] [0, 1, 2, 3, 4, 5, 6, 7, 8, 9, 10, 11, 12, 13, 14] rfl rfl rfl rfl (by decide) rfl hl.1 rfl (Nat.le_of_ble_eq_true rfl) ⟨Nat.le_of_ble_eq_true rfl, Nat.le_of_ble_eq_true rfl⟩ dL_law_708 (fun rb _ H locs hwb hP hD hS => ?_)
          try dsimp only at hwb
          have hP : va_P dd vwCl (wC ad cI cL cQ (ix) (pw) (sg) (tm) (hd) (wk) (rc) (lc) (P) (rootN (P)) (D) (phN (D)) ++ wM bd cI cL (P) (rootN (P)) (D) (phN (D)) (ix2) (ho) (re) (wk2) (tu) (wa) (nx)) H := hP.sub [0, 1, 2, 3, 4, 5, 6, 7, 8, 9, 10, 11, 12, 13, 14, 15, 16, 17, 18, 19, 20, 21, 22] rfl
          have hD : va_D A (wC ad cI cL cQ (ix) (pw) (sg) (tm) (hd) (wk) (rc) (lc) (P) (rootN (P)) (D) (phN (D)) ++ wM bd cI cL (P) (rootN (P)) (D) (phN (D)) (ix2) (ho) (re) (wk2) (tu) (wa) (nx)) := hD.sub [0, 1, 2, 3, 4, 5, 6, 7, 8, 9, 10, 11, 12, 13, 14, 15, 16, 17, 18, 19, 20, 21, 22] (by decide) rfl
          have hz : ra = rb := hwa.trans hwb.symm
          have hsN := hs
          clear hwa hwb
          refine lv_icmp_eq (pc := 711) (tgt := 716) hx hb dL_law_711 (by decide) (fun _ => ?_) (fun hne => absurd hz hne)
          refine lv_iinc (pc := 716) (v := nI ((i + 5))) (lv' := [(3, .int (nI ((i + 5)))), (0, .ref (b)), (1, .ref (ad 0)), (2, .ref (bd 0))]) hx hb dL_law_716 hl (k := 3) rfl (nI_inc5 _) (by decide) rfl (fun ls hl => ?_)
          refine lv_goto (pc := 719) (tgt := 18) hx hb dL_law_719 (by decide) ?_
          exact ih_18 ((i + 5)) (P) (D) (ix) (pw) (sg) (tm) (hd) (wk) (rc) (lc) (ix2) (ho) (re) (wk2) (tu) (wa) (nx) (hv) (by omega) (by omega) (hsN) _ _ _ hP hD hS (lv_sub hl [1, 2, 3, 0] rfl)
        · skip
          refine lv_tableOut (pc := 32) (tgt := 716) hx hb dL_law_32 (by rw [zI_toInt (by omega) (by omega)]; omega) (by decide) ?_
          have hsN := hs
          refine lv_iinc (pc := 716) (v := nI ((i + 5))) (lv' := [(3, .int (nI ((i + 5)))), (0, .ref (b)), (1, .ref (ad 0)), (2, .ref (bd 0))]) hx hb dL_law_716 hl (k := 3) rfl (nI_inc5 _) (by decide) rfl (fun ls hl => ?_)
          refine lv_goto (pc := 719) (tgt := 18) hx hb dL_law_719 (by decide) ?_
          exact ih_18 ((i + 5)) (P) (D) (ix) (pw) (sg) (tm) (hd) (wk) (rc) (lc) (ix2) (ho) (re) (wk2) (tu) (wa) (nx) (hv) (by omega) (by omega) (hsN) _ _ _ hP hD hS (lv_sub hl [1, 2, 3, 0] rfl)
  exact L18 _ (0) (P0) (D0) (ix0) (pw0) (sg0) (tm0) (hd0) (wk0) (rc0) (lc0) (ix20) (ho0) (re0) (wk20) (tu0) (wa0) (nx0) (hv0) (Nat.lt_succ_self _) (by omega) (hs0) _ _ _ hP hD hS (lv_sub hl [1, 2, 3, 0] rfl)
