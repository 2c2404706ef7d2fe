/-! PURE 8: the two sides together -/
theorem pr_odd : ∀ P, P ∈ prT → (P - 1) % 2 = 0 := by decide +kernel
def okS (P D : Nat) (hv : Nat → Nat → Int32) (ix pw : Nat → Int32) (hd : Nat → Nat → Int32) (ix2 : Nat → Int32) (ho : Nat → Int64) (re : Nat → Int32) : Prop :=
  okP P ∧ (1 ≤ D ∧ D ≤ 12) ∧ (P - 1) % D = 0 ∧ okI P ix pw ∧ okH D hv hd ∧ (∀ y, 1 ≤ y → y < P → ix2 y = nI (ixN P y)) ∧ okL D hv ho ∧ ∀ i, i < 13 → re i = zI (relM D i)
theorem okH_0 {D : Nat} {hd : Nat → Nat → Int32} (hD : 1 ≤ D ∧ D ≤ 12) (h : ∀ a, a < 6 → ∀ b, b < 10 → hd a b = nI 0) : okH D (fun _ _ => nI 0) hd := fun a ha b hb => by
  have hph := ph_rng D (by omega) hD.1
  exact h a ha b (by omega)
theorem okL_0 {D : Nat} {ho : Nat → Int64} (h : ∀ k, k < 72 → ho k = zL 0) : okL D (fun _ _ => nI 0) ho := fun a ha b hb => by
  rw [h _ (by omega)]
  have e : (nI 0).toInt = 0 := by decide
  rw [e]
  split <;> rfl
theorem mg_prime {v : Int} {P D : Nat} {hv : Nat → Nat → Int32} {ix pw : Nat → Int32} {hd : Nat → Nat → Int32} {ix2 : Nat → Int32} {ho : Nat → Int64} {re : Nat → Int32} (hs : okS P D hv ix pw hd ix2 ho re)
    {r1 r2 : Int32} {P1 D1 P2 D2 : Nat} {ixa pwa : Nat → Int32} {hda : Nat → Nat → Int32} {ixb : Nat → Int32} {hob : Nat → Int64} {reb : Nat → Int32}
    (h1 : (v.toNat ∈ prT ∧ r1 = nI (rootN v.toNat) ∧ P1 = v.toNat ∧ D1 = 2 ∧ okI v.toNat ixa pwa ∧ ∀ a, a < 6 → ∀ b, b < 10 → hda a b = nI 0) ∨ (v.toNat ∉ prT ∧ r1 = zI (-3) ∧ (P1, D1, ixa, pwa, hda) = (P, D, ix, pw, hd)))
    (h2 : (v.toNat ∈ prT ∧ r2 = nI (rootN v.toNat) ∧ P2 = v.toNat ∧ D2 = 2 ∧ (∀ y, 1 ≤ y → y < v.toNat → ixb y = nI (ixN v.toNat y)) ∧ (∀ k, k < 72 → hob k = zL 0) ∧ ∀ i, i < 13 → reb i = zI (relM 2 i)) ∨ (v.toNat ∉ prT ∧ r2 = zI (-3) ∧ (P2, D2, ixb, hob, reb) = (P, D, ix2, ho, re))) :
    r1 = r2 ∧ P1 = P2 ∧ D1 = D2 ∧ ∃ hv2, okS P1 D1 hv2 ixa pwa hda ixb hob reb := by
  rcases h1 with ⟨a1, a2, a3, a4, a5, a6⟩ | ⟨a1, a2, a3⟩
  · rcases h2 with ⟨b1, b2, b3, b4, b5, b6, b7⟩ | ⟨b1, b2, b3⟩
    · subst a3 a4 b3 b4
      exact ⟨a2.trans b2.symm, rfl, rfl, fun _ _ => nI 0, okP_of _ a1, by decide, pr_odd _ a1, a5, okH_0 (by decide) a6, b5, okL_0 b6, b7⟩
    · exact absurd a1 b1
  · rcases h2 with ⟨b1, b2, b3, b4, b5, b6, b7⟩ | ⟨b1, b2, b3⟩
    · exact absurd b1 a1
    · simp only [Prod.mk.injEq] at a3 b3
      obtain ⟨rfl, rfl, rfl, rfl, rfl⟩ := a3
      obtain ⟨rfl, rfl, rfl, rfl, rfl⟩ := b3
      exact ⟨a2.trans b2.symm, rfl, rfl, hv, hs⟩
theorem mg_degree {v : Int} {P D : Nat} {hv : Nat → Nat → Int32} {ix pw : Nat → Int32} {hd : Nat → Nat → Int32} {ix2 : Nat → Int32} {ho : Nat → Int64} {re : Nat → Int32} (hs : okS P D hv ix pw hd ix2 ho re)
    {r1 r2 : Int32} {D1 D2 : Nat} {hda : Nat → Nat → Int32} {hob : Nat → Int64} {reb : Nat → Int32}
    (h1 : ((1 ≤ v ∧ v ≤ 12 ∧ (P - 1) % v.toNat = 0) ∧ r1 = nI (phN v.toNat) ∧ D1 = v.toNat ∧ ∀ a, a < 6 → ∀ b, b < 10 → hda a b = nI 0) ∨ (¬ (1 ≤ v ∧ v ≤ 12 ∧ (P - 1) % v.toNat = 0) ∧ r1 = zI (-3) ∧ (D1, hda) = (D, hd)))
    (h2 : ((1 ≤ v ∧ v ≤ 12 ∧ (P - 1) % v.toNat = 0) ∧ r2 = nI (phN v.toNat) ∧ D2 = v.toNat ∧ (∀ k, k < 72 → hob k = zL 0) ∧ ∀ i, i < 13 → reb i = zI (relM v.toNat i)) ∨ (¬ (1 ≤ v ∧ v ≤ 12 ∧ (P - 1) % v.toNat = 0) ∧ r2 = zI (-3) ∧ (D2, hob, reb) = (D, ho, re))) :
    r1 = r2 ∧ D1 = D2 ∧ ∃ hv2, okS P D1 hv2 ix pw hda ix2 hob reb := by
  obtain ⟨s1, s2, s3, s4, s5, s6, s7, s8⟩ := id hs
  rcases h1 with ⟨a1, a2, a3, a4⟩ | ⟨a1, a2, a3⟩
  · rcases h2 with ⟨b1, b2, b3, b4, b5⟩ | ⟨b1, b2, b3⟩
    · subst a3 b3
      exact ⟨a2.trans b2.symm, rfl, fun _ _ => nI 0, s1, by omega, a1.2.2, s4, okH_0 (by omega) a4, s6, okL_0 b4, b5⟩
    · exact absurd a1 b1
  · rcases h2 with ⟨b1, b2, b3, b4, b5⟩ | ⟨b1, b2, b3⟩
    · exact absurd b1 a1
    · simp only [Prod.mk.injEq] at a3 b3
      obtain ⟨rfl, rfl⟩ := a3
      obtain ⟨rfl, rfl, rfl⟩ := b3
      exact ⟨a2.trans b2.symm, rfl, hv, hs⟩
theorem mg_G {D : Nat} {hv hd hda : Nat → Nat → Int32} {ho hob : Nat → Int64} (hH : okH D hv hd) (hL : okL D hv ho) (e1 : hda = hd) (e2 : hob = ho) : ∃ hv2, okH D hv2 hda ∧ okL D hv2 hob := ⟨hv, by rw [e1]; exact hH, by rw [e2]; exact hL⟩
theorem mg_st {D h : Nat} {hv hd hda : Nat → Nat → Int32} {ho hob : Nat → Int64} {V : Nat → Int64} {r1 r2 : Int32} (hH : okH D hv hd) (hL : okL D hv ho)
    (h1 : (inR D V ∧ r1 = nI 1 ∧ okH D (stR hv h V) hda) ∨ (¬ inR D V ∧ r1 = zI (-5) ∧ hda = hd)) (h2 : (inR D V ∧ r2 = nI 1 ∧ okL D (stR hv h V) hob) ∨ (¬ inR D V ∧ r2 = zI (-5) ∧ hob = ho)) : r1 = r2 ∧ ∃ hv2, okH D hv2 hda ∧ okL D hv2 hob := by
  rcases h1 with ⟨a1, a2, a3⟩ | ⟨a1, a2, a3⟩ <;> rcases h2 with ⟨b1, b2, b3⟩ | ⟨b1, b2, b3⟩
  · exact ⟨a2.trans b2.symm, _, a3, b3⟩
  · exact absurd a1 b1
  · exact absurd b1 a1
  · exact ⟨a2.trans b2.symm, mg_G hH hL a3 b3⟩
theorem mg_u {A B S1 S2 E1 E2 G : Prop} {r1 r2 x y : Int32} (h1 : (¬ A ∧ r1 = x ∧ E1) ∨ (A ∧ ¬ B ∧ r1 = y ∧ E1) ∨ (A ∧ B ∧ S1)) (h2 : (¬ A ∧ r2 = x ∧ E2) ∨ (A ∧ ¬ B ∧ r2 = y ∧ E2) ∨ (A ∧ B ∧ S2)) (hE : E1 → E2 → G) (hS : S1 → S2 → r1 = r2 ∧ G) : r1 = r2 ∧ G := by
  rcases h1 with ⟨a1, a2, a3⟩ | ⟨a1, a2, a3, a4⟩ | ⟨a1, a2, a3⟩ <;> rcases h2 with ⟨b1, b2, b3⟩ | ⟨b1, b2, b3, b4⟩ | ⟨b1, b2, b3⟩
  · exact ⟨a2.trans b2.symm, hE a3 b3⟩
  · exact absurd b1 a1
  · exact absurd b1 a1
  · exact absurd a1 b1
  · exact ⟨a3.trans b3.symm, hE a4 b4⟩
  · exact absurd b2 a2
  · exact absurd a1 b1
  · exact absurd a2 b2
  · exact hS a3 b3
theorem mg_sum {A : Prop} {D h : Nat} {hv hd hda : Nat → Nat → Int32} {ho hob : Nat → Int64} {V : Nat → Int64} {r1 r2 x y : Int32} (hH : okH D hv hd) (hL : okL D hv ho)
    (h1 : (¬ A ∧ r1 = x ∧ hda = hd) ∨ (A ∧ r1 = y ∧ ((inR D V ∧ okH D (stR hv h V) hda) ∨ (¬ inR D V ∧ hda = hd)))) (h2 : (¬ A ∧ r2 = x ∧ hob = ho) ∨ (A ∧ r2 = y ∧ ((inR D V ∧ okL D (stR hv h V) hob) ∨ (¬ inR D V ∧ hob = ho)))) : r1 = r2 ∧ ∃ hv2, okH D hv2 hda ∧ okL D hv2 hob := by
  rcases h1 with ⟨a1, a2, a3⟩ | ⟨a1, a2, a3⟩ <;> rcases h2 with ⟨b1, b2, b3⟩ | ⟨b1, b2, b3⟩
  · exact ⟨a2.trans b2.symm, mg_G hH hL a3 b3⟩
  · exact absurd b1 a1
  · exact absurd a1 b1
  · refine ⟨a2.trans b2.symm, ?_⟩
    rcases a3 with ⟨c1, c2⟩ | ⟨c1, c2⟩ <;> rcases b3 with ⟨d1, d2⟩ | ⟨d1, d2⟩
    · exact ⟨_, c2, d2⟩
    · exact absurd c1 d1
    · exact absurd d1 c1
    · exact mg_G hH hL c2 d2
theorem mg_3 {A E F : Prop} {r1 r2 x y : Int64} (hEF : E → F → False) (h1 : (¬ A ∧ r1 = x) ∨ (A ∧ E ∧ r1 = x) ∨ (A ∧ F ∧ r1 = y)) (h2 : (¬ A ∧ r2 = x) ∨ (A ∧ E ∧ r2 = x) ∨ (A ∧ F ∧ r2 = y)) : r1 = r2 := by
  rcases h1 with ⟨a1, a2⟩ | ⟨a1, a2, a3⟩ | ⟨a1, a2, a3⟩ <;> rcases h2 with ⟨b1, b2⟩ | ⟨b1, b2, b3⟩ | ⟨b1, b2, b3⟩
  · exact a2.trans b2.symm
  · exact absurd b1 a1
  · exact absurd b1 a1
  · exact absurd a1 b1
  · exact a3.trans b3.symm
  · exact absurd b2 (fun q => hEF a2 q)
  · exact absurd a1 b1
  · exact absurd a2 (fun q => hEF b2 q)
  · exact a3.trans b3.symm
theorem mg_e {A E : Prop} {r1 r2 x y z : Int32} (h1 : (¬ A ∧ r1 = x) ∨ (A ∧ E ∧ r1 = y) ∨ (A ∧ ¬ E ∧ r1 = z)) (h2 : (¬ A ∧ r2 = x) ∨ (A ∧ E ∧ r2 = y) ∨ (A ∧ ¬ E ∧ r2 = z)) : r1 = r2 := by
  rcases h1 with ⟨a1, a2⟩ | ⟨a1, a2, a3⟩ | ⟨a1, a2, a3⟩ <;> rcases h2 with ⟨b1, b2⟩ | ⟨b1, b2, b3⟩ | ⟨b1, b2, b3⟩
  · exact a2.trans b2.symm
  · exact absurd b1 a1
  · exact absurd b1 a1
  · exact absurd a1 b1
  · exact a3.trans b3.symm
  · exact absurd a2 b2
  · exact absurd a1 b1
  · exact absurd b2 a2
  · exact a3.trans b3.symm
