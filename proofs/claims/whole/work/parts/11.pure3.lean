/-! PURE 3: what the plain calls answer -/
def restS (P D : Nat) (x what : Int) : Int32 := if 0 ≤ what ∧ what ≤ 1 then (if fmN x P = 0 then zI (-1) else if what = 0 then nI (ixN P (fmN x P)) else nI (clsN P D (fmN x P))) else zI (-3)
def mtC (P D : Nat) (i j : Int) : Nat → Nat
  | 0 => 0
  | x + 1 => mtC P D i j x + (if 1 ≤ x ∧ ((clsN P D x : Nat) : Int) = i ∧ ((clsN P D (x + 1) : Nat) : Int) = j then 1 else 0)
theorem mtC_le (P D : Nat) (i j : Int) : ∀ x, mtC P D i j x ≤ x
  | 0 => Nat.le_refl _
  | x + 1 => by
    have := mtC_le P D i j x
    unfold mtC
    split <;> omega
theorem mtC_1 {P D x : Nat} {i j : Int} (h : 1 ≤ x ∧ ((clsN P D x : Nat) : Int) = i ∧ ((clsN P D (x + 1) : Nat) : Int) = j) : mtC P D i j (x + 1) = mtC P D i j x + 1 := by
  show mtC P D i j x + _ = _
  rw [if_pos h]
theorem mtC_0 {P D x : Nat} {i j : Int} (h : ¬ (1 ≤ x ∧ ((clsN P D x : Nat) : Int) = i ∧ ((clsN P D (x + 1) : Nat) : Int) = j)) : mtC P D i j (x + 1) = mtC P D i j x := by
  show mtC P D i j x + _ = _
  rw [if_neg h]
  rfl
def mtS (P D : Nat) (i j : Int) : Int32 := if (0 ≤ i ∧ i < (D : Int)) ∧ 0 ≤ j ∧ j < (D : Int) then nI (mtC P D i j (P - 1)) else zI (-2)
def ctS (P D : Nat) (what : Int) : Int32 := if what = 0 then nI P else if what = 1 then nI (rootN P) else if what = 2 then nI D else if what = 3 then nI (phN D) else zI (-3)
def isH (h : Int) : Prop := 0 ≤ h ∧ h < 6
def atS (D : Nat) (hv : Nat → Nat → Int32) (h i : Int) : Int32 := if (0 ≤ h ∧ h < 6) ∧ 0 ≤ i ∧ i < (phN D : Int) then hv h.toNat i.toNat else zI (-2147483648)
def smB (hv : Nat → Nat → Int32) (a b : Nat) : Nat → Bool
  | 0 => true
  | k + 1 => smB hv a b k && (hv a k == hv b k)
def smS (D : Nat) (hv : Nat → Nat → Int32) (a b : Int) : Int32 := if (0 ≤ a ∧ a < 6) ∧ 0 ≤ b ∧ b < 6 then (if smB hv a.toNat b.toNat (phN D) = true then nI 1 else nI 0) else zI (-2)
theorem smB_iff (hv : Nat → Nat → Int32) (a b : Nat) : ∀ n, smB hv a b n = true ↔ ∀ k, k < n → hv a k = hv b k
  | 0 => ⟨fun _ k h => absurd h (Nat.not_lt_zero k), fun _ => rfl⟩
  | n + 1 => by
    unfold smB
    rw [Bool.and_eq_true, smB_iff hv a b n]
    constructor
    · intro h k hk
      rcases Nat.lt_or_ge k n with z | z
      · exact h.1 k z
      · have e : k = n := by omega
        rw [e]
        simpa using h.2
    · intro h
      exact ⟨fun k hk => h k (by omega), by simpa using h n (by omega)⟩
/-- the numbers held, in the one and in the other -/
def okH (D : Nat) (hv hd : Nat → Nat → Int32) : Prop := ∀ a, a < 6 → ∀ b, b < phN D → hd a b = hv a b
def okL (D : Nat) (hv : Nat → Nat → Int32) (ho : Nat → Int64) : Prop := ∀ a, a < 6 → ∀ b, b < 12 → ho (12 * a + b) = if b < phN D then zL (hv a b).toInt else zL 0
theorem zL_int (x : Int32) : (zL x.toInt).toInt32 = x := by rw [zL_toI, zI_of]
theorem zL_inj {x y : Int32} (h : zL x.toInt = zL y.toInt) : x = y := by
  rw [← zL_int x, ← zL_int y, h]
