/-! PURE 5: small rows for the numbers' walks -/
theorem ad_s {w2 : Nat → Int64} {v : Nat → Int64} {i : Nat} {y : Int64} (hy : y = v i) (h : ∀ m, m < 12 → w2 m = if m < i then v m else zL 0) : ∀ m, m < 12 → vp_updL w2 i y m = if m < i + 1 then v m else zL 0 := by
  intro m hm
  unfold vp_updL
  by_cases q : m = i
  · rw [if_pos q, if_pos (by omega), hy, q]
  · rw [if_neg q, h m hm]
    by_cases q2 : m < i
    · rw [if_pos q2, if_pos (by omega)]
    · rw [if_neg q2, if_neg (by omega)]
theorem ad_v {way sg : Int} {hv : Nat → Nat → Int32} {h1 h2 i : Nat} (hsg : (way = 0 ∧ sg = 1) ∨ (way ≠ 0 ∧ sg = -1)) : (hv h1 i).toInt64 + zL sg * (hv h2 i).toInt64 = adV way (hlV hv h1) (hlV hv h2) i := by
  unfold adV hlV
  rw [zL_i, zL_i]
  rcases hsg with ⟨a, b⟩ | ⟨a, b⟩
  · rw [if_pos a, b, zL_1, Int64.one_mul]
  · rw [if_neg a, b, show zL (-1) = -1 by decide]
    grind
theorem sum_e {P D : Nat} {a b : Int} {x : Nat} (hD : 0 < D) : (fmN a D * clsN P D x + fmN b D * clsN P D (P + 1 - x)) % D = sumE P D a b x := fm_lin hD
theorem ad_m {w2 : Nat → Int64} {v : Nat → Int64} {i : Nat} {y : Int64} (hy : y = v i) (h : ∀ m, m < i → w2 m = v m) : ∀ m, m < i + 1 → vp_updL w2 i y m = v m := by
  intro m hm
  unfold vp_updL
  by_cases q : m = i
  · rw [if_pos q, hy, q]
  · rw [if_neg q]
    exact h m (by omega)
theorem rngT {t : Int} {i : Nat} (ht : -2147483648 ≤ t ∧ t < 2147483648) (hi : i < 12) : -9223372036854775808 ≤ (i : Int) * t ∧ (i : Int) * t < 9223372036854775808 := by
  have h := rngE ht ht hi (show 0 < 12 by decide)
  have e : (i : Int) * t = t * (i : Int) := Int.mul_comm _ _
  rw [show ((0 : Nat) : Int) = 0 from rfl, Int.mul_zero, Int.add_zero] at h
  rw [e]
  exact h
theorem sz_t {D k : Nat} : fmN ((k : Int) * ((D - 1 : Nat) : Int)) D = (k * (D - 1)) % D := by
  rw [← Int.natCast_mul, fmN_nat]
theorem sz_t1 {D k : Nat} {t : Int} (h : D = 1) : fmN ((k : Int) * t) D = (k * (D - 1)) % D := by
  subst h
  have := fmN_lt ((k : Int) * t) (show 0 < 1 by decide)
  omega
theorem okL_row {D : Nat} {hv : Nat → Nat → Int32} {ho : Nat → Int64} (hD : 1 ≤ D ∧ D ≤ 12) (hL : okL D hv ho) {h : Nat} (hh : h < 6) : ∀ i, i < phN D → ho (12 * h + i) = hlV hv h i := by
  intro i hi
  have hph := ph_rng D (by omega) hD.1
  rw [hL h hh i (by omega), if_pos hi]
  rfl
