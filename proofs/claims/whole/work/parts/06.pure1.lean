/-! PURE 1: what the small methods answer -/
theorem zI_rem {x : Int} {n : Nat} (hx : -2147483648 ≤ x ∧ x < 2147483648) (h0 : 0 < n) (hn : n < 2147483648) : zI x - zI x / nI n * nI n = zI (x.tmod (n : Int)) := by
  have hq : zI x / nI n = zI (x.tdiv (n : Int)) := by
    rw [← zI_of (zI x / nI n)]
    rw [Int32.toInt_div_of_ne_right _ _ (by intro h; have := congrArg Int32.toInt h; rw [nI_toInt hn] at this; have h2 : (-1 : Int32).toInt = -1 := by decide
                                            omega)]
    rw [zI_toInt hx.1 hx.2, nI_toInt hn]
  rw [hq, nI_zI, zI_mul, zI_sub, Int.tmod_def, Int.mul_comm]
theorem zL_rem {x : Int} {n : Nat} (hx : -9223372036854775808 ≤ x ∧ x < 9223372036854775808) (h0 : 0 < n) (hn : n < 2147483648) : zL x - zL x / zL (n : Int) * zL (n : Int) = zL (x.tmod (n : Int)) := by
  have hq : zL x / zL (n : Int) = zL (x.tdiv (n : Int)) := by
    rw [← zL_of (zL x / zL (n : Int))]
    rw [Int64.toInt_div_of_ne_right _ _ (by intro h; have := congrArg Int64.toInt h; rw [zL_toInt (by omega) (by omega)] at this; have h2 : (-1 : Int64).toInt = -1 := by decide
                                            omega)]
    rw [zL_toInt hx.1 hx.2, zL_toInt (by omega) (by omega)]
  rw [hq, zL_mul, zL_sub, Int.tmod_def, Int.mul_comm]
theorem zL_ne0 {n : Nat} (h0 : 0 < n) (hn : n < 2147483648) : ¬ zL (n : Int) = 0 := by
  intro h
  have := congrArg Int64.toInt h
  rw [zL_toInt (by omega) (by omega)] at this
  have h2 : (0 : Int64).toInt = 0 := by decide
  omega
theorem fm_pos {x : Int} {n : Nat} (hx : 0 ≤ x) (h0 : 0 < n) : x.tmod (n : Int) = ((fmN x n : Nat) : Int) := by
  rw [fmN_cast x h0, Int.tmod_eq_emod_of_nonneg hx]
theorem fm_zero {x : Int} {n : Nat} (h0 : 0 < n) (h : x.tmod (n : Int) = 0) : fmN x n = 0 := by
  have h1 : (n : Int) ∣ x := Int.dvd_of_tmod_eq_zero h
  have := fmN_cast x h0
  rw [Int.emod_eq_zero_of_dvd h1] at this
  omega
theorem fm_neg {x : Int} {n : Nat} (hx : x < 0) (h0 : 0 < n) (h : x.tmod (n : Int) ≠ 0) : x.tmod (n : Int) + (n : Int) = ((fmN x n : Nat) : Int) := by
  have h1 : ¬ (n : Int) ∣ x := fun q => h (Int.tmod_eq_zero_of_dvd q)
  rw [fmN_cast x h0, Int.tmod_eq_emod, if_neg (by intro q; rcases q with q | q; exact absurd q (by omega); exact h1 q)]
  omega
theorem fm_neg_rng {x : Int} {n : Nat} (hx : x < 0) (h0 : 0 < n) : x.tmod (n : Int) ≤ 0 ∧ -(n : Int) < x.tmod (n : Int) := by
  by_cases h1 : (n : Int) ∣ x
  · rw [Int.tmod_eq_zero_of_dvd h1]; omega
  · have h2 := fm_neg hx h0 (fun q => h1 (Int.dvd_of_tmod_eq_zero q))
    have h3 := fmN_lt x h0
    have h4 : fmN x n ≠ 0 := fun q => h1 (Int.dvd_of_emod_eq_zero (by rw [← fmN_cast x h0, q]; rfl))
    omega
theorem fm_rng {x : Int} {n : Nat} (h0 : 0 < n) : -(n : Int) < x.tmod (n : Int) ∧ x.tmod (n : Int) < (n : Int) := by
  by_cases hx : 0 ≤ x
  · have h3 := fmN_lt x h0
    rw [fm_pos hx h0]; omega
  · have := fm_neg_rng (by omega : x < 0) h0
    omega
theorem xor_sign {x : Int} {n : Nat} (hx : -2147483648 ≤ x ∧ x < 2147483648) (hn : n < 2147483648) : (0 ≤ zI x ^^^ nI n) ↔ 0 ≤ x := by
  have h1 : (zI x).toBitVec.msb = decide (x < 0) := by
    rw [BitVec.msb_eq_toInt, Int32.toInt_toBitVec, zI_toInt hx.1 hx.2]
  have h2 : (nI n).toBitVec.msb = false := by
    rw [BitVec.msb_eq_toInt, Int32.toInt_toBitVec, nI_toInt hn]
    simp
  have h3 : (zI x ^^^ nI n).toBitVec.msb = decide (x < 0) := by
    rw [Int32.toBitVec_xor, BitVec.msb_xor, h1, h2]; simp
  rw [Int32.le_iff_toInt_le]
  rw [BitVec.msb_eq_toInt, Int32.toInt_toBitVec] at h3
  have h4 : (0 : Int32).toInt = 0 := by decide
  have h5 := decide_eq_decide.mp h3
  omega
theorem fl_upd (f : Nat → Int32) (v : Int32) (i : Nat) : upd (fun k => if k < i then v else f k) i v = fun k => if k < i + 1 then v else f k := by
  funext k
  unfold upd
  by_cases h : k = i
  · rw [if_pos h, if_pos (by omega)]
  · rw [if_neg h]
    show (if k < i then v else f k) = if k < i + 1 then v else f k
    by_cases h2 : k < i
    · rw [if_pos h2, if_pos (by omega)]
    · rw [if_neg h2, if_neg (by omega)]
theorem fl_updL (f : Nat → Int64) (v : Int64) (i : Nat) : vp_updL (fun k => if k < i then v else f k) i v = fun k => if k < i + 1 then v else f k := by
  funext k
  unfold vp_updL
  by_cases h : k = i
  · rw [if_pos h, if_pos (by omega)]
  · rw [if_neg h]
    show (if k < i then v else f k) = if k < i + 1 then v else f k
    by_cases h2 : k < i
    · rw [if_pos h2, if_pos (by omega)]
    · rw [if_neg h2, if_neg (by omega)]
theorem fl_0 {α : Type} (f : Nat → α) (v : α) : f = fun k => if k < 0 then v else f k := by
  funext k
  rw [if_neg (by omega)]
/-- the first i from a start on, within n steps, that q takes -/
def fndN (q : Nat → Bool) : Nat → Nat → Nat
  | 0, i => i
  | n + 1, i => if q i then i else fndN q n (i + 1)
def ordB (P g : Nat) : Bool := (List.range (P - 2)).all (fun k => g ^ (k + 1) % P != 1)
def rootN (P : Nat) : Nat := fndN (ordB P) (P - 2) 2
def ixN (P x : Nat) : Nat := fndN (fun k => rootN P ^ k % P == x) (P - 1) 0
theorem fndN_ge (q : Nat → Bool) : ∀ n i, i ≤ fndN q n i
  | 0, i => Nat.le_refl _
  | n + 1, i => by
    unfold fndN
    split
    · exact Nat.le_refl _
    · exact Nat.le_trans (Nat.le_succ i) (fndN_ge q n (i + 1))
theorem fndN_le (q : Nat → Bool) : ∀ n i, fndN q n i ≤ i + n
  | 0, i => Nat.le_refl _
  | n + 1, i => by
    unfold fndN
    split
    · omega
    · have := fndN_le q n (i + 1)
      omega
theorem fndN_yes (q : Nat → Bool) : ∀ n i, fndN q n i < i + n → q (fndN q n i) = true
  | 0, i, h => absurd h (Nat.lt_irrefl i)
  | n + 1, i, h => by
    unfold fndN at h ⊢
    split
    · assumption
    · rename_i h1
      rw [if_neg h1] at h
      exact fndN_yes q n (i + 1) (by omega)
theorem fndN_no (q : Nat → Bool) : ∀ n i k, i ≤ k → k < fndN q n i → q k = false
  | 0, i, k, h1, h2 => absurd h1 (Nat.not_le.mpr h2)
  | n + 1, i, k, h1, h2 => by
    unfold fndN at h2
    split at h2
    · omega
    · rename_i h3
      rcases Nat.lt_or_ge i k with h4 | h4
      · exact fndN_no q n (i + 1) k h4 h2
      · have e : k = i := by omega
        rw [e]
        exact Bool.eq_false_iff.mpr h3
theorem ixN_le (P x : Nat) : ixN P x ≤ P - 1 := by
  have := fndN_le (fun k => rootN P ^ k % P == x) (P - 1) 0
  unfold ixN
  omega
/-- the part of the state that the small methods look at -/
def okT (P D : Nat) (ix : Nat → Int32) : Prop := 3 ≤ P ∧ P ≤ 199 ∧ 1 ≤ D ∧ D ≤ 12 ∧ ∀ y, 1 ≤ y → y < P → ix y = nI (ixN P y)
def clsN (P D x : Nat) : Nat := ixN P (x % P) % D
def coN (D : Nat) (t : Int) : Bool := Nat.gcd (fmN t D) D == 1
theorem fm_dvd {t : Int} {D q : Nat} (hD : 0 < D) (hq : q ∣ D) : (q : Int) ∣ t ↔ q ∣ fmN t D := by
  have h1 := fmN_cast t hD
  have h2 : (q : Int) ∣ (D : Int) := Int.natCast_dvd_natCast.mpr hq
  rw [← Int.natCast_dvd_natCast, h1, Int.dvd_iff_emod_eq_zero, Int.dvd_iff_emod_eq_zero, Int.emod_emod_of_dvd t h2]
theorem co_no {D q : Nat} {t : Int} (hD : 0 < D) (h2 : 2 ≤ q) (h1 : D % q = 0) (h3 : t.tmod (q : Int) = 0) : coN D t = false := by
  have a1 : q ∣ D := Nat.dvd_of_mod_eq_zero h1
  have a2 : (q : Int) ∣ t := Int.dvd_of_tmod_eq_zero h3
  have a3 := (fm_dvd hD a1).mp a2
  have a4 := Nat.dvd_gcd a3 a1
  unfold coN
  apply Bool.eq_false_iff.mpr
  intro h
  have h5 : Nat.gcd (fmN t D) D = 1 := by simpa using h
  rw [h5] at a4
  have := Nat.le_of_dvd (by decide) a4
  omega
theorem co_yes {D : Nat} {t : Int} (hD : 0 < D) (h : ∀ q, 2 ≤ q → q ≤ D → ¬ (D % q = 0 ∧ t.tmod (q : Int) = 0)) : coN D t = true := by
  unfold coN
  have a1 := Nat.gcd_dvd_left (fmN t D) D
  have a2 := Nat.gcd_dvd_right (fmN t D) D
  have a3 : 0 < Nat.gcd (fmN t D) D := Nat.gcd_pos_of_pos_right _ hD
  by_cases h1 : Nat.gcd (fmN t D) D = 1
  · rw [h1]; rfl
  · exact absurd ⟨Nat.mod_eq_zero_of_dvd a2, Int.tmod_eq_zero_of_dvd ((fm_dvd hD a2).mpr a1)⟩ (h _ (by omega) (Nat.le_of_dvd hD a2))
theorem set_iff {x : Int} {D : Nat} (hx : -2147483648 ≤ x ∧ x < 2147483648) (h1 : 1 ≤ D) (h2 : D ≤ 12) : (((zI x).toUInt32 >>> ((nI D).toUInt32 &&& Int32.toUInt32 31)).toInt32 = 0) ↔ (0 ≤ x ∧ x < ((2 ^ D : Nat) : Int)) := by
  have hk : ∀ d, d < 13 → (((nI d).toUInt32 &&& Int32.toUInt32 31).toBitVec % 32).toNat = d := by decide +kernel
  have hs := pk_ushr (zI x) (nI D) D (hk D (by omega))
  have hz : ∀ w : Int32, w = 0 ↔ w.toBitVec.toNat = 0 := fun w => by
    constructor
    · intro h; rw [h]; rfl
    · intro h
      apply Int32.toBitVec.inj
      apply BitVec.eq_of_toNat_eq
      rw [h]; rfl
  rw [hz, hs, Nat.div_eq_zero_iff]
  have hn : ((zI x).toBitVec.toNat : Int) = x % 4294967296 := by
    have e : (zI x).toBitVec.toInt = x := by rw [Int32.toInt_toBitVec, zI_toInt hx.1 hx.2]
    have e2 := BitVec.toInt_eq_toNat_bmod (zI x).toBitVec
    have e3 := (zI x).toBitVec.isLt
    rw [e] at e2
    rw [Int.bmod_def] at e2
    simp only [Nat.reducePow] at e2 e3
    omega
  have hp : 2 ^ D ≤ 4096 := Nat.le_trans (Nat.pow_le_pow_right (by decide) h2) (by decide)
  have hp0 : 0 < 2 ^ D := Nat.pow_pos (by decide)
  omega
theorem shl_1 {D : Nat} (h2 : D ≤ 12) : nI 1 <<< (nI D &&& 31) = nI (2 ^ D) := by
  have hk : ∀ d, d < 13 → nI 1 <<< (nI d &&& 31) = nI (2 ^ d) := by decide +kernel
  exact hk D (by omega)
theorem zL_le {a b : Int} (ha : -9223372036854775808 ≤ a ∧ a < 9223372036854775808) (hb : -9223372036854775808 ≤ b ∧ b < 9223372036854775808) : zL a ≤ zL b ↔ a ≤ b := by
  rw [Int64.le_iff_toInt_le, zL_toInt ha.1 ha.2, zL_toInt hb.1 hb.2]
