/-! PURE 4: whole combinations, brought down -/
def rhT1 : List (List Int) := [[1], [1], [1], [1], [1], [1], [1], [1], [1], [1], [1], [1], [1], [1], [1], [1], [1], [1], [1], [1], [1], [1], [1], [1]]
def rhT2 : List (List Int) := [[1], [(-1)], [1], [(-1)], [1], [(-1)], [1], [(-1)], [1], [(-1)], [1], [(-1)], [1], [(-1)], [1], [(-1)], [1], [(-1)], [1], [(-1)], [1], [(-1)], [1], [(-1)]]
def rhT3 : List (List Int) := [[1, 0], [0, 1], [(-1), (-1)], [1, 0], [0, 1], [(-1), (-1)], [1, 0], [0, 1], [(-1), (-1)], [1, 0], [0, 1], [(-1), (-1)], [1, 0], [0, 1], [(-1), (-1)], [1, 0], [0, 1], [(-1), (-1)], [1, 0], [0, 1], [(-1), (-1)], [1, 0], [0, 1], [(-1), (-1)]]
def rhT4 : List (List Int) := [[1, 0], [0, 1], [(-1), 0], [0, (-1)], [1, 0], [0, 1], [(-1), 0], [0, (-1)], [1, 0], [0, 1], [(-1), 0], [0, (-1)], [1, 0], [0, 1], [(-1), 0], [0, (-1)], [1, 0], [0, 1], [(-1), 0], [0, (-1)], [1, 0], [0, 1], [(-1), 0], [0, (-1)]]
def rhT5 : List (List Int) := [[1, 0, 0, 0], [0, 1, 0, 0], [0, 0, 1, 0], [0, 0, 0, 1], [(-1), (-1), (-1), (-1)], [1, 0, 0, 0], [0, 1, 0, 0], [0, 0, 1, 0], [0, 0, 0, 1], [(-1), (-1), (-1), (-1)], [1, 0, 0, 0], [0, 1, 0, 0], [0, 0, 1, 0], [0, 0, 0, 1], [(-1), (-1), (-1), (-1)], [1, 0, 0, 0], [0, 1, 0, 0], [0, 0, 1, 0], [0, 0, 0, 1], [(-1), (-1), (-1), (-1)], [1, 0, 0, 0], [0, 1, 0, 0], [0, 0, 1, 0], [0, 0, 0, 1]]
def rhT6 : List (List Int) := [[1, 0], [0, 1], [(-1), 1], [(-1), 0], [0, (-1)], [1, (-1)], [1, 0], [0, 1], [(-1), 1], [(-1), 0], [0, (-1)], [1, (-1)], [1, 0], [0, 1], [(-1), 1], [(-1), 0], [0, (-1)], [1, (-1)], [1, 0], [0, 1], [(-1), 1], [(-1), 0], [0, (-1)], [1, (-1)]]
def rhT7 : List (List Int) := [[1, 0, 0, 0, 0, 0], [0, 1, 0, 0, 0, 0], [0, 0, 1, 0, 0, 0], [0, 0, 0, 1, 0, 0], [0, 0, 0, 0, 1, 0], [0, 0, 0, 0, 0, 1], [(-1), (-1), (-1), (-1), (-1), (-1)], [1, 0, 0, 0, 0, 0], [0, 1, 0, 0, 0, 0], [0, 0, 1, 0, 0, 0], [0, 0, 0, 1, 0, 0], [0, 0, 0, 0, 1, 0], [0, 0, 0, 0, 0, 1], [(-1), (-1), (-1), (-1), (-1), (-1)], [1, 0, 0, 0, 0, 0], [0, 1, 0, 0, 0, 0], [0, 0, 1, 0, 0, 0], [0, 0, 0, 1, 0, 0], [0, 0, 0, 0, 1, 0], [0, 0, 0, 0, 0, 1], [(-1), (-1), (-1), (-1), (-1), (-1)], [1, 0, 0, 0, 0, 0], [0, 1, 0, 0, 0, 0], [0, 0, 1, 0, 0, 0]]
def rhT8 : List (List Int) := [[1, 0, 0, 0], [0, 1, 0, 0], [0, 0, 1, 0], [0, 0, 0, 1], [(-1), 0, 0, 0], [0, (-1), 0, 0], [0, 0, (-1), 0], [0, 0, 0, (-1)], [1, 0, 0, 0], [0, 1, 0, 0], [0, 0, 1, 0], [0, 0, 0, 1], [(-1), 0, 0, 0], [0, (-1), 0, 0], [0, 0, (-1), 0], [0, 0, 0, (-1)], [1, 0, 0, 0], [0, 1, 0, 0], [0, 0, 1, 0], [0, 0, 0, 1], [(-1), 0, 0, 0], [0, (-1), 0, 0], [0, 0, (-1), 0], [0, 0, 0, (-1)]]
def rhT9 : List (List Int) := [[1, 0, 0, 0, 0, 0], [0, 1, 0, 0, 0, 0], [0, 0, 1, 0, 0, 0], [0, 0, 0, 1, 0, 0], [0, 0, 0, 0, 1, 0], [0, 0, 0, 0, 0, 1], [(-1), 0, 0, (-1), 0, 0], [0, (-1), 0, 0, (-1), 0], [0, 0, (-1), 0, 0, (-1)], [1, 0, 0, 0, 0, 0], [0, 1, 0, 0, 0, 0], [0, 0, 1, 0, 0, 0], [0, 0, 0, 1, 0, 0], [0, 0, 0, 0, 1, 0], [0, 0, 0, 0, 0, 1], [(-1), 0, 0, (-1), 0, 0], [0, (-1), 0, 0, (-1), 0], [0, 0, (-1), 0, 0, (-1)], [1, 0, 0, 0, 0, 0], [0, 1, 0, 0, 0, 0], [0, 0, 1, 0, 0, 0], [0, 0, 0, 1, 0, 0], [0, 0, 0, 0, 1, 0], [0, 0, 0, 0, 0, 1]]
def rhT10 : List (List Int) := [[1, 0, 0, 0], [0, 1, 0, 0], [0, 0, 1, 0], [0, 0, 0, 1], [(-1), 1, (-1), 1], [(-1), 0, 0, 0], [0, (-1), 0, 0], [0, 0, (-1), 0], [0, 0, 0, (-1)], [1, (-1), 1, (-1)], [1, 0, 0, 0], [0, 1, 0, 0], [0, 0, 1, 0], [0, 0, 0, 1], [(-1), 1, (-1), 1], [(-1), 0, 0, 0], [0, (-1), 0, 0], [0, 0, (-1), 0], [0, 0, 0, (-1)], [1, (-1), 1, (-1)], [1, 0, 0, 0], [0, 1, 0, 0], [0, 0, 1, 0], [0, 0, 0, 1]]
def rhT11 : List (List Int) := [[1, 0, 0, 0, 0, 0, 0, 0, 0, 0], [0, 1, 0, 0, 0, 0, 0, 0, 0, 0], [0, 0, 1, 0, 0, 0, 0, 0, 0, 0], [0, 0, 0, 1, 0, 0, 0, 0, 0, 0], [0, 0, 0, 0, 1, 0, 0, 0, 0, 0], [0, 0, 0, 0, 0, 1, 0, 0, 0, 0], [0, 0, 0, 0, 0, 0, 1, 0, 0, 0], [0, 0, 0, 0, 0, 0, 0, 1, 0, 0], [0, 0, 0, 0, 0, 0, 0, 0, 1, 0], [0, 0, 0, 0, 0, 0, 0, 0, 0, 1], [(-1), (-1), (-1), (-1), (-1), (-1), (-1), (-1), (-1), (-1)], [1, 0, 0, 0, 0, 0, 0, 0, 0, 0], [0, 1, 0, 0, 0, 0, 0, 0, 0, 0], [0, 0, 1, 0, 0, 0, 0, 0, 0, 0], [0, 0, 0, 1, 0, 0, 0, 0, 0, 0], [0, 0, 0, 0, 1, 0, 0, 0, 0, 0], [0, 0, 0, 0, 0, 1, 0, 0, 0, 0], [0, 0, 0, 0, 0, 0, 1, 0, 0, 0], [0, 0, 0, 0, 0, 0, 0, 1, 0, 0], [0, 0, 0, 0, 0, 0, 0, 0, 1, 0], [0, 0, 0, 0, 0, 0, 0, 0, 0, 1], [(-1), (-1), (-1), (-1), (-1), (-1), (-1), (-1), (-1), (-1)], [1, 0, 0, 0, 0, 0, 0, 0, 0, 0], [0, 1, 0, 0, 0, 0, 0, 0, 0, 0]]
def rhT12 : List (List Int) := [[1, 0, 0, 0], [0, 1, 0, 0], [0, 0, 1, 0], [0, 0, 0, 1], [(-1), 0, 1, 0], [0, (-1), 0, 1], [(-1), 0, 0, 0], [0, (-1), 0, 0], [0, 0, (-1), 0], [0, 0, 0, (-1)], [1, 0, (-1), 0], [0, 1, 0, (-1)], [1, 0, 0, 0], [0, 1, 0, 0], [0, 0, 1, 0], [0, 0, 0, 1], [(-1), 0, 1, 0], [0, (-1), 0, 1], [(-1), 0, 0, 0], [0, (-1), 0, 0], [0, 0, (-1), 0], [0, 0, 0, (-1)], [1, 0, (-1), 0], [0, 1, 0, (-1)]]
def rhT : List (List (List Int)) := [[], rhT1, rhT2, rhT3, rhT4, rhT5, rhT6, rhT7, rhT8, rhT9, rhT10, rhT11, rhT12]
/-- the place j of z^k brought down -/
def rho (D k j : Nat) : Int := ((rhT.getD D []).getD k []).getD j 0
def siS (f : Nat → Int) : Nat → Int
  | 0 => 0
  | n + 1 => siS f n + f n
def slS (f : Nat → Int64) : Nat → Int64
  | 0 => 0
  | n + 1 => slS f n + f n
theorem rho_1 : ∀ D, D < 13 → (1 ≤ D → ∀ k, k < phN D → ∀ j, j < phN D → rho D k j = if k = j then 1 else 0) := by decide +kernel
theorem rho_2 : ∀ D, D < 13 → (1 ≤ D → ∀ k, k < 24 → (phN D ≤ k → ∀ j, j < phN D → rho D k j = - siS (fun i => relC ((D - 1) * 10 + i) * rho D (k - phN D + i) j) (phN D))) := by decide +kernel
theorem rho_3 : ∀ D, D < 13 → (1 ≤ D → ∀ k, k < 24 → ∀ j, j < phN D → rho D k j = rho D (k % D) j) := by decide +kernel
theorem rho_4 : ∀ D, D < 13 → (1 ≤ D → ∀ e, e < D → ∀ i, i < phN D → ∀ j, j < phN D → siS (fun m => rho D e m * rho D (i + m) j) (phN D) = rho D ((i + e) % D) j) := by decide +kernel
theorem relC_rng (n : Nat) : -1 ≤ relC n ∧ relC n ≤ 1 := by
  rcases Nat.lt_or_ge n 120 with h | h
  · exact (by decide +kernel : ∀ n, n < 120 → (-1 ≤ relC n ∧ relC n ≤ 1)) n h
  · unfold relC
    rw [List.getD_eq_getElem?_getD, List.getElem?_eq_none (by have : relT.length = 120 := (by decide +kernel); omega)]
    decide
theorem relM_rng (D n : Nat) : -1 ≤ relM D n ∧ relM D n ≤ 1 := by
  unfold relM
  have := relC_rng ((D - 1) * 10 + n)
  split
  · omega
  · split <;> omega
theorem zL_0 : zL 0 = 0 := by decide
theorem zL_1 : zL 1 = 1 := by decide
theorem slS_congr {f g : Nat → Int64} : ∀ {n : Nat}, (∀ k, k < n → f k = g k) → slS f n = slS g n
  | 0, _ => rfl
  | n + 1, h => by
    unfold slS
    rw [slS_congr (fun k hk => h k (by omega)), h n (by omega)]
theorem slS_add (f g : Nat → Int64) : ∀ n, slS (fun k => f k + g k) n = slS f n + slS g n
  | 0 => (show (0 : Int64) = 0 + 0 by decide)
  | n + 1 => by
    unfold slS
    rw [slS_add f g n]
    grind
theorem slS_mul (a : Int64) (f : Nat → Int64) : ∀ n, slS (fun k => a * f k) n = a * slS f n
  | 0 => (Int64.mul_zero).symm
  | n + 1 => by
    unfold slS
    rw [slS_mul a f n]
    grind
theorem slS_zero {f : Nat → Int64} : ∀ {n : Nat}, (∀ k, k < n → f k = 0) → slS f n = 0
  | 0, _ => rfl
  | n + 1, h => by
    unfold slS
    rw [slS_zero (fun k hk => h k (by omega)), h n (by omega)]
    decide
theorem slS_tail (g : Nat → Int64) (a : Nat) : ∀ n, slS (fun m => if a ≤ m then g (m - a) else 0) (a + n) = slS g n
  | 0 => slS_zero (fun k hk => if_neg (by omega))
  | n + 1 => by
    show slS _ (a + n) + _ = slS g n + g n
    rw [slS_tail g a n]
    show _ + (if a ≤ a + n then g (a + n - a) else 0) = _
    rw [if_pos (by omega), show a + n - a = n by omega]
theorem slS_swap (f : Nat → Nat → Int64) (m : Nat) : ∀ n, slS (fun i => slS (fun k => f i k) m) n = slS (fun k => slS (fun i => f i k) n) m
  | 0 => (slS_zero (fun k _ => rfl)).symm
  | n + 1 => by
    show slS _ n + slS _ m = _
    rw [slS_swap f m n, ← slS_add]
    rfl
theorem zL_siS (f : Nat → Int) : ∀ n, zL (siS f n) = slS (fun k => zL (f k)) n
  | 0 => zL_0
  | n + 1 => by
    show zL (siS f n + f n) = slS _ n + zL (f n)
    rw [← zL_siS f n, zL_add]
theorem slS_upd (w c : Nat → Int64) (e : Nat) (v : Int64) : ∀ n, slS (fun k => vp_updL w e (w e + v) k * c k) n = slS (fun k => w k * c k) n + (if e < n then v * c e else 0)
  | 0 => by rw [if_neg (by omega)]; exact (show (0 : Int64) = 0 + 0 by decide)
  | n + 1 => by
    show slS _ n + _ * _ = (slS _ n + _ * _) + _
    rw [slS_upd w c e v n]
    unfold vp_updL
    by_cases h : n = e
    · subst h
      rw [if_pos rfl, if_neg (by omega), if_pos (by omega)]
      grind
    · rw [if_neg h]
      by_cases h2 : e < n
      · rw [if_pos h2, if_pos (by omega)]
        grind
      · rw [if_neg h2, if_neg (by omega)]
        grind
/-- what w's powers come to at the place j -/
def Lf (D j : Nat) (w : Nat → Int64) (n : Nat) : Int64 := slS (fun k => w k * zL (rho D k j)) n
theorem Lf_add {D j e n : Nat} {w : Nat → Int64} {v : Int64} (h : e < n) : Lf D j (vp_updL w e (w e + v)) n = Lf D j w n + v * zL (rho D e j) := by
  unfold Lf
  rw [slS_upd, if_pos h]
theorem Lf_zero {D j n : Nat} {w : Nat → Int64} (h : ∀ m, m < n → w m = zL 0) : Lf D j w n = 0 := slS_zero (fun k hk => by
  show w k * _ = 0
  rw [h k hk, zL_0, Int64.zero_mul])
theorem Lf_set {D j e n : Nat} {w : Nat → Int64} {v : Int64} (hz : ∀ m, m < n → w m = zL 0) (h : e < n) : Lf D j (vp_updL w e v) n = v * zL (rho D e j) := by
  have h1 := Lf_add (D := D) (j := j) (w := w) (v := v) h
  rw [hz e h, zL_0, Int64.zero_add, Lf_zero hz, Int64.zero_add] at h1
  exact h1
theorem Lf_end {D j : Nat} {w : Nat → Int64} (hD : 1 ≤ D ∧ D ≤ 12) (hj : j < phN D) : ∀ n, n ≤ phN D → Lf D j w n = if j < n then w j else 0
  | 0, _ => by rw [if_neg (by omega)]; rfl
  | n + 1, hn => by
    show Lf D j w n + w n * zL (rho D n j) = _
    rw [Lf_end hD hj n (by omega), rho_1 D (by omega) hD.1 n (by omega) j hj]
    by_cases h : n = j
    · subst h
      rw [if_neg (by omega), if_pos rfl, if_pos (by omega), zL_1, Int64.mul_one, Int64.zero_add]
    · rw [if_neg h, zL_0, Int64.mul_zero, Int64.add_zero]
      by_cases h2 : j < n
      · rw [if_pos h2, if_pos (by omega)]
      · rw [if_neg h2, if_neg (by omega)]
theorem Lf_at {D j : Nat} {w : Nat → Int64} (hD : 1 ≤ D ∧ D ≤ 12) (hj : j < phN D) : Lf D j w (phN D) = w j := by
  rw [Lf_end hD hj _ (Nat.le_refl _), if_pos hj]
theorem Lf_low {D j : Nat} {w : Nat → Int64} (hD : 1 ≤ D ∧ D ≤ 12) (hj : j < phN D) : ∀ n, phN D ≤ n → (∀ m, phN D ≤ m → m < n → w m = zL 0) → Lf D j w n = w j := by
  intro n hn hz
  obtain ⟨k, rfl⟩ : ∃ k, n = phN D + k := ⟨n - phN D, by omega⟩
  clear hn
  induction k with
  | zero => exact Lf_at hD hj
  | succ k ih =>
    show Lf D j w (phN D + k) + w (phN D + k) * _ = _
    rw [ih (fun m a b => hz m a (by omega)), hz (phN D + k) (by omega) (by omega), zL_0, Int64.zero_mul, Int64.add_zero]
theorem Lf_step {D j k : Nat} {w w2 : Nat → Int64} (hD : 1 ≤ D ∧ D ≤ 12) (hj : j < phN D) (h1 : phN D ≤ k) (h2 : k < 24)
    (h : ∀ m, m < k → w2 m = if k - phN D ≤ m then w m - w k * zL (relC ((D - 1) * 10 + (m - (k - phN D)))) else w m) : Lf D j w2 k = Lf D j w (k + 1) := by
  have e1 : Lf D j w2 k = slS (fun m => w m * zL (rho D m j) + (if k - phN D ≤ m then (fun i => (- w k) * (zL (relC ((D - 1) * 10 + i) * rho D (k - phN D + i) j))) (m - (k - phN D)) else 0)) k := by
    unfold Lf
    refine slS_congr (fun m hm => ?_)
    show w2 m * _ = _
    rw [h m hm]
    by_cases q : k - phN D ≤ m
    · rw [if_pos q, if_pos q]
      show _ = _ + (- w k) * _
      rw [show k - phN D + (m - (k - phN D)) = m by omega, ← zL_mul]
      grind
    · rw [if_neg q, if_neg q]
      grind
  rw [e1, slS_add]
  have e2 := slS_tail (fun i => (- w k) * (zL (relC ((D - 1) * 10 + i) * rho D (k - phN D + i) j))) (k - phN D) (phN D)
  rw [show k - phN D + phN D = k by omega] at e2
  rw [e2, slS_mul, ← zL_siS]
  have e3 := rho_2 D (by omega) hD.1 k h2 h1 j hj
  show Lf D j w k + _ = Lf D j w k + w k * zL (rho D k j)
  rw [e3, ← zL_neg]
  grind
/-- a row that is brought down, one place further -/
theorem rd_s {D h i : Nat} {w w2 : Nat → Int64} {rl : Nat → Int} (hF : phN D ≤ h) (hi : i ≤ phN D)
    (hw : ∀ m, w2 m = if h - phN D ≤ m ∧ m < h - phN D + i then w m - w h * zL (rl (m - (h - phN D))) else w m) :
    ∀ m, vp_updL w2 (h - phN D + i) (w2 (h - phN D + i) - w h * zL (rl i)) m = if h - phN D ≤ m ∧ m < h - phN D + (i + 1) then w m - w h * zL (rl (m - (h - phN D))) else w m := by
  intro m
  unfold vp_updL
  by_cases q : m = h - phN D + i
  · rw [if_pos q, if_pos (by omega), hw (h - phN D + i), if_neg (by omega), q, show h - phN D + i - (h - phN D) = i by omega]
  · rw [if_neg q, hw m]
    by_cases q2 : h - phN D ≤ m ∧ m < h - phN D + i
    · rw [if_pos q2, if_pos (by omega)]
    · rw [if_neg q2, if_neg (by omega)]
theorem rd_top {D h i : Nat} {w w2 : Nat → Int64} {rl : Nat → Int} (hF : phN D ≤ h) (hi : i ≤ phN D)
    (hw : ∀ m, w2 m = if h - phN D ≤ m ∧ m < h - phN D + i then w m - w h * zL (rl (m - (h - phN D))) else w m) : w2 h = w h := by
  rw [hw h, if_neg (by omega)]
theorem rd_out {D j h : Nat} {w w2 : Nat → Int64} (hD : 1 ≤ D ∧ D ≤ 12) (hj : j < phN D) (hF : phN D ≤ h) (h2 : h < 24) (h0 : 1 ≤ h)
    (hw : ∀ m, w2 m = if h - phN D ≤ m ∧ m < h - phN D + phN D then w m - w h * zL (relC ((D - 1) * 10 + (m - (h - phN D)))) else w m) : Lf D j (vp_updL w2 h (zL 0)) (h - 1 + 1) = Lf D j w (h + 1) := by
  rw [show h - 1 + 1 = h by omega]
  refine Lf_step hD hj hF h2 (fun m hm => ?_)
  unfold vp_updL
  rw [if_neg (by omega), hw m]
  by_cases q : h - phN D ≤ m
  · rw [if_pos (by omega), if_pos q]
  · rw [if_neg (by omega), if_neg q]
theorem rd_outM {D j h i : Nat} {w w2 : Nat → Int64} (hD : 1 ≤ D ∧ D ≤ 12) (hj : j < phN D) (hF : phN D ≤ h) (h2 : h < 24) (h0 : 1 ≤ h) (hi : i = phN D + 1 ∨ w h = zL 0)
    (hw : ∀ m, w2 m = if h - phN D ≤ m ∧ m < h - phN D + i then w m - w h * zL (relM D (m - (h - phN D))) else w m) : Lf D j w2 (h - 1 + 1) = Lf D j w (h + 1) := by
  rw [show h - 1 + 1 = h by omega]
  refine Lf_step hD hj hF h2 (fun m hm => ?_)
  rw [hw m]
  have e : ∀ q, q < phN D → relM D q = relC ((D - 1) * 10 + q) := fun q hq => by
    unfold relM
    rw [if_neg (by omega), if_pos hq]
  by_cases q : h - phN D ≤ m
  · rw [if_pos q]
    rcases hi with hi | hi
    · rw [if_pos (by omega), e _ (by omega)]
    · rw [hi, zL_0, Int64.zero_mul, Int64.zero_mul]
      split <;> grind
  · rw [if_neg (by omega), if_neg q]
/-! the vectors that the calls lay down -/
theorem rt_ok {x : Int64} (h : -100000000 ≤ x.toInt ∧ x.toInt ≤ 100000000) : zL x.toInt32.toInt = x := by
  have e : x.toInt32 = zI x.toInt := by
    have := zL_toI x.toInt
    rwa [zL_of] at this
  rw [e, zI_toInt (by omega) (by omega), zL_of]
def inR (D : Nat) (v : Nat → Int64) : Prop := ∀ j, j < phN D → -100000000 ≤ (v j).toInt ∧ (v j).toInt ≤ 100000000
def stR (hv : Nat → Nat → Int32) (h : Nat) (v : Nat → Int64) : Nat → Nat → Int32 := va_up hv h (fun i => (v i).toInt32)
theorem stR_at {hv : Nat → Nat → Int32} {h : Nat} {v : Nat → Int64} {a b : Nat} : stR hv h v a b = if a = h then (v b).toInt32 else hv a b := by
  unfold stR
  by_cases q : a = h
  · rw [q, va_up_self, if_pos rfl]
  · rw [va_up_ne _ _ q, if_neg q]
theorem lt_zL {x : Int64} {z : Int} (hz : -9223372036854775808 ≤ z ∧ z < 9223372036854775808) : x < zL z ↔ x.toInt < z := by
  rw [Int64.lt_iff_toInt_lt, zL_toInt hz.1 hz.2]
theorem le_zL {x : Int64} {z : Int} (hz : -9223372036854775808 ≤ z ∧ z < 9223372036854775808) : x ≤ zL z ↔ x.toInt ≤ z := by
  rw [Int64.le_iff_toInt_le, zL_toInt hz.1 hz.2]
theorem zL_le' {x : Int64} {z : Int} (hz : -9223372036854775808 ≤ z ∧ z < 9223372036854775808) : zL z ≤ x ↔ z ≤ x.toInt := by
  rw [Int64.le_iff_toInt_le, zL_toInt hz.1 hz.2]
theorem wr_C {hv hdv : Nat → Nat → Int32} {v : Nat → Int64} {h i F : Nat} (hz : ∀ a, a < 6 → ∀ b, b < F → hdv a b = if a = h ∧ b < i then (v b).toInt32 else hv a b) :
    ∀ a, a < 6 → ∀ b, b < F → va_up hdv h (upd (hdv h) i (v i).toInt32) a b = if a = h ∧ b < i + 1 then (v b).toInt32 else hv a b := by
  intro a ha b hb
  by_cases q : a = h
  · subst q
    rw [va_up_self]
    unfold upd
    by_cases q2 : b = i
    · rw [if_pos q2, if_pos ⟨rfl, by omega⟩, q2]
    · rw [if_neg q2, hz a ha b hb]
      by_cases q3 : b < i
      · rw [if_pos ⟨rfl, q3⟩, if_pos ⟨rfl, by omega⟩]
      · rw [if_neg (fun w => q3 w.2), if_neg (fun w => by omega)]
  · rw [va_up_ne _ _ q, hz a ha b hb, if_neg (fun w => q w.1), if_neg (fun w => q w.1)]
theorem wr_M {hov : Nat → Int64} {g : Nat → Nat → Int64} {x : Nat → Int64} {h k : Nat} {y : Int64} (hy : y = x k) (hk : k < 12) (hz : ∀ a, a < 6 → ∀ b, b < 12 → hov (12 * a + b) = if a = h ∧ b < k then x b else g a b) :
    ∀ a, a < 6 → ∀ b, b < 12 → vp_updL hov (12 * h + k) y (12 * a + b) = if a = h ∧ b < k + 1 then x b else g a b := by
  intro a ha b hb
  unfold vp_updL
  by_cases q : 12 * a + b = 12 * h + k
  · have e1 : a = h := by omega
    have e2 : b = k := by omega
    rw [if_pos q, if_pos ⟨e1, by omega⟩, hy, e2]
  · rw [if_neg q, hz a ha b hb]
    by_cases q2 : a = h ∧ b < k
    · rw [if_pos q2, if_pos ⟨q2.1, by omega⟩]
    · rw [if_neg q2, if_neg (fun w => q2 ⟨w.1, by omega⟩)]
theorem okL_st {D : Nat} {hv : Nat → Nat → Int32} {ho : Nat → Int64} {v : Nat → Int64} {h : Nat} (hr : inR D v)
    (hz : ∀ a, a < 6 → ∀ b, b < 12 → ho (12 * a + b) = if a = h ∧ b < 12 then (if b < phN D then v b else zL 0) else (if b < phN D then zL (hv a b).toInt else zL 0)) : okL D (stR hv h v) ho := by
  intro a ha b hb
  rw [hz a ha b hb, stR_at]
  by_cases q : a = h
  · rw [if_pos ⟨q, hb⟩, if_pos q]
    by_cases q2 : b < phN D
    · rw [if_pos q2, if_pos q2, rt_ok (hr b q2)]
    · rw [if_neg q2, if_neg q2]
  · rw [if_neg (fun w => q w.1), if_neg q]
theorem inR_congr {D : Nat} {v w : Nat → Int64} (h : ∀ j, j < phN D → v j = w j) (hr : inR D v) : inR D w := fun j hj => by rw [← h j hj]; exact hr j hj
theorem okH_congr {D : Nat} {hv hd : Nat → Nat → Int32} {v w : Nat → Int64} {h0 : Nat} (h : ∀ j, j < phN D → v j = w j) (hr : okH D (stR hv h0 v) hd) : okH D (stR hv h0 w) hd := fun a ha b hb => by
  rw [hr a ha b hb, stR_at, stR_at, h b hb]
theorem okL_congr {D : Nat} {hv : Nat → Nat → Int32} {ho : Nat → Int64} {v w : Nat → Int64} {h0 : Nat} (h : ∀ j, j < phN D → v j = w j) (hr : okL D (stR hv h0 v) ho) : okL D (stR hv h0 w) ho := fun a ha b hb => by
  rw [hr a ha b hb]
  by_cases q : b < phN D
  · rw [if_pos q, if_pos q, stR_at, stR_at, h b q]
  · rw [if_neg q, if_neg q]
def sumE (P D : Nat) (a b : Int) (x : Nat) : Nat := fmN (a * ((clsN P D x : Nat) : Int) + b * ((clsN P D (P + 1 - x) : Nat) : Int)) D
def sumV (P D : Nat) (a b : Int) (n j : Nat) : Int64 := slS (fun x => if 2 ≤ x then zL (rho D (sumE P D a b x) j) else 0) n
theorem sumV_s {P D : Nat} {a b : Int} {x j : Nat} (hx : 2 ≤ x) : sumV P D a b (x + 1) j = sumV P D a b x j + zL 1 * zL (rho D (sumE P D a b x) j) := by
  show _ + (if 2 ≤ x then zL (rho D (sumE P D a b x) j) else 0) = _
  rw [if_pos hx, zL_1, Int64.one_mul]
  rfl
theorem sumV_2 {P D : Nat} {a b : Int} {j : Nat} : sumV P D a b 2 j = 0 := slS_zero (fun k hk => if_neg (by omega))
theorem fm_lin {a b : Int} {D u v : Nat} (hD : 0 < D) : (fmN a D * u + fmN b D * v) % D = fmN (a * (u : Int) + b * (v : Int)) D := by
  have h1 := fmN_cast a hD
  have h2 := fmN_cast b hD
  have h3 : (((fmN a D * u + fmN b D * v) % D : Nat) : Int) = ((fmN (a * (u : Int) + b * (v : Int)) D : Nat) : Int) := by
    rw [fmN_cast _ hD]
    simp only [Int.natCast_emod, Int.natCast_add, Int.natCast_mul, h1, h2]
    rw [Int.add_emod (a % (D : Int) * (u : Int)), Int.mul_emod (a % (D : Int)), Int.mul_emod (b % (D : Int)), Int.emod_emod, Int.emod_emod, ← Int.mul_emod, ← Int.mul_emod, ← Int.add_emod]
  exact Int.ofNat.inj h3
theorem fm_one {t : Int} {D k : Nat} (hD : 0 < D) : (k * fmN t D) % D = fmN ((k : Int) * t) D := by
  have h := fm_lin (a := t) (b := 0) (u := k) (v := 0) hD
  rw [Nat.mul_zero, Nat.add_zero, Int.zero_mul, Int.add_zero] at h
  rw [Nat.mul_comm, h, Int.mul_comm]
theorem rngE {a b : Int} {u v : Nat} (ha : -2147483648 ≤ a ∧ a < 2147483648) (hb : -2147483648 ≤ b ∧ b < 2147483648) (hu : u < 12) (hv : v < 12) : -9223372036854775808 ≤ a * (u : Int) + b * (v : Int) ∧ a * (u : Int) + b * (v : Int) < 9223372036854775808 := by
  have h1 : ∀ (a : Int) (u : Nat), (-2147483648 ≤ a ∧ a < 2147483648) → u < 12 → -2147483648 * 12 ≤ a * (u : Int) ∧ a * (u : Int) ≤ 2147483648 * 12 := by
    intro a u ha hu
    have e : u = 0 ∨ u = 1 ∨ u = 2 ∨ u = 3 ∨ u = 4 ∨ u = 5 ∨ u = 6 ∨ u = 7 ∨ u = 8 ∨ u = 9 ∨ u = 10 ∨ u = 11 := by omega
    rcases e with rfl | rfl | rfl | rfl | rfl | rfl | rfl | rfl | rfl | rfl | rfl | rfl <;> omega
  have h2 := h1 a u ha hu
  have h3 := h1 b v hb hv
  omega
def unV (D : Nat) (c k : Int) (j : Nat) : Int64 := zL c * zL (rho D (fmN k D) j)
def hlV (hv : Nat → Nat → Int32) (h : Nat) : Nat → Int64 := fun i => zL (hv h i).toInt
def adV (way : Int) (a b : Nat → Int64) (j : Nat) : Int64 := if way = 0 then a j + b j else a j - b j
def rwV (D : Nat) (a b : Nat → Int64) (st i n j : Nat) : Int64 := slS (fun k => a i * b k * zL (rho D ((i + k * st) % D) j)) n
def mlV (D : Nat) (a b : Nat → Int64) (st n j : Nat) : Int64 := slS (fun i => rwV D a b st i (phN D) j) n
def rmV (D : Nat) (a b : Nat → Int64) (i n j : Nat) : Int64 := slS (fun k => a i * b k * zL (rho D (i + k) j)) n
def tmV (D : Nat) (a b : Nat → Int64) (n j : Nat) : Int64 := slS (fun i => rmV D a b i (phN D) j) n
def tnV (D : Nat) (a : Nat → Int64) (t : Int) (n j : Nat) : Int64 := slS (fun k => a k * zL (rho D (fmN ((k : Int) * t) D) j)) n
/-- times, in the one and in the other -/
theorem ml_tm {D : Nat} {a b : Nat → Int64} {j : Nat} (hD : 1 ≤ D ∧ D ≤ 12) (hj : j < phN D) : tmV D a b (phN D) j = mlV D a b 1 (phN D) j := by
  have hph := ph_rng D (by omega) hD.1
  refine slS_congr (fun i hi => slS_congr (fun k hk => ?_))
  show a i * b k * _ = a i * b k * _
  rw [Nat.mul_one, ← rho_3 D (by omega) hD.1 (i + k) (by omega) j hj]
theorem rho_lt {D e : Nat} (_h : e < D) : True := trivial
/-- a number times itself turned: the one way and the other -/
theorem sz_eq {D : Nat} {a : Nat → Int64} {T : Nat → Int64} {t : Int} {st j : Nat} (hD : 1 ≤ D ∧ D ≤ 12) (hj : j < phN D) (ht : ∀ k, k < phN D → fmN ((k : Int) * t) D = (k * st) % D) (hT : ∀ m, m < phN D → T m = tnV D a t (phN D) m) :
    tmV D a T (phN D) j = mlV D a a st (phN D) j := by
  have hph := ph_rng D (by omega) hD.1
  refine slS_congr (fun i hi => ?_)
  have e1 : rmV D a T i (phN D) j = slS (fun m => slS (fun k => a i * (a k * zL (rho D ((k * st) % D) m)) * zL (rho D (i + m) j)) (phN D)) (phN D) := by
    refine slS_congr (fun m hm => ?_)
    show a i * T m * _ = _
    rw [hT m hm]
    have e2 : tnV D a t (phN D) m = slS (fun k => a k * zL (rho D ((k * st) % D) m)) (phN D) := slS_congr (fun k hk => by
      show a k * _ = a k * _
      rw [ht k hk])
    rw [e2]
    have e3 : a i * slS (fun k => a k * zL (rho D ((k * st) % D) m)) (phN D) * zL (rho D (i + m) j) = (a i * zL (rho D (i + m) j)) * slS (fun k => a k * zL (rho D ((k * st) % D) m)) (phN D) := by grind
    rw [e3, ← slS_mul]
    refine slS_congr (fun k hk => ?_)
    grind
  rw [e1, slS_swap]
  refine slS_congr (fun k hk => ?_)
  show slS (fun m => a i * (a k * zL (rho D ((k * st) % D) m)) * zL (rho D (i + m) j)) (phN D) = a i * a k * zL (rho D ((i + k * st) % D) j)
  have e4 : slS (fun m => a i * (a k * zL (rho D ((k * st) % D) m)) * zL (rho D (i + m) j)) (phN D) = a i * a k * slS (fun m => zL (rho D ((k * st) % D) m * rho D (i + m) j)) (phN D) := by
    rw [← slS_mul]
    refine slS_congr (fun m hm => ?_)
    rw [← zL_mul]
    grind
  rw [e4, ← zL_siS, rho_4 D (by omega) hD.1 _ (Nat.mod_lt _ (by omega)) i hi j hj, Nat.add_mod_mod]

