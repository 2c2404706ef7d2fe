/-! PURE 7: rows of a kind, equations, forms -/
/-- v less x, below P -/
def sbN (P v x : Nat) : Nat := fmN ((v : Int) - (x : Int)) P
theorem sbN_lt {P v x : Nat} (h : 0 < P) : sbN P v x < P := fmN_lt _ h
theorem sb_ml {P n v x : Nat} (hP : 0 < P) : sbN P (mlP P n v) (mlP P n x) = mlP P n (sbN P v x) := by
  have e : ((sbN P (mlP P n v) (mlP P n x) : Nat) : Int) = ((mlP P n (sbN P v x) : Nat) : Int) := by
    unfold sbN mlP
    rw [fmN_cast _ hP]
    simp only [Int.natCast_emod, Int.natCast_mul, fmN_cast _ hP]
    rw [Int.sub_emod, Int.emod_emod, Int.emod_emod, ← Int.sub_emod, ← Int.sub_mul, Int.mul_emod, Int.mul_emod (((v : Int) - (x : Int)) % (P : Int)), Int.emod_emod]
    simp only [Int.emod_emod]
  exact Int.ofNat.inj e
def wyS (P D : Nat) : Nat → Nat → Int64
  | 0 => fun v => if v = 0 then zL 1 else zL 0
  | k + 1 => fun v => slS (fun x => if 1 ≤ x ∧ clsN P D x = 0 then wyS P D k (sbN P v x) else zL 0) P
def wyP (P D k v n : Nat) : Int64 := slS (fun x => if 1 ≤ x ∧ clsN P D x = 0 then wyS P D k (sbN P v x) else zL 0) n
theorem wy_ml {P D n : Nat} (hP : okP P) (hd : (P - 1) % D = 0) (hn : n % D = 0) : ∀ k v, v < P → wyS P D k (mlP P n v) = wyS P D k v := by
  have o1 := hP.1
  intro k
  induction k with
  | zero =>
    intro v hv
    show (if mlP P n v = 0 then zL 1 else zL 0) = if v = 0 then zL 1 else zL 0
    rcases Nat.eq_zero_or_pos v with q | q
    · subst q; rw [mlP_0]
    · rw [if_neg (show ¬ mlP P n v = 0 by have := (mlP_nz (n := n) hP q hv).1; omega), if_neg (show ¬ v = 0 by omega)]
  | succ k ih =>
    intro v hv
    show slS (fun x => if 1 ≤ x ∧ clsN P D x = 0 then wyS P D k (sbN P (mlP P n v) x) else zL 0) P = slS (fun x => if 1 ≤ x ∧ clsN P D x = 0 then wyS P D k (sbN P v x) else zL 0) P
    rw [← perm_mlL (n := n) hP (fun x => if 1 ≤ x ∧ clsN P D x = 0 then wyS P D k (sbN P (mlP P n v) x) else zL 0)]
    refine slS_congr (fun x hx => ?_)
    show (if 1 ≤ mlP P n x ∧ clsN P D (mlP P n x) = 0 then wyS P D k (sbN P (mlP P n v) (mlP P n x)) else zL 0) = _
    rcases Nat.eq_zero_or_pos x with q | q
    · subst q
      rw [mlP_0]
      rw [if_neg (fun w => absurd w.1 (by decide)), if_neg (fun w => absurd w.1 (by decide))]
    · rw [cls_ml hP hd hn q hx, sb_ml (by omega), ih _ (sbN_lt (by omega))]
      have h1 := (mlP_nz (n := n) hP q hx).1
      by_cases w : clsN P D x = 0
      · rw [if_pos ⟨h1, w⟩, if_pos ⟨q, w⟩]
      · rw [if_neg (fun z => w z.2), if_neg (fun z => w z.2)]
theorem wy_cls {P D k v : Nat} (hP : okP P) (hD : 1 ≤ D) (hd : (P - 1) % D = 0) (h1 : 1 ≤ v) (h2 : v < P) : wyS P D k v = wyS P D k (rootN P ^ (clsN P D v) % P) := by
  have o1 := hP.1
  have h3 := (pw_ix hP h1 h2).1
  have e0 : clsN P D v = ixN P v % D := by unfold clsN; rw [Nat.mod_eq_of_lt h2]
  have e1 : v = mlP P (ixN P v / D * D) (rootN P ^ (ixN P v % D) % P) := by
    rw [mlP_pw, Nat.add_comm, Nat.mul_comm, Nat.div_add_mod, h3]
  rw [e0]
  conv => lhs; rw [e1]
  exact wy_ml hP hd (Nat.mul_mod_left _ _) k _ (Nat.mod_lt _ (by omega))
/-- the rests but 0 by their powers -/
theorem by_pw {P : Nat} (hP : okP P) (f : Nat → Int64) (h0 : f 0 = 0) : slS f P = slS (fun k => f (rootN P ^ k % P)) (P - 1) := by
  have o1 := hP.1
  have e1 := slS_skip f 0 (P - 1) (by omega)
  rw [show P - 1 + 1 = P by omega] at e1
  rw [e1, h0, Int64.add_zero]
  have e2 : slS (fun k => if k < 0 then f k else f (k + 1)) (P - 1) = slS (fun k => (fun m => f (m + 1)) k) (P - 1) := slS_congr (fun k _ => if_neg (by omega))
  rw [e2]
  have e3 := slS_perm (P - 1) (fun m => f (m + 1)) (fun k => rootN P ^ k % P - 1) (fun k hk => by
      have a := pw_pos hP (show k ≤ P - 1 by omega)
      have b := Nat.mod_lt (rootN P ^ k) (show 0 < P by omega)
      show rootN P ^ k % P - 1 < P - 1
      omega) (fun i j hij hj => by
      have a := pw_pos hP (show i ≤ P - 1 by omega)
      have b := pw_pos hP (show j ≤ P - 1 by omega)
      have d := pw_dist hP hij hj
      show rootN P ^ i % P - 1 ≠ rootN P ^ j % P - 1
      omega)
  rw [← e3]
  refine slS_congr (fun k hk => ?_)
  have a := pw_pos hP (show k ≤ P - 1 by omega)
  show f (rootN P ^ k % P - 1 + 1) = _
  rw [show rootN P ^ k % P - 1 + 1 = rootN P ^ k % P by omega]
/-- in steps of D -/
def stS (g : Nat → Int64) (D : Nat) (n : Nat) : Int64 := slS (fun k => if k % D = 0 then g k else 0) n
theorem stS_s {g : Nat → Int64} {D k : Nat} (hD : 1 ≤ D) (hk : k % D = 0) : stS g D (k + D) = stS g D k + g k := by
  have h : ∀ j, 1 ≤ j → j ≤ D → stS g D (k + j) = stS g D k + g k := by
    intro j
    induction j with
    | zero => intro h; omega
    | succ j ih =>
      intro _ h2
      rcases Nat.eq_zero_or_pos j with q | q
      · subst q
        show stS g D k + (if k % D = 0 then g k else 0) = _
        rw [if_pos hk]
      · show stS g D (k + j) + (if (k + j) % D = 0 then g (k + j) else 0) = _
        rw [ih q (by omega), if_neg (by rw [Nat.add_mod, hk, Nat.zero_add, Nat.mod_mod, Nat.mod_eq_of_lt (by omega)]; omega), Int64.add_zero]
  exact h D hD (Nat.le_refl D)
theorem wy_st {P D k v : Nat} (hP : okP P) (hd : (P - 1) % D = 0) : wyS P D (k + 1) v = stS (fun m => wyS P D k (sbN P v (rootN P ^ m % P))) D (P - 1) := by
  have o1 := hP.1
  show slS (fun x => if 1 ≤ x ∧ clsN P D x = 0 then wyS P D k (sbN P v x) else zL 0) P = _
  rw [by_pw hP _ (by rw [if_neg (fun w => absurd w.1 (by decide)), zL_0])]
  refine slS_congr (fun m hm => ?_)
  have a := pw_pos hP (show m ≤ P - 1 by omega)
  rw [cls_pw hP hd]
  by_cases q : m % D = 0
  · rw [if_pos ⟨a, q⟩, if_pos q]
  · rw [if_neg (fun w => q w.2), if_neg q, zL_0]
theorem sb_0 {P v x : Nat} (hv : v < P) (hx : x < P) (h : v = x) : sbN P v x = 0 := by
  unfold sbN
  rw [h, Int.sub_self]
  have := fmN_nat 0 P
  rw [Nat.zero_mod] at this
  exact this
theorem sb_nz {P v x : Nat} (hv : v < P) (hx : x < P) (h : v ≠ x) : 1 ≤ sbN P v x ∧ ((sbN P v x : Nat) : Int) = (if v < x then (v : Int) - x + P else (v : Int) - x) := by
  have e := fmN_cast ((v : Int) - (x : Int)) (show 0 < P by omega)
  have e2 : ((v : Int) - (x : Int)) % (P : Int) = if v < x then (v : Int) - x + P else (v : Int) - x := by
    by_cases q : v < x
    · rw [if_pos q, ← Int.add_emod_right, Int.emod_eq_of_lt (by omega) (by omega)]
    · rw [if_neg q, Int.emod_eq_of_lt (by omega) (by omega)]
  unfold sbN
  rw [e2] at e
  refine ⟨?_, e⟩
  split at e <;> omega
/-! equations -/
def eqF (P D : Nat) (a b c : Int) (x y : Nat) : Int := if (fmN a P * (x ^ D % P) + fmN b P * (y ^ D % P)) % P = fmN c P then 1 else 0
def eqR (P D : Nat) (a b c : Int) (x n : Nat) : Int := siS (fun y => eqF P D a b c x y) n
def eqS (P D : Nat) (a b c : Int) (n : Nat) : Int := siS (fun x => eqR P D a b c x P) n
def tmS (P D : Nat) (a : Int) (v n : Nat) : Int := siS (fun x => if (fmN a P * (x ^ D % P)) % P = v then 1 else 0) n
def prS (P D : Nat) (a b c : Int) (n : Nat) : Int := siS (fun y => tmS P D a (fmN ((fmN c P : Int) - ((fmN b P * (y ^ D % P) : Nat) : Int)) P) P) n
theorem eq_iff {P u w z : Nat} (hP : 0 < P) (hz : z < P) : u % P = fmN ((z : Int) - (w : Int)) P ↔ (u + w) % P = z := by
  have e := fmN_cast ((z : Int) - (w : Int)) hP
  constructor
  · intro h
    have h2 : ((u : Int) % (P : Int)) = ((z : Int) - (w : Int)) % (P : Int) := by rw [← e, ← h, Int.natCast_emod]
    have h3 : (((u + w) % P : Nat) : Int) = (z : Int) := by
      rw [Int.natCast_emod, Int.natCast_add, Int.add_emod, h2, ← Int.add_emod, Int.sub_add_cancel, Int.emod_eq_of_lt (by omega) (by omega)]
    exact Int.ofNat.inj h3
  · intro h
    have h2 : ((u % P : Nat) : Int) = ((fmN ((z : Int) - (w : Int)) P : Nat) : Int) := by
      rw [e, ← h, Int.natCast_emod, Int.natCast_emod, Int.natCast_add, Int.emod_sub_emod, Int.add_sub_cancel]
    exact Int.ofNat.inj h2
theorem pr_eq {P D : Nat} {a b c : Int} (hP : 0 < P) : prS P D a b c P = eqS P D a b c P := by
  unfold eqS eqR
  rw [siS_swap]
  refine siS_congr (fun y hy => siS_congr (fun x hx => ?_))
  have h := eq_iff (P := P) (u := fmN a P * (x ^ D % P)) (w := fmN b P * (y ^ D % P)) (z := fmN c P) hP (fmN_lt _ hP)
  unfold eqF
  by_cases q : (fmN a P * (x ^ D % P) + fmN b P * (y ^ D % P)) % P = fmN c P
  · rw [if_pos q]
    exact if_pos (h.mpr q)
  · rw [if_neg q]
    exact if_neg (fun w => q (h.mp w))
theorem si01 {f : Nat → Int} (h : ∀ k, 0 ≤ f k ∧ f k ≤ 1) : ∀ n, 0 ≤ siS f n ∧ siS f n ≤ (n : Int)
  | 0 => ⟨Int.le_refl 0, Int.le_refl 0⟩
  | n + 1 => by
    have h1 := si01 h n
    have h2 := h n
    show 0 ≤ siS f n + f n ∧ siS f n + f n ≤ ((n + 1 : Nat) : Int)
    omega
theorem lk_pw {P D x : Nat} (hP : okP P) (hD : 1 ≤ D) (h1 : 1 ≤ x) (h2 : x < P) : rootN P ^ (ixN P x * D % (P - 1)) % P = x ^ D % P := by
  have h3 := (pw_ix hP h1 h2).1
  rw [← pw_per hP, Nat.pow_mul, Nat.pow_mod, h3]
/-! sums by the indexes, and forms -/
def c0F (P x : Nat) : Int := if 1 ≤ x then (if ixN P x % 2 = 0 then (x : Int) else -(x : Int)) else 0
theorem c0_rng {P n : Nat} (h : n ≤ 199) : -(199 * (n : Int)) ≤ siS (c0F P) n ∧ siS (c0F P) n ≤ 199 * (n : Int) := siS_bnd (by decide) (fun k hk => by
  unfold c0F
  split
  · split <;> omega
  · omega)
theorem zI_div {a b : Int} (ha : -2147483648 < a ∧ a < 2147483648) (hb : -2147483648 ≤ b ∧ b < 2147483648) (h1 : b ≠ -1) : zI a / zI b = zI (a.tdiv b) := by
  rw [← zI_of (zI a / zI b)]
  rw [Int32.toInt_div_of_ne_right _ _ (by intro h; have := congrArg Int32.toInt h; rw [zI_toInt hb.1 hb.2] at this; exact h1 this)]
  rw [zI_toInt (by omega) ha.2, zI_toInt hb.1 hb.2]
def c0S (P : Nat) : Int32 := zI ((siS (c0F P) P).tdiv (-(P : Int)))
/-- v v and P, over 4 u -/
def sqN (P : Nat) (v : Int) : Nat := (v * v + (P : Int)).toNat
theorem sq_nn (v : Int) : 0 ≤ v * v := by
  rcases Int.le_total 0 v with h | h
  · exact Int.mul_nonneg h h
  · exact Int.mul_nonneg_of_nonpos_of_nonpos h h
theorem sq_le {v : Int} {u : Nat} (h1 : -(u : Int) ≤ v) (h2 : v ≤ (u : Int)) : v * v ≤ (u : Int) * (u : Int) := by
  rcases Int.le_total 0 v with h | h
  · exact Int.mul_le_mul h2 h2 h (by omega)
  · have e : v * v = (-v) * (-v) := by rw [Int.neg_mul_neg]
    rw [e]
    exact Int.mul_le_mul (by omega) (by omega) (by omega) (by omega)
theorem sq_cast {P : Nat} {v : Int} : ((sqN P v : Nat) : Int) = v * v + (P : Int) := Int.toNat_of_nonneg (by have := sq_nn v; omega)
def frB (P u : Nat) (v : Int) : Bool := decide (sqN P v % (4 * u) = 0 ∧ u ≤ sqN P v / (4 * u) ∧ (0 ≤ v ∨ (v ≠ -(u : Int) ∧ u ≠ sqN P v / (4 * u))))
def frR (P u n : Nat) : Int := siS (fun k => if frB P u ((k : Int) - (u : Int)) = true then 1 else 0) n
def frT (P n : Nat) : Int := siS (fun u => if 1 ≤ u then frR P u (2 * u + 1) else 0) n
theorem fr_far {P u : Nat} {v : Int} (h0 : 1 ≤ u) (h : P < 3 * u * u) (h1 : -(u : Int) ≤ v) (h2 : v ≤ (u : Int)) : frB P u v = false := by
  unfold frB
  apply decide_eq_false
  rintro ⟨a, b, -⟩
  have e1 := Nat.div_add_mod (sqN P v) (4 * u)
  rw [a, Nat.add_zero] at e1
  have e2 : 4 * u * u ≤ 4 * u * (sqN P v / (4 * u)) := Nat.mul_le_mul_left _ b
  have e3 := sq_le h1 h2
  have e4 := sq_cast (P := P) (v := v)
  have e5 : ((u * u : Nat) : Int) = (u : Int) * (u : Int) := Int.natCast_mul _ _
  have e6 : 4 * u * u = 4 * (u * u) := Nat.mul_assoc _ _ _
  have e7 : 3 * u * u = 3 * (u * u) := Nat.mul_assoc _ _ _
  omega
theorem frR_far {P u : Nat} (h0 : 1 ≤ u) (h : P < 3 * u * u) : frR P u (2 * u + 1) = 0 := siS_zero (fun k hk => by
  rw [fr_far h0 h (by omega) (by omega)]
  rfl)
theorem frT_far {P u : Nat} (h0 : 1 ≤ u) (h : P < 3 * u * u) : ∀ n, u ≤ n → frT P n = frT P u := by
  intro n hn
  obtain ⟨k, rfl⟩ : ∃ k, n = u + k := ⟨n - u, by omega⟩
  clear hn
  induction k with
  | zero => rfl
  | succ k ih =>
    show frT P (u + k) + (if 1 ≤ u + k then frR P (u + k) (2 * (u + k) + 1) else 0) = _
    rw [ih, if_pos (by omega), frR_far (by omega) (Nat.lt_of_lt_of_le h (Nat.mul_le_mul (Nat.mul_le_mul_left 3 (by omega)) (by omega)))]
    omega
theorem frT_9 {P : Nat} (h1 : 3 ≤ P) (h2 : P ≤ 199) : frT P 9 = frT P P := by
  rcases Nat.lt_or_ge P 9 with q | q
  · exact frT_far (u := P) (by omega) (Nat.lt_of_lt_of_le (show P < 3 * P by omega) (Nat.le_mul_of_pos_right _ (by omega))) 9 (by omega)
  · exact (frT_far (u := 9) (by decide) (by omega) P q).symm
theorem frR_rng {P u : Nat} (n : Nat) : 0 ≤ frR P u n ∧ frR P u n ≤ (n : Int) := si01 (fun k => by split <;> omega) n
theorem frT_rng {P : Nat} : ∀ n, n ≤ 199 → 0 ≤ frT P n ∧ frT P n ≤ 400 * (n : Int)
  | 0, _ => ⟨Int.le_refl 0, Int.le_refl 0⟩
  | n + 1, h => by
    have h1 := frT_rng n (show n ≤ 199 by omega) (P := P)
    have h2 := frR_rng (P := P) (u := n) (2 * n + 1)
    show 0 ≤ frT P n + (if 1 ≤ n then frR P n (2 * n + 1) else 0) ∧ frT P n + (if 1 ≤ n then frR P n (2 * n + 1) else 0) ≤ 400 * ((n + 1 : Nat) : Int)
    split <;> omega
theorem sg_s {P D x : Nat} {b e w : Int} {sgv : Nat → Int32} (hw : sgS P D b e x = w) (h : ∀ q, q < x → sgv q = zI (sgS P D b e q)) : ∀ q, q < x + 1 → upd sgv x (zI w) q = zI (sgS P D b e q) := by
  intro q hq
  unfold upd
  by_cases z : q = x
  · rw [if_pos z, z, hw]
  · rw [if_neg z]
    exact h q (by omega)
theorem sg_p {P D x : Nat} {b e : Int} (hx : 1 ≤ x) (h : ((zI b >>> (nI (clsN P D x) &&& 31)) &&& nI 1) = nI 1) : sgS P D b e x = 1 := by
  unfold sgS sgB
  rw [if_neg (by omega), if_pos (decide_eq_true h)]
theorem sg_m {P D x : Nat} {b e : Int} (hx : 1 ≤ x) (h : ¬ ((zI b >>> (nI (clsN P D x) &&& 31)) &&& nI 1) = nI 1) : sgS P D b e x = -1 := by
  unfold sgS sgB
  rw [if_neg (by omega), if_neg (by rw [decide_eq_false h]; decide)]
theorem sg_1 {P D x : Nat} {b : Int} : sgS P D b (-1) x = 1 ↔ (x ≠ 0 ∧ sgB P D b x = true) := by
  unfold sgS
  by_cases q : x = 0
  · rw [if_pos q]
    constructor
    · intro h; omega
    · intro h; exact absurd q h.1
  · rw [if_neg q]
    by_cases z : sgB P D b x = true
    · rw [if_pos z]; exact ⟨fun _ => ⟨q, z⟩, fun _ => rfl⟩
    · rw [if_neg z]
      constructor
      · intro h; omega
      · intro h; exact absurd h.2 z
theorem df_1 {P D t x : Nat} {b : Int} (h1 : sgS P D b (-1) x = 1) (h2 : sgS P D b (-1) ((x + t) % P) = 1) : dfF P D b t x = 1 := by
  unfold dfF
  have a := sg_1.mp h1
  have c := sg_1.mp h2
  exact if_pos ⟨a.1, c.1, a.2, c.2⟩
theorem df_0 {P D t x : Nat} {b : Int} (h : ¬ (sgS P D b (-1) x = 1 ∧ sgS P D b (-1) ((x + t) % P) = 1)) : dfF P D b t x = 0 := by
  unfold dfF
  exact if_neg (fun w => h ⟨sg_1.mpr ⟨w.1, w.2.2.1⟩, sg_1.mpr ⟨w.2.1, w.2.2.2⟩⟩)
theorem ab_rng {P D t : Nat} {b e : Int} (he : e = 1 ∨ e = -1) : 0 ≤ abI (ovS P D b e t P) ∧ abI (ovS P D b e t P) ≤ (P : Int) := by
  have h := ov_rng (P := P) (D := D) (t := t) (b := b) (n := P) he
  unfold abI
  split <;> omega
theorem pkC_rng {P D : Nat} {b e : Int} (he : e = 1 ∨ e = -1) (n : Nat) : 0 ≤ pkC P D b e n ∧ pkC P D b e n ≤ (P : Int) := mx_rng (by omega) (fun k _ => (ab_rng he).2)
theorem pkS_rng {P D : Nat} {b e : Int} (he : e = 1 ∨ e = -1) (n : Nat) : 0 ≤ pkS P D b e n ∧ pkS P D b e n ≤ (P : Int) := mx_rng (by omega) (fun k _ => by
  show (if 1 ≤ k then abI (ovS P D b e k P) else 0) ≤ _
  split
  · exact (ab_rng he).2
  · omega)
theorem pkS_1 {P D t : Nat} {b e : Int} (h : 1 ≤ t) (h2 : pkS P D b e t < abI (ovS P D b e t P)) : pkS P D b e (t + 1) = abI (ovS P D b e t P) := by
  show (if mxF _ t < (if 1 ≤ t then abI (ovS P D b e t P) else 0) then (if 1 ≤ t then abI (ovS P D b e t P) else 0) else mxF _ t) = _
  rw [if_pos h]
  exact if_pos h2
theorem pkS_0 {P D t : Nat} {b e : Int} (h : 1 ≤ t) (h2 : ¬ pkS P D b e t < abI (ovS P D b e t P)) : pkS P D b e (t + 1) = pkS P D b e t := by
  show (if mxF _ t < (if 1 ≤ t then abI (ovS P D b e t P) else 0) then (if 1 ≤ t then abI (ovS P D b e t P) else 0) else mxF _ t) = _
  rw [if_pos h]
  exact if_neg h2
theorem tm_s {P D x : Nat} {a : Int} {tmv : Nat → Int32} (h : ∀ v, v < P → tmv v = zI (tmS P D a v x)) : ∀ v, v < P → upd tmv (fmN a P * (x ^ D % P) % P) (zI (tmS P D a (fmN a P * (x ^ D % P) % P) x + ((1 : Nat) : Int))) v = zI (tmS P D a v (x + 1)) := by
  intro v hv
  unfold upd
  by_cases q : v = fmN a P * (x ^ D % P) % P
  · rw [if_pos q, q]
    show _ = zI (tmS P D a _ x + (if _ then 1 else 0))
    rw [if_pos rfl]
    rfl
  · rw [if_neg q, h v hv]
    show _ = zI (tmS P D a v x + (if _ then 1 else 0))
    rw [if_neg (fun w => q w.symm), Int.add_zero]
theorem eqF_1 {P D x y : Nat} {a b c : Int} (h : (fmN a P * (x ^ D % P) + fmN b P * (y ^ D % P)) % P = fmN c P) : eqF P D a b c x y = 1 := if_pos h
theorem eqF_0 {P D x y : Nat} {a b c : Int} (h : ¬ (fmN a P * (x ^ D % P) + fmN b P * (y ^ D % P)) % P = fmN c P) : eqF P D a b c x y = 0 := if_neg h
theorem fr_1 {P u k : Nat} (h : frB P u ((k : Int) - (u : Int)) = true) : frR P u (k + 1) = frR P u k + 1 := by
  show frR P u k + (if frB P u ((k : Int) - (u : Int)) = true then 1 else 0) = _
  rw [if_pos h]
theorem fr_0 {P u k : Nat} (h : frB P u ((k : Int) - (u : Int)) = false) : frR P u (k + 1) = frR P u k := by
  show frR P u k + (if frB P u ((k : Int) - (u : Int)) = true then 1 else 0) = _
  rw [if_neg (by rw [h]; decide), Int.add_zero]
theorem c0_1 {P x : Nat} (h : 1 ≤ x) (h2 : ixN P x % 2 = 0) : siS (c0F P) (x + 1) = siS (c0F P) x + (x : Int) := by
  show _ + c0F P x = _
  unfold c0F
  rw [if_pos h, if_pos h2]
theorem c0_0 {P x : Nat} (h : 1 ≤ x) (h2 : ¬ ixN P x % 2 = 0) : siS (c0F P) (x + 1) = siS (c0F P) x + -(x : Int) := by
  show _ + c0F P x = _
  unfold c0F
  rw [if_pos h, if_neg h2]
theorem dv_step {m n D : Nat} (h1 : m % D = 0) (h2 : n % D = 0) (h : m < n) : m + D ≤ n := by
  have a := Nat.div_add_mod m D
  have b := Nat.div_add_mod n D
  rw [h1] at a
  rw [h2] at b
  have c : m / D < n / D := by
    rcases Nat.lt_or_ge (m / D) (n / D) with q | q
    · exact q
    · have := Nat.mul_le_mul_left D q
      omega
  have d := Nat.mul_le_mul_left D (show m / D + 1 ≤ n / D from c)
  rw [Nat.mul_add, Nat.mul_one] at d
  omega
theorem cls_sb {P D v x : Nat} (hv : v < P) (hx : x < P) (h : v ≠ x) : clsN P D ((((v : Nat) : Int) - ((x : Nat) : Int) + ((P : Nat) : Int)).toNat) = clsN P D (sbN P v x) ∧ (((v : Nat) : Int) - ((x : Nat) : Int) + ((P : Nat) : Int)).toNat % P ≠ 0 := by
  have h1 := sb_nz hv hx h
  have h2 := sbN_lt (P := P) (v := v) (x := x) (by omega)
  have e : (((v : Nat) : Int) - ((x : Nat) : Int) + ((P : Nat) : Int)).toNat % P = sbN P v x := by
    by_cases q : v < x
    · rw [if_pos q] at h1
      have e2 : (((v : Nat) : Int) - ((x : Nat) : Int) + ((P : Nat) : Int)).toNat = sbN P v x := by omega
      rw [e2, Nat.mod_eq_of_lt h2]
    · rw [if_neg q] at h1
      have e2 : (((v : Nat) : Int) - ((x : Nat) : Int) + ((P : Nat) : Int)).toNat = sbN P v x + P := by omega
      rw [e2, Nat.add_mod_right, Nat.mod_eq_of_lt h2]
  refine ⟨?_, by rw [e]; omega⟩
  unfold clsN
  rw [e, Nat.mod_eq_of_lt h2]
theorem wyP_1 {P D k v : Nat} : wyP P D k v 1 = zL 0 := by
  show 0 + (if 1 ≤ 0 ∧ clsN P D 0 = 0 then _ else zL 0) = zL 0
  rw [if_neg (fun w => absurd w.1 (by decide)), zL_0]
  decide
theorem wyP_y {P D k v x : Nat} (h : 1 ≤ x) (h2 : clsN P D x = 0) : wyP P D k v (x + 1) = wyP P D k v x + wyS P D k (sbN P v x) := by
  show _ + (if 1 ≤ x ∧ clsN P D x = 0 then wyS P D k (sbN P v x) else zL 0) = _
  rw [if_pos ⟨h, h2⟩]
  rfl
theorem wyP_n {P D k v x : Nat} (h2 : ¬ clsN P D x = 0) : wyP P D k v (x + 1) = wyP P D k v x + zL 0 := by
  show _ + (if 1 ≤ x ∧ clsN P D x = 0 then wyS P D k (sbN P v x) else zL 0) = _
  rw [if_neg (fun w => h2 w.2)]
  rfl
theorem cpy_0 {f g : Nat → Int64} {n j : Nat} (h : j < n) : va_cpy f g 0 0 n j = f j := by
  rw [pk_cpy_in (by omega) (by omega)]
  congr 1
  omega
/-! what the calls answer -/
def overS (P D : Nat) (b e t : Int) : Int32 := if 0 ≤ b ∧ b < ((2 ^ D : Nat) : Int) then (if e = 1 ∨ e = -1 then zI (ovS P D b e (fmN t P) P) else zI (-2147483648)) else zI (-2147483648)
def peakS (P D : Nat) (b e : Int) : Int32 := if 0 ≤ b ∧ b < ((2 ^ D : Nat) : Int) then (if e = 1 ∨ e = -1 then zI (pkS P D b e P) else zI (-3)) else zI (-2)
def rwS (P D : Nat) (k : Int) : Int64 := if 0 ≤ k ∧ k ≤ 6 then wyS P D k.toNat 0 else zL (-3)
def clS (P : Nat) (way : Int) : Int32 := if 0 ≤ way ∧ way ≤ 1 then (if P % 4 = 3 ∧ P ≠ 3 then (if way = 0 then c0S P else zI (frT P P)) else zI (-4)) else zI (-3)
