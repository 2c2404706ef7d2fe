/-! PURE 6: sums in another order; steps by a power of the root -/
theorem siS_congr {f g : Nat → Int} : ∀ {n : Nat}, (∀ k, k < n → f k = g k) → siS f n = siS g n
  | 0, _ => rfl
  | n + 1, h => by
    unfold siS
    rw [siS_congr (fun k hk => h k (by omega)), h n (by omega)]
theorem siS_skip (g : Nat → Int) (i : Nat) : ∀ n, i ≤ n → siS g (n + 1) = siS (fun k => if k < i then g k else g (k + 1)) n + g i
  | 0, h => by
    have e : i = 0 := by omega
    subst e
    rfl
  | n + 1, h => by
    by_cases q : i = n + 1
    · subst q
      show siS g (n + 1) + g (n + 1) = _
      congr 1
      exact siS_congr (fun k hk => (if_pos hk).symm)
    · show siS g (n + 1) + g (n + 1) = (siS _ n + (if n < i then g n else g (n + 1))) + g i
      rw [siS_skip g i n (by omega), if_neg (by omega)]
      omega
/-- a sum in another order -/
theorem siS_perm : ∀ (n : Nat) (f : Nat → Int) (p : Nat → Nat), (∀ i, i < n → p i < n) → (∀ i j, i < j → j < n → p i ≠ p j) → siS (fun k => f (p k)) n = siS f n := by
  intro n
  induction n with
  | zero => intro f p _ _; rfl
  | succ n ih =>
    intro f p h1 h2
    obtain ⟨i, hi, hin⟩ := pg_onto (n + 1) p h1 h2 n (by omega)
    rw [siS_skip (fun k => f (p k)) i n (by omega)]
    show _ + f (p i) = siS f n + f n
    rw [hin]
    congr 1
    have e : siS (fun k => if k < i then f (p k) else f (p (k + 1))) n = siS (fun k => f ((fun k => if k < i then p k else p (k + 1)) k)) n := siS_congr (fun k hk => by
      show (if k < i then f (p k) else f (p (k + 1))) = f (if k < i then p k else p (k + 1))
      split <;> rfl)
    refine e.trans (ih f _ (fun k hk => ?_) (fun a b hab hb => ?_))
    · by_cases q : k < i
      · simp only [q, if_true]
        have := h1 k (by omega)
        have := h2 k i q hi
        omega
      · simp only [q, if_false]
        have := h1 (k + 1) (by omega)
        have := h2 i (k + 1) (by omega) (by omega)
        omega
    · by_cases q : a < i <;> by_cases q2 : b < i <;> simp only [q, q2, if_true, if_false]
      · exact h2 a b hab (by omega)
      · exact h2 a (b + 1) (by omega) (by omega)
      · omega
      · exact h2 (a + 1) (b + 1) (by omega) (by omega)
theorem slS_skip (g : Nat → Int64) (i : Nat) : ∀ n, i ≤ n → slS g (n + 1) = slS (fun k => if k < i then g k else g (k + 1)) n + g i
  | 0, h => by
    have e : i = 0 := by omega
    subst e
    rfl
  | n + 1, h => by
    by_cases q : i = n + 1
    · subst q
      show slS g (n + 1) + g (n + 1) = _
      congr 1
      exact slS_congr (fun k hk => (if_pos hk).symm)
    · show slS g (n + 1) + g (n + 1) = (slS _ n + (if n < i then g n else g (n + 1))) + g i
      rw [slS_skip g i n (by omega), if_neg (by omega)]
      grind
/-- a sum in another order -/
theorem slS_perm : ∀ (n : Nat) (f : Nat → Int64) (p : Nat → Nat), (∀ i, i < n → p i < n) → (∀ i j, i < j → j < n → p i ≠ p j) → slS (fun k => f (p k)) n = slS f n := by
  intro n
  induction n with
  | zero => intro f p _ _; rfl
  | succ n ih =>
    intro f p h1 h2
    obtain ⟨i, hi, hin⟩ := pg_onto (n + 1) p h1 h2 n (by omega)
    rw [slS_skip (fun k => f (p k)) i n (by omega)]
    show _ + f (p i) = slS f n + f n
    rw [hin]
    congr 1
    have e : slS (fun k => if k < i then f (p k) else f (p (k + 1))) n = slS (fun k => f ((fun k => if k < i then p k else p (k + 1)) k)) n := slS_congr (fun k hk => by
      show (if k < i then f (p k) else f (p (k + 1))) = f (if k < i then p k else p (k + 1))
      split <;> rfl)
    refine e.trans (ih f _ (fun k hk => ?_) (fun a b hab hb => ?_))
    · by_cases q : k < i
      · simp only [q, if_true]
        have := h1 k (by omega)
        have := h2 k i q hi
        omega
      · simp only [q, if_false]
        have := h1 (k + 1) (by omega)
        have := h2 i (k + 1) (by omega) (by omega)
        omega
    · by_cases q : a < i <;> by_cases q2 : b < i <;> simp only [q, q2, if_true, if_false]
      · exact h2 a b hab (by omega)
      · exact h2 a (b + 1) (by omega) (by omega)
      · omega
      · exact h2 (a + 1) (b + 1) (by omega) (by omega)
theorem siS_zero {f : Nat → Int} : ∀ {n : Nat}, (∀ k, k < n → f k = 0) → siS f n = 0
  | 0, _ => rfl
  | n + 1, h => by
    unfold siS
    rw [siS_zero (fun k hk => h k (by omega)), h n (by omega)]
    rfl
theorem siS_add (f g : Nat → Int) : ∀ n, siS (fun k => f k + g k) n = siS f n + siS g n
  | 0 => rfl
  | n + 1 => by
    unfold siS
    rw [siS_add f g n]
    omega
theorem siS_swap (f : Nat → Nat → Int) (m : Nat) : ∀ n, siS (fun i => siS (fun k => f i k) m) n = siS (fun k => siS (fun i => f i k) n) m
  | 0 => (siS_zero (fun k _ => rfl)).symm
  | n + 1 => by
    show siS _ n + siS _ m = _
    rw [siS_swap f m n, ← siS_add]
    rfl
theorem siS_bnd {f : Nat → Int} {c : Int} (hc : 0 ≤ c) : ∀ {n : Nat}, (∀ k, k < n → -c ≤ f k ∧ f k ≤ c) → -(c * (n : Int)) ≤ siS f n ∧ siS f n ≤ c * (n : Int)
  | 0, _ => by
    show -(c * 0) ≤ (0 : Int) ∧ (0 : Int) ≤ c * 0
    rw [Int.mul_zero]
    decide
  | n + 1, h => by
    have h1 := siS_bnd hc (fun k (hk : k < n) => h k (by omega))
    have h2 := h n (by omega)
    have e : c * ((n + 1 : Nat) : Int) = c * (n : Int) + c := by rw [Int.natCast_add, Int.mul_add]; show _ + c * 1 = _; rw [Int.mul_one]
    rw [e]
    show -(c * (n : Int) + c) ≤ siS f n + f n ∧ siS f n + f n ≤ c * (n : Int) + c
    omega
theorem pw_per {P : Nat} (hP : okP P) : ∀ n, rootN P ^ n % P = rootN P ^ (n % (P - 1)) % P := by
  have o1 := hP.1
  have h1 : ∀ q r, rootN P ^ ((P - 1) * q + r) % P = rootN P ^ r % P := by
    intro q
    induction q with
    | zero => intro r; rw [Nat.mul_zero, Nat.zero_add]
    | succ q ih =>
      intro r
      rw [show (P - 1) * (q + 1) + r = (P - 1) + ((P - 1) * q + r) by rw [Nat.mul_succ]; omega, ← pw_add, hP.2.2.2.2.2, Nat.one_mul, Nat.mod_mod, ih r]
  intro n
  have h2 := h1 (n / (P - 1)) (n % (P - 1))
  rwa [Nat.div_add_mod] at h2
theorem ix_pw {P : Nat} (hP : okP P) (n : Nat) : ixN P (rootN P ^ n % P) = n % (P - 1) := by
  have o1 := hP.1
  rw [pw_per hP n, ix_of hP (Nat.mod_lt _ (by omega))]
/-- x times a power of the root -/
def mlP (P n x : Nat) : Nat := (x * (rootN P ^ n % P)) % P
theorem mlP_lt {P n x : Nat} (hP : okP P) : mlP P n x < P := Nat.mod_lt _ (by have := hP.1; omega)
theorem mlP_pw {P n i : Nat} : mlP P n (rootN P ^ i % P) = rootN P ^ (i + n) % P := pw_add _ _ _ _
theorem mlP_0 {P n : Nat} : mlP P n 0 = 0 := by unfold mlP; rw [Nat.zero_mul, Nat.zero_mod]
theorem mlP_nz {P n x : Nat} (hP : okP P) (h1 : 1 ≤ x) (h2 : x < P) : 1 ≤ mlP P n x ∧ ixN P (mlP P n x) = (ixN P x + n) % (P - 1) := by
  have o1 := hP.1
  have h3 := (pw_ix hP h1 h2).1
  have e : mlP P n x = rootN P ^ (ixN P x + n) % P := by
    conv => lhs; rw [← h3]
    exact mlP_pw
  rw [e]
  refine ⟨?_, ix_pw hP _⟩
  rw [pw_per hP]
  exact pw_pos hP (Nat.le_of_lt (Nat.mod_lt _ (by omega)))
theorem mlP_inj {P n : Nat} (hP : okP P) {x y : Nat} (hx : x < P) (hy : y < P) (h : mlP P n x = mlP P n y) : x = y := by
  have o1 := hP.1
  -- back by the rest of the power
  have hb : ∀ z, z < P → mlP P ((P - 1) - n % (P - 1)) (mlP P n z) = z := by
    intro z hz
    rcases Nat.eq_zero_or_pos z with q | q
    · subst q; rw [mlP_0, mlP_0]
    · have h3 := (pw_ix hP q hz).1
      have e : mlP P n z = rootN P ^ (ixN P z + n) % P := by
        conv => lhs; rw [← h3]
        exact mlP_pw
      have hm := Nat.mod_lt n (show 0 < P - 1 by omega)
      have hd := Nat.div_add_mod n (P - 1)
      rw [e, mlP_pw, pw_per hP]
      have e2 : (ixN P z + n + (P - 1 - n % (P - 1))) % (P - 1) = ixN P z := by
        rw [show ixN P z + n + (P - 1 - n % (P - 1)) = ixN P z + (P - 1) * (n / (P - 1) + 1) by rw [Nat.mul_add]; omega, Nat.add_mul_mod_self_left, Nat.mod_eq_of_lt (pw_ix hP q hz).2]
      rw [e2, h3]
  rw [← hb x hx, h, hb y hy]
theorem cls_ml {P D n x : Nat} (hP : okP P) (hd : (P - 1) % D = 0) (hn : n % D = 0) (h1 : 1 ≤ x) (h2 : x < P) : clsN P D (mlP P n x) = clsN P D x := by
  unfold clsN
  rw [Nat.mod_eq_of_lt (mlP_lt hP), Nat.mod_eq_of_lt h2, (mlP_nz hP h1 h2).2, Nat.mod_mod_of_dvd _ (Nat.dvd_of_mod_eq_zero hd), Nat.add_mod, hn, Nat.add_zero, Nat.mod_mod]
theorem cls_pw {P D n : Nat} (hP : okP P) (hd : (P - 1) % D = 0) : clsN P D (rootN P ^ n % P) = n % D := by
  have o1 := hP.1
  unfold clsN
  rw [Nat.mod_mod, ix_pw hP, Nat.mod_mod_of_dvd _ (Nat.dvd_of_mod_eq_zero hd)]
theorem ml_add {P n x t : Nat} : (mlP P n x + mlP P n t) % P = mlP P n ((x + t) % P) := by
  unfold mlP
  rw [← Nat.add_mod, ← Nat.add_mul, Nat.mod_mul_mod]
/-! signs -/
def bitS (b : Int) (k : Nat) : Prop := ((zI b >>> (nI k &&& 31)) &&& nI 1) = nI 1
def sgB (P D : Nat) (b : Int) (x : Nat) : Bool := decide (((zI b >>> (nI (clsN P D x) &&& 31)) &&& nI 1) = nI 1)
def sgS (P D : Nat) (b e : Int) (x : Nat) : Int := if x = 0 then e else if sgB P D b x = true then 1 else -1
def ovS (P D : Nat) (b e : Int) (t n : Nat) : Int := siS (fun x => sgS P D b e x * sgS P D b e ((x + t) % P)) n
theorem sgS_ml {P D n x : Nat} {b e : Int} (hP : okP P) (hd : (P - 1) % D = 0) (hn : n % D = 0) (h2 : x < P) : sgS P D b e (mlP P n x) = sgS P D b e x := by
  unfold sgS
  rcases Nat.eq_zero_or_pos x with q | q
  · subst q; rw [mlP_0]
  · rw [if_neg (show ¬ mlP P n x = 0 by have := (mlP_nz (n := n) hP q h2).1; omega), if_neg (show ¬ x = 0 by omega)]
    unfold sgB
    rw [cls_ml hP hd hn q h2]
theorem perm_ml {P n : Nat} (hP : okP P) (f : Nat → Int) : siS (fun k => f (mlP P n k)) P = siS f P :=
  siS_perm P f (mlP P n) (fun i _ => mlP_lt hP) (fun i j hij hj h => by have := mlP_inj hP (show i < P by omega) hj h; omega)
theorem perm_mlL {P n : Nat} (hP : okP P) (f : Nat → Int64) : slS (fun k => f (mlP P n k)) P = slS f P :=
  slS_perm P f (mlP P n) (fun i _ => mlP_lt hP) (fun i j hij hj h => by have := mlP_inj hP (show i < P by omega) hj h; omega)
theorem ov_ml {P D n t : Nat} {b e : Int} (hP : okP P) (hd : (P - 1) % D = 0) (hn : n % D = 0) : ovS P D b e (mlP P n t) P = ovS P D b e t P := by
  have o1 := hP.1
  unfold ovS
  rw [← perm_ml (n := n) hP (fun x => sgS P D b e x * sgS P D b e ((x + mlP P n t) % P))]
  refine siS_congr (fun x hx => ?_)
  show sgS P D b e (mlP P n x) * sgS P D b e ((mlP P n x + mlP P n t) % P) = _
  rw [ml_add, sgS_ml hP hd hn hx, sgS_ml hP hd hn (Nat.mod_lt _ (by omega))]
theorem ov_cls {P D t : Nat} {b e : Int} (hP : okP P) (hD : 1 ≤ D) (hd : (P - 1) % D = 0) (h1 : 1 ≤ t) (h2 : t < P) : ovS P D b e t P = ovS P D b e (rootN P ^ (ixN P t % D) % P) P := by
  have h3 := (pw_ix hP h1 h2).1
  have e1 : t = mlP P (ixN P t / D * D) (rootN P ^ (ixN P t % D) % P) := by
    rw [mlP_pw, Nat.add_comm, Nat.mul_comm, Nat.div_add_mod, h3]
  conv => lhs; rw [e1]
  exact ov_ml hP hd (Nat.mul_mod_left _ _)
theorem sg_rng {P D x : Nat} {b e : Int} (he : e = 1 ∨ e = -1) : sgS P D b e x = 1 ∨ sgS P D b e x = -1 := by
  unfold sgS
  split
  · exact he
  · split
    · exact Or.inl rfl
    · exact Or.inr rfl
theorem ov_rng {P D t n : Nat} {b e : Int} (he : e = 1 ∨ e = -1) : -(n : Int) ≤ ovS P D b e t n ∧ ovS P D b e t n ≤ (n : Int) := by
  have h := siS_bnd (f := fun x => sgS P D b e x * sgS P D b e ((x + t) % P)) (c := 1) (by decide) (n := n) (fun k hk => by
    show -1 ≤ sgS P D b e k * sgS P D b e ((k + t) % P) ∧ sgS P D b e k * sgS P D b e ((k + t) % P) ≤ 1
    rcases sg_rng (P := P) (D := D) (x := k) (b := b) he with q | q <;> rcases sg_rng (P := P) (D := D) (x := (k + t) % P) (b := b) he with q2 | q2 <;> rw [q, q2] <;> decide)
  rw [Int.one_mul] at h
  exact h
/-- the greatest of f below n, at least 0 -/
def mxF (f : Nat → Int) : Nat → Int
  | 0 => 0
  | n + 1 => if mxF f n < f n then f n else mxF f n
theorem mxF_ge (f : Nat → Int) : ∀ n, 0 ≤ mxF f n ∧ ∀ k, k < n → f k ≤ mxF f n
  | 0 => ⟨Int.le_refl 0, fun k h => absurd h (Nat.not_lt_zero k)⟩
  | n + 1 => by
    have h := mxF_ge f n
    unfold mxF
    split
    · refine ⟨by omega, fun k hk => ?_⟩
      rcases Nat.lt_or_ge k n with q | q
      · have := h.2 k q
        omega
      · rw [show k = n by omega]
        exact Int.le_refl _
    · refine ⟨h.1, fun k hk => ?_⟩
      rcases Nat.lt_or_ge k n with q | q
      · exact h.2 k q
      · rw [show k = n by omega]
        omega
theorem mxF_le (f : Nat → Int) {m : Int} (hm : 0 ≤ m) : ∀ n, (∀ k, k < n → f k ≤ m) → mxF f n ≤ m
  | 0, _ => hm
  | n + 1, h => by
    have := mxF_le f hm n (fun k hk => h k (by omega))
    have := h n (by omega)
    unfold mxF
    split <;> omega
def abI (z : Int) : Int := if z < 0 then -z else z
def pkS (P D : Nat) (b e : Int) (n : Nat) : Int := mxF (fun t => if 1 ≤ t then abI (ovS P D b e t P) else 0) n
def pkC (P D : Nat) (b e : Int) (n : Nat) : Int := mxF (fun k => abI (ovS P D b e (rootN P ^ k % P) P)) n
theorem peak_eq {P D : Nat} {b e : Int} (hP : okP P) (hD : 1 ≤ D) (hd : (P - 1) % D = 0) : pkC P D b e D = pkS P D b e P := by
  have o1 := hP.1
  have hDP : D ≤ P - 1 := Nat.le_of_dvd (by omega) (Nat.dvd_of_mod_eq_zero hd)
  apply Int.le_antisymm
  · refine mxF_le _ (mxF_ge _ _).1 _ (fun k hk => ?_)
    have h1 := pw_pos hP (show k ≤ P - 1 by omega)
    have h2 := (mxF_ge (fun t => if 1 ≤ t then abI (ovS P D b e t P) else 0) P).2 (rootN P ^ k % P) (Nat.mod_lt _ (by omega))
    simp only [h1, if_true] at h2
    exact h2
  · refine mxF_le _ (mxF_ge _ _).1 _ (fun t ht => ?_)
    by_cases q : 1 ≤ t
    · simp only [q, if_true]
      rw [ov_cls hP hD hd q ht]
      exact (mxF_ge (fun k => abI (ovS P D b e (rootN P ^ k % P) P)) D).2 (ixN P t % D) (Nat.mod_lt _ (by omega))
    · simp only [q, if_false]
      exact (mxF_ge _ _).1
theorem mx_rng {f : Nat → Int} {m : Int} (hm : 0 ≤ m) {n : Nat} (h : ∀ k, k < n → f k ≤ m) : 0 ≤ mxF f n ∧ mxF f n ≤ m := ⟨(mxF_ge f n).1, mxF_le f hm n h⟩
theorem ab_z {v : Int} (h : -2147483648 < v ∧ v < 2147483648) : (if 0 ≤ zI v then zI v else 0 - zI v) = zI (abI v) := by
  have h0 : (0 : Int32) = zI 0 := rfl
  unfold abI
  by_cases q : v < 0
  · rw [if_neg (by rw [h0, zI_le (by decide) (by omega)]; omega), if_pos q, h0, zI_sub]
    congr 1
    omega
  · rw [if_pos (by rw [h0, zI_le (by decide) (by omega)]; omega), if_neg q]
theorem mx_z {a b : Int} (ha : -2147483648 ≤ a ∧ a < 2147483648) (hb : -2147483648 ≤ b ∧ b < 2147483648) : (if zI a < zI b then zI b else zI a) = zI (if a < b then b else a) := by
  by_cases q : a < b
  · rw [if_pos ((zI_lt ha hb).mpr q), if_pos q]
  · rw [if_neg (fun w => q ((zI_lt ha hb).mp w)), if_neg q]
/-! differences -/
def dfF (P D : Nat) (b : Int) (t x : Nat) : Int := if x ≠ 0 ∧ (x + t) % P ≠ 0 ∧ sgB P D b x = true ∧ sgB P D b ((x + t) % P) = true then 1 else 0
def dfS (P D : Nat) (b : Int) (t n : Nat) : Int := siS (dfF P D b t) n
theorem dfF_rng {P D t x : Nat} {b : Int} : 0 ≤ dfF P D b t x ∧ dfF P D b t x ≤ 1 := by
  unfold dfF
  split <;> omega
theorem df_rng {P D t : Nat} {b : Int} (n : Nat) : 0 ≤ dfS P D b t n ∧ dfS P D b t n ≤ (n : Int) := by
  induction n with
  | zero => exact ⟨Int.le_refl 0, Int.le_refl 0⟩
  | succ n ih =>
    have := dfF_rng (P := P) (D := D) (t := t) (x := n) (b := b)
    show 0 ≤ dfS P D b t n + dfF P D b t n ∧ dfS P D b t n + dfF P D b t n ≤ ((n + 1 : Nat) : Int)
    omega
theorem df_ml {P D n t : Nat} {b : Int} (hP : okP P) (hd : (P - 1) % D = 0) (hn : n % D = 0) : dfS P D b (mlP P n t) P = dfS P D b t P := by
  have o1 := hP.1
  unfold dfS
  rw [← perm_ml (n := n) hP (dfF P D b (mlP P n t))]
  refine siS_congr (fun x hx => ?_)
  have hm := Nat.mod_lt (x + t) (show 0 < P by omega)
  have hz : ∀ z, z < P → (mlP P n z ≠ 0 ↔ z ≠ 0) := fun z hz => by
    rcases Nat.eq_zero_or_pos z with q | q
    · subst q; rw [mlP_0]
    · have := (mlP_nz (n := n) hP q hz).1
      omega
  unfold dfF
  rw [ml_add]
  have e1 := hz x hx
  have e2 := hz _ hm
  by_cases q1 : x ≠ 0 ∧ (x + t) % P ≠ 0
  · have e3 : sgB P D b (mlP P n x) = sgB P D b x := by unfold sgB; rw [cls_ml hP hd hn (by omega) hx]
    have e4 : sgB P D b (mlP P n ((x + t) % P)) = sgB P D b ((x + t) % P) := by unfold sgB; rw [cls_ml hP hd hn (by omega) hm]
    rw [e3, e4]
    by_cases q2 : sgB P D b x = true ∧ sgB P D b ((x + t) % P) = true
    · rw [if_pos ⟨e1.mpr q1.1, e2.mpr q1.2, q2⟩, if_pos ⟨q1.1, q1.2, q2⟩]
    · rw [if_neg (fun w => q2 w.2.2), if_neg (fun w => q2 w.2.2)]
  · rw [if_neg (fun w => q1 ⟨e1.mp w.1, e2.mp w.2.1⟩), if_neg (fun w => q1 ⟨w.1, w.2.1⟩)]
theorem df_cls {P D t : Nat} {b : Int} (hP : okP P) (hD : 1 ≤ D) (hd : (P - 1) % D = 0) (h1 : 1 ≤ t) (h2 : t < P) : dfS P D b t P = dfS P D b (rootN P ^ (ixN P t % D) % P) P := by
  have h3 := (pw_ix hP h1 h2).1
  have e1 : t = mlP P (ixN P t / D * D) (rootN P ^ (ixN P t % D) % P) := by
    rw [mlP_pw, Nat.add_comm, Nat.mul_comm, Nat.div_add_mod, h3]
  conv => lhs; rw [e1]
  exact df_ml hP hd (Nat.mul_mod_left _ _)
/-- each shift alike, in the one and in the other -/
def evA (P D : Nat) (b : Int) : Prop := ∀ t, 1 ≤ t → t < P → dfS P D b t P = dfS P D b 1 P
theorem ev_of {P D : Nat} {b : Int} (hP : okP P) (hD : 1 ≤ D) (hd : (P - 1) % D = 0) (h : ∀ k, k < D → dfS P D b (rootN P ^ k % P) P = dfS P D b (rootN P ^ 0 % P) P) : evA P D b := by
  have o1 := hP.1
  intro t h1 h2
  rw [df_cls hP hD hd h1 h2, h _ (Nat.mod_lt _ (by omega)), Nat.pow_zero, Nat.mod_eq_of_lt (by omega)]
theorem ev_no {P D k : Nat} {b : Int} (hP : okP P) (hk : k < D) (hDP : D ≤ P - 1) (h : ¬ dfS P D b (rootN P ^ k % P) P = dfS P D b (rootN P ^ 0 % P) P) : ¬ evA P D b := by
  have o1 := hP.1
  intro q
  refine h ?_
  rw [q _ (pw_pos hP (show k ≤ P - 1 by omega)) (Nat.mod_lt _ (by omega)), Nat.pow_zero, Nat.mod_eq_of_lt (by omega)]
