/-! PURE 2: the primes, their roots, indexes; the counts of a degree -/
def prT : List Nat := [3, 5, 7, 11, 13, 17, 19, 23, 29, 31, 37, 41, 43, 47, 53, 59, 61, 67, 71, 73, 79, 83, 89, 97, 101, 103, 107, 109, 113, 127, 131, 137, 139, 149, 151, 157, 163, 167, 173, 179, 181, 191, 193, 197, 199]
def okP (P : Nat) : Prop := 3 ≤ P ∧ P ≤ 199 ∧ 2 ≤ rootN P ∧ rootN P < P ∧ ordB P (rootN P) = true ∧ rootN P ^ (P - 1) % P = 1
theorem okP_of : ∀ P, P ∈ prT → okP P := by
  have h : ∀ P, P ∈ prT → (3 ≤ P ∧ P ≤ 199 ∧ 2 ≤ rootN P ∧ rootN P < P ∧ ordB P (rootN P) = true ∧ rootN P ^ (P - 1) % P = 1) := by decide +kernel
  exact h
theorem pr_M : ∀ n, n < 200 → (n ∈ prT ↔ (2 < n ∧ ∀ k, k < n → 2 ≤ k → n % k ≠ 0)) := by decide +kernel
theorem pw_step (g k P : Nat) : (g ^ k % P) * g % P = g ^ (k + 1) % P := by
  rw [Nat.pow_succ, Nat.mul_mod, Nat.mod_mod, ← Nat.mul_mod]
theorem pw_add (g i j P : Nat) : (g ^ i % P) * (g ^ j % P) % P = g ^ (i + j) % P := by
  rw [Nat.pow_add, ← Nat.mul_mod]
theorem ordB_iff (P g : Nat) : ordB P g = true ↔ ∀ k, k < P - 2 → g ^ (k + 1) % P ≠ 1 := by
  unfold ordB
  rw [List.all_eq_true]
  constructor
  · intro h k hk
    have := h k (List.mem_range.mpr hk)
    simpa using this
  · intro h k hk
    have := h k (List.mem_range.mp hk)
    simpa using this
theorem root_eq {P g : Nat} (h2 : 2 ≤ g) (h3 : g < P) (h : ordB P g = true) (hn : ∀ k, 2 ≤ k → k < g → ordB P k = false) : rootN P = g := by
  have a1 : 2 ≤ rootN P := fndN_ge _ _ _
  rcases Nat.lt_or_ge (rootN P) g with h4 | h4
  · have h5 := hn _ a1 h4
    have h6 := fndN_yes (ordB P) (P - 2) 2 (by unfold rootN at h4; omega)
    unfold rootN at h5
    rw [h6] at h5
    cases h5
  · rcases Nat.lt_or_ge g (rootN P) with h5 | h5
    · have := fndN_no (ordB P) (P - 2) 2 g h2 h5
      rw [h] at this
      cases this
    · omega
theorem root_no {P g : Nat} (h2 : 2 ≤ g) (h3 : g < rootN P) : ∃ k, 1 ≤ k ∧ k ≤ P - 2 ∧ g ^ k % P = 1 := by
  have h := fndN_no (ordB P) (P - 2) 2 g h2 h3
  have h4 : ¬ ∀ k, k < P - 2 → g ^ (k + 1) % P ≠ 1 := fun q => by
    rw [(ordB_iff P g).mpr q] at h
    cases h
  have h5 : ∃ k, k < P - 2 ∧ g ^ (k + 1) % P = 1 := by
    false_or_by_contra
    rename_i h6
    exact h4 (fun k hk q => h6 ⟨k, hk, q⟩)
  obtain ⟨k, h6, h7⟩ := h5
  exact ⟨k + 1, by omega, by omega, h7⟩
theorem pw_one {P k : Nat} (hP : okP P) (h1 : 1 ≤ k) (h2 : k < P - 1) : rootN P ^ k % P ≠ 1 := by
  have := (ordB_iff P (rootN P)).mp hP.2.2.2.2.1 (k - 1) (by omega)
  rwa [show k - 1 + 1 = k by omega] at this
theorem pw_dist {P i j : Nat} (hP : okP P) (h1 : i < j) (h2 : j < P - 1) : rootN P ^ i % P ≠ rootN P ^ j % P := by
  intro h
  have a1 := pw_add (rootN P) i (P - 1 - i) P
  have a2 := pw_add (rootN P) j (P - 1 - i) P
  rw [← h, a1, show i + (P - 1 - i) = P - 1 by omega, hP.2.2.2.2.2] at a2
  have a3 := pw_add (rootN P) (P - 1) (j - i) P
  rw [hP.2.2.2.2.2, show P - 1 + (j - i) = j + (P - 1 - i) by omega, ← a2, Nat.one_mul, Nat.mod_mod] at a3
  exact pw_one hP (show 1 ≤ j - i by omega) (by omega) a3
theorem pw_pos {P k : Nat} (hP : okP P) (h2 : k ≤ P - 1) : 1 ≤ rootN P ^ k % P := by
  rcases Nat.eq_zero_or_pos (rootN P ^ k % P) with h | h
  · have a1 := pw_add (rootN P) k (P - 1 - k) P
    rw [h, Nat.zero_mul, Nat.zero_mod, show k + (P - 1 - k) = P - 1 by omega, hP.2.2.2.2.2] at a1
    cases a1
  · exact h
theorem ix_of {P j : Nat} (hP : okP P) (h : j < P - 1) : ixN P (rootN P ^ j % P) = j := by
  have h1 : ixN P (rootN P ^ j % P) ≤ j := by
    rcases Nat.lt_or_ge j (ixN P (rootN P ^ j % P)) with q | q
    · have := fndN_no (fun k => rootN P ^ k % P == rootN P ^ j % P) (P - 1) 0 j (Nat.zero_le _) q
      simp at this
    · exact q
  have h2 := fndN_yes (fun k => rootN P ^ k % P == rootN P ^ j % P) (P - 1) 0 (by unfold ixN at h1; omega)
  have h3 : rootN P ^ (ixN P (rootN P ^ j % P)) % P = rootN P ^ j % P := by
    unfold ixN
    simpa using h2
  rcases Nat.lt_or_ge (ixN P (rootN P ^ j % P)) j with q | q
  · exact absurd h3 (pw_dist hP q h)
  · omega
/-- pigeons: n places below n, all apart, take each -/
theorem pg_onto : ∀ (n : Nat) (f : Nat → Nat), (∀ i, i < n → f i < n) → (∀ i j, i < j → j < n → f i ≠ f j) → ∀ y, y < n → ∃ i, i < n ∧ f i = y := by
  intro n
  induction n with
  | zero => intro f _ _ y hy; omega
  | succ n ih =>
    intro f h1 h2 y hy
    -- the one that goes to n is taken out
    by_cases h3 : ∃ i, i < n + 1 ∧ f i = n
    · obtain ⟨i, hi, hin⟩ := h3
      by_cases hy2 : y = n
      · exact ⟨i, hi, by omega⟩
      · obtain ⟨k, hk, hk2⟩ := ih (fun k => if k < i then f k else f (k + 1)) (fun k hk => by
            by_cases q : k < i
            · simp only [q, if_true]
              have := h1 k (by omega)
              have := h2 k i q hi
              omega
            · simp only [q, if_false]
              have := h1 (k + 1) (by omega)
              have := h2 i (k + 1) (by omega) (by omega)
              omega) (fun a b hab hb => by
            by_cases q : a < i <;> by_cases q2 : b < i <;> simp only [q, q2, if_true, if_false]
            · exact h2 a b hab (by omega)
            · exact h2 a (b + 1) (by omega) (by omega)
            · omega
            · exact h2 (a + 1) (b + 1) (by omega) (by omega)) y (by omega)
        by_cases q : k < i
        · exact ⟨k, by omega, by simpa only [q, if_true] using hk2⟩
        · exact ⟨k + 1, by omega, by simpa only [q, if_false] using hk2⟩
    · -- none goes to n: then n + 1 places below n
      have h4 : ∀ i, i < n + 1 → f i < n := fun i hi => by
        have := h1 i hi
        have : f i ≠ n := fun q => h3 ⟨i, hi, q⟩
        omega
      obtain ⟨k, hk, hk2⟩ := ih f (fun i hi => h4 i (by omega)) (fun i j a b => h2 i j a (by omega)) (f n) (h4 n (by omega))
      exact absurd hk2 (h2 k n hk (by omega))
theorem pw_onto {P y : Nat} (hP : okP P) (h1 : 1 ≤ y) (h2 : y < P) : ∃ j, j < P - 1 ∧ rootN P ^ j % P = y := by
  obtain ⟨i, hi, h⟩ := pg_onto (P - 1) (fun k => rootN P ^ k % P - 1) (fun i hi => by
      have a := pw_pos hP (show i ≤ P - 1 by omega)
      have b := Nat.mod_lt (rootN P ^ i) (show 0 < P by omega)
      show rootN P ^ i % P - 1 < P - 1
      omega) (fun i j hij hj => by
      have a := pw_pos hP (show i ≤ P - 1 by omega)
      have b := pw_pos hP (show j ≤ P - 1 by omega)
      have d := pw_dist hP hij hj
      show rootN P ^ i % P - 1 ≠ rootN P ^ j % P - 1
      omega) (y - 1) (by omega)
  have a := pw_pos hP (show i ≤ P - 1 by omega)
  have h3 : rootN P ^ i % P - 1 = y - 1 := h
  exact ⟨i, hi, by omega⟩
theorem pw_ix {P y : Nat} (hP : okP P) (h1 : 1 ≤ y) (h2 : y < P) : rootN P ^ ixN P y % P = y ∧ ixN P y < P - 1 := by
  obtain ⟨j, hj, rfl⟩ := pw_onto hP h1 h2
  rw [ix_of hP hj]
  exact ⟨rfl, hj⟩
/-- the indexes, once every power below P - 1 has its own -/
theorem ix_all {P : Nat} {ix : Nat → Int32} (hP : okP P) (h : ∀ j, j < P - 1 → ix (rootN P ^ j % P) = nI j) : ∀ y, 1 ≤ y → y < P → ix y = nI (ixN P y) := by
  intro y h1 h2
  obtain ⟨j, hj, rfl⟩ := pw_onto hP h1 h2
  rw [ix_of hP hj]
  exact h j hj
theorem nI_ne_m1 {j : Nat} (h : j < 2147483648) : ¬ nI j = zI (-1) := by
  rw [nI_zI, zI_eq (by omega) (by omega)]
  omega
/-- how many of 1 .. k have no common divisor above 1 with D -/
def phC (D : Nat) : Nat → Nat
  | 0 => 0
  | k + 1 => phC D k + (if coN D ((k + 1 : Nat) : Int) = true then 1 else 0)
def phN (D : Nat) : Nat := phC D D
theorem ph_rng : ∀ D, D < 13 → 1 ≤ D → (1 ≤ phN D ∧ phN D ≤ 10 ∧ phN D ≤ D) := by decide +kernel
theorem phC_le (D : Nat) : ∀ k, phC D k ≤ k
  | 0 => Nat.le_refl _
  | k + 1 => by
    have := phC_le D k
    unfold phC
    split <;> omega
theorem co_nat {D k : Nat} : coN D (k : Int) = (Nat.gcd k D == 1) := by
  unfold coN
  rw [fmN_nat, ← Nat.gcd_rec, Nat.gcd_comm]
/-- the relation's row of a degree -/
def relM (D i : Nat) : Int := if i = phN D then 1 else if i < phN D then relC ((D - 1) * 10 + i) else 0
theorem rl_1 {f : Nat → Int32} (h : ∀ i, i < 13 → f i = nI 0) : ∀ i, i < 13 → upd (upd f 0 (zI (-1))) (phN 1) (nI 1) i = zI (relM 1 i) := by
  intro i hi
  show (if i = phN 1 then nI 1 else if i = 0 then zI (-1) else f i) = _
  rw [h i hi]
  exact (by decide +kernel : ∀ i, i < 13 → (if i = phN 1 then nI 1 else if i = 0 then zI (-1) else nI 0) = zI (relM 1 i)) i hi
theorem rl_2 {f : Nat → Int32} (h : ∀ i, i < 13 → f i = nI 0) {D : Nat} (hD : D = 2 ∨ D = 4 ∨ D = 8) : ∀ i, i < 13 → upd (upd f 0 (nI 1)) (phN D) (nI 1) i = zI (relM D i) := by
  intro i hi
  show (if i = phN D then nI 1 else if i = 0 then nI 1 else f i) = _
  rw [h i hi]
  rcases hD with rfl | rfl | rfl
  · exact (by decide +kernel : ∀ i, i < 13 → (if i = phN 2 then nI 1 else if i = 0 then nI 1 else nI 0) = zI (relM 2 i)) i hi
  · exact (by decide +kernel : ∀ i, i < 13 → (if i = phN 4 then nI 1 else if i = 0 then nI 1 else nI 0) = zI (relM 4 i)) i hi
  · exact (by decide +kernel : ∀ i, i < 13 → (if i = phN 8 then nI 1 else if i = 0 then nI 1 else nI 0) = zI (relM 8 i)) i hi
theorem rl_3 {f : Nat → Int32} {D : Nat} (h : ∀ i, i < 13 → f i = if i < D then nI 1 else nI 0) (hD : D = 3 ∨ D = 5 ∨ D = 7 ∨ D = 11) : ∀ i, i < 13 → upd f (phN D) (nI 1) i = zI (relM D i) := by
  intro i hi
  show (if i = phN D then nI 1 else f i) = _
  rw [h i hi]
  rcases hD with rfl | rfl | rfl | rfl
  · exact (by decide +kernel : ∀ i, i < 13 → (if i = phN 3 then nI 1 else if i < 3 then nI 1 else nI 0) = zI (relM 3 i)) i hi
  · exact (by decide +kernel : ∀ i, i < 13 → (if i = phN 5 then nI 1 else if i < 5 then nI 1 else nI 0) = zI (relM 5 i)) i hi
  · exact (by decide +kernel : ∀ i, i < 13 → (if i = phN 7 then nI 1 else if i < 7 then nI 1 else nI 0) = zI (relM 7 i)) i hi
  · exact (by decide +kernel : ∀ i, i < 13 → (if i = phN 11 then nI 1 else if i < 11 then nI 1 else nI 0) = zI (relM 11 i)) i hi
theorem rl_9 {f : Nat → Int32} (h : ∀ i, i < 13 → f i = nI 0) : ∀ i, i < 13 → upd (upd (upd f 0 (nI 1)) 3 (nI 1)) (phN 9) (nI 1) i = zI (relM 9 i) := by
  intro i hi
  show (if i = phN 9 then nI 1 else if i = 3 then nI 1 else if i = 0 then nI 1 else f i) = _
  rw [h i hi]
  exact (by decide +kernel : ∀ i, i < 13 → (if i = phN 9 then nI 1 else if i = 3 then nI 1 else if i = 0 then nI 1 else nI 0) = zI (relM 9 i)) i hi
theorem rl_12 {f : Nat → Int32} (h : ∀ i, i < 13 → f i = nI 0) : ∀ i, i < 13 → upd (upd (upd f 0 (nI 1)) 2 (zI (-1))) (phN 12) (nI 1) i = zI (relM 12 i) := by
  intro i hi
  show (if i = phN 12 then nI 1 else if i = 2 then zI (-1) else if i = 0 then nI 1 else f i) = _
  rw [h i hi]
  exact (by decide +kernel : ∀ i, i < 13 → (if i = phN 12 then nI 1 else if i = 2 then zI (-1) else if i = 0 then nI 1 else nI 0) = zI (relM 12 i)) i hi
theorem rl_6 {f : Nat → Int32} {D : Nat} (h : ∀ i, i < 13 → f i = if i < phN D + 1 then (if i % 2 = 0 then nI 1 else zI (-1)) else nI 0) (hD : D = 6 ∨ D = 10) : ∀ i, i < 13 → upd f (phN D) (nI 1) i = zI (relM D i) := by
  intro i hi
  show (if i = phN D then nI 1 else f i) = _
  rw [h i hi]
  rcases hD with rfl | rfl
  · exact (by decide +kernel : ∀ i, i < 13 → (if i = phN 6 then nI 1 else if i < phN 6 + 1 then (if i % 2 = 0 then nI 1 else zI (-1)) else nI 0) = zI (relM 6 i)) i hi
  · exact (by decide +kernel : ∀ i, i < 13 → (if i = phN 10 then nI 1 else if i < phN 10 + 1 then (if i % 2 = 0 then nI 1 else zI (-1)) else nI 0) = zI (relM 10 i)) i hi
theorem rowz {h : Nat → Nat → Int32} {i : Nat} (hz : ∀ a, a < i → ∀ b, b < 10 → h a b = nI 0) : ∀ a, a < i + 1 → ∀ b, b < 10 → va_up h i (fun k => if k < 10 then nI 0 else h i k) a b = nI 0 := by
  intro a ha b hb
  by_cases q : a = i
  · rw [q, va_up_self]
    exact if_pos hb
  · rw [va_up_ne _ _ q]
    exact hz a (by omega) b hb
def okI (P : Nat) (ix pw : Nat → Int32) : Prop := (∀ y, 1 ≤ y → y < P → ix y = nI (ixN P y)) ∧ ∀ k, k < P - 1 → pw k = nI (rootN P ^ k % P)
theorem ixs {P k : Nat} {ix : Nat → Int32} (hP : okP P) (hk : k < P - 1) (h : ∀ j, j < k → ix (rootN P ^ j % P) = nI j) : ∀ j, j < k + 1 → upd ix (rootN P ^ k % P) (nI k) (rootN P ^ j % P) = nI j := by
  intro j hj
  unfold upd
  by_cases q : j = k
  · rw [q, if_pos rfl]
  · rw [if_neg (pw_dist hP (by omega) hk)]
    exact h j (by omega)
theorem pws {P k : Nat} {pw : Nat → Int32} (h : ∀ j, j < k → pw j = nI (rootN P ^ j % P)) : ∀ j, j < k + 1 → upd pw k (nI (rootN P ^ k % P)) j = nI (rootN P ^ j % P) := by
  intro j hj
  unfold upd
  by_cases q : j = k
  · rw [q, if_pos rfl]
  · rw [if_neg q]
    exact h j (by omega)
theorem ph_s1 {D j : Nat} (h : ¬ coN D (((j + 1 : Nat)) : Int) = false) : phC D j + 1 = phC D (j + 1) := by
  show _ = phC D j + _
  rw [if_pos (by simpa using h)]
theorem ph_s0 {D j : Nat} (h : coN D (((j + 1 : Nat)) : Int) = false) : phC D j = phC D (j + 1) := by
  show _ = phC D j + _
  rw [if_neg (by rw [h]; decide)]
  omega
theorem mul_b {P a b : Nat} (hP : P ≤ 199) (ha : a < P) (hb : b < P) : a * b < 2147483648 := by
  have h1 := Nat.mul_le_mul (Nat.le_of_lt ha) (Nat.le_of_lt hb)
  have h2 := Nat.mul_le_mul hP hP
  omega
theorem updc {f : Nat → Int32} {v : Int32} {x : Nat} (h : ∀ k, k < x → f k = v) : ∀ k, k < x + 1 → upd f x v k = v := by
  intro k hk
  unfold upd
  by_cases q : k = x
  · rw [if_pos q]
  · rw [if_neg q]
    exact h k (by omega)
theorem updcL {f : Nat → Int64} {v : Int64} {x : Nat} (h : ∀ k, k < x → f k = v) : ∀ k, k < x + 1 → vp_updL f x v k = v := by
  intro k hk
  unfold vp_updL
  by_cases q : k = x
  · rw [if_pos q]
  · rw [if_neg q]
    exact h k (by omega)
theorem bg_lt {q g k o : Nat} {ix : Nat → Int32} (hq : 3 ≤ q) (hk : k ≤ o) (ho : g ^ o % q = 1) (h1 : 1 ≤ o) (hi : ∀ j, j < k → ix (g ^ j % q) = nI j) (h : ix (g ^ k % q) = zI (-1)) : k < o := by
  rcases Nat.lt_or_ge k o with z | z
  · exact z
  · have e : k = o := by omega
    have h2 := hi 0 (by omega)
    rw [e, ho] at h
    rw [Nat.pow_zero, Nat.mod_eq_of_lt (by omega), h] at h2
    exact absurd h2.symm (nI_ne_m1 (by omega))
theorem bg_hi {q g k : Nat} {ix : Nat → Int32} (hk : k < 2147483648) (hi : ∀ j, j < k → ix (g ^ j % q) = nI j) (h : ix (g ^ k % q) = zI (-1)) : ∀ j, j < k + 1 → upd ix (g ^ k % q) (nI k) (g ^ j % q) = nI j := by
  intro j hj
  unfold upd
  by_cases z : j = k
  · rw [z, if_pos rfl]
  · have h2 := hi j (by omega)
    rw [if_neg (fun w => by rw [w, h] at h2; exact nI_ne_m1 (by omega) h2.symm)]
    exact h2
theorem bg_hn {q g k : Nat} {ix : Nat → Int32} (hn : ∀ y, y < 200 → (∀ j, j < k → g ^ j % q ≠ y) → ix y = zI (-1)) : ∀ y, y < 200 → (∀ j, j < k + 1 → g ^ j % q ≠ y) → upd ix (g ^ k % q) (nI k) y = zI (-1) := by
  intro y hy h
  unfold upd
  rw [if_neg (fun w => h k (by omega) w.symm)]
  exact hn y hy (fun j hj => h j (by omega))
theorem bg_out {q g k : Nat} {ix : Nat → Int32} (hq : okP q) (hg : g = rootN q) (hk : k ≤ q - 1) (hi : ∀ j, j < k → ix (g ^ j % q) = nI j) (hn : ∀ y, y < 200 → (∀ j, j < k → g ^ j % q ≠ y) → ix y = zI (-1)) (h : ¬ ix (g ^ k % q) = zI (-1)) : k = q - 1 ∧ ∀ y, 1 ≤ y → y < q → ix y = nI (ixN q y) := by
  subst hg
  have h1 : k = q - 1 := by
    rcases Nat.lt_or_ge k (q - 1) with z | z
    · have h3 := hq.2.1
      exact absurd (hn _ (Nat.lt_of_lt_of_le (Nat.mod_lt _ (by have := hq.1; omega)) (by omega)) (fun j hj => pw_dist hq hj z)) h
    · omega
  rw [h1] at hi
  exact ⟨h1, ix_all hq hi⟩
theorem bg_or {q g : Nat} (hq : okP q) (h1 : 1 ≤ g) (h : g < rootN q) : ∃ o, 1 ≤ o ∧ o ≤ q - 1 ∧ (g + 1) ^ o % q = 1 ∧ (g + 1 < rootN q → o ≤ q - 2) := by
  have o1 := hq.1
  by_cases z : g + 1 < rootN q
  · obtain ⟨k, a, b, d⟩ := root_no (by omega : 2 ≤ g + 1) z
    exact ⟨k, a, by omega, d, fun _ => b⟩
  · have e : g + 1 = rootN q := by omega
    exact ⟨q - 1, by omega, by omega, by rw [e]; exact hq.2.2.2.2.2, fun w => by omega⟩
theorem ph_g1 {D j : Nat} (h : Nat.gcd (j + 1) D = 1) : phC D j + 1 = phC D (j + 1) := ph_s1 (by rw [co_nat, h]; decide)
theorem ph_g0 {D j : Nat} (h : ¬ Nat.gcd (j + 1) D = 1) : phC D j + 0 = phC D (j + 1) := ph_s0 (by rw [co_nat]; simpa using h)
theorem updi {f : Nat → Int32} {a b : Int32} {k : Nat} (h : ∀ i, i < 13 → f i = if i < k then a else b) : ∀ i, i < 13 → upd f k a i = if i < k + 1 then a else b := by
  intro i hi
  unfold upd
  by_cases q : i = k
  · rw [if_pos q, if_pos (by omega)]
  · rw [if_neg q, h i hi]
    by_cases w : i < k
    · rw [if_pos w, if_pos (show i < k + 1 by omega)]
    · rw [if_neg w, if_neg (show ¬ i < k + 1 by omega)]
theorem updi2 {f : Nat → Int32} {a b d v : Int32} {k : Nat} (hv : v = if k % 2 = 0 then a else d) (h : ∀ i, i < 13 → f i = if i < k then (if i % 2 = 0 then a else d) else b) : ∀ i, i < 13 → upd f k v i = if i < k + 1 then (if i % 2 = 0 then a else d) else b := by
  intro i hi
  unfold upd
  by_cases q : i = k
  · rw [if_pos q, if_pos (by omega), hv, q]
  · rw [if_neg q, h i hi]
    by_cases w : i < k
    · rw [if_pos w, if_pos (show i < k + 1 by omega)]
    · rw [if_neg w, if_neg (show ¬ i < k + 1 by omega)]
