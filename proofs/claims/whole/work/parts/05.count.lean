/-! digits of base three: gap 0 has the highest -/
def dg_d (G i g : Nat) : Nat := i / 3 ^ (G - 1 - g) % 3
theorem dg_lt (G i g : Nat) : dg_d G i g < 3 := Nat.mod_lt _ (by decide)
theorem dg_p (m : Nat) : 0 < 3 ^ m := Nat.pow_pos (by decide)
theorem dg_0 (G g : Nat) : dg_d G 0 g = 0 := by
  unfold dg_d
  rw [Nat.zero_div]
theorem dg_ps (m : Nat) : 3 ^ (m + 1) = 3 ^ m * 3 := Nat.pow_succ 3 m
/-- the carry stands at gap g: all gaps behind g hold 2 -/
def dg_c (i m : Nat) : Prop := (i + 1) % 3 ^ m = 0
theorem dg_c0 (i : Nat) : dg_c i 0 := Nat.mod_one _
theorem dg_q {i m : Nat} (h : dg_c i m) : ∃ q, i + 1 = (q + 1) * 3 ^ m ∧ i / 3 ^ m = q := by
  have hp := dg_p m
  have e : i + 1 = (i + 1) / 3 ^ m * 3 ^ m := by
    have := Nat.div_add_mod' (i + 1) (3 ^ m)
    unfold dg_c at h
    omega
  cases hq : (i + 1) / 3 ^ m with
  | zero => rw [hq, Nat.zero_mul] at e; omega
  | succ q =>
    rw [hq] at e
    refine ⟨q, e, ?_⟩
    rw [Nat.succ_mul] at e
    have e2 : i = q * 3 ^ m + (3 ^ m - 1) := by omega
    rw [e2, Nat.mul_comm q, Nat.mul_add_div hp, Nat.div_eq_of_lt (by omega), Nat.add_zero]
/-- digit 2: the carry goes on -/
theorem dg_cs {i m : Nat} (h : dg_c i m) (h2 : i / 3 ^ m % 3 = 2) : dg_c i (m + 1) := by
  obtain ⟨q, e, eq⟩ := dg_q h
  rw [eq] at h2
  unfold dg_c
  have e3 : q + 1 = (q + 1) / 3 * 3 := by omega
  rw [e, e3, dg_ps, Nat.mul_assoc, Nat.mul_comm 3 (3 ^ m)]
  exact Nat.mul_mod_left _ _
/-- digit below 2: it grows by one, those behind are 0, those ahead stay -/
theorem dg_n0 {i m j : Nat} (h : dg_c i m) (hj : j < m) : (i + 1) / 3 ^ j % 3 = 0 := by
  obtain ⟨q, e, _⟩ := dg_q h
  obtain ⟨t, rfl⟩ : ∃ t, m = j + (t + 1) := ⟨m - j - 1, by omega⟩
  have e2 : i + 1 = 3 ^ j * ((q + 1) * 3 ^ t * 3) := by
    rw [e, Nat.pow_add, dg_ps, ← Nat.mul_assoc, Nat.mul_comm (q + 1) (3 ^ j), Nat.mul_assoc, Nat.mul_assoc]
  rw [e2, Nat.mul_div_cancel_left _ (dg_p j), Nat.mul_mod_left]
theorem dg_n1 {i m : Nat} (h : dg_c i m) (h2 : i / 3 ^ m % 3 < 2) : (i + 1) / 3 ^ m % 3 = i / 3 ^ m % 3 + 1 := by
  obtain ⟨q, e, eq⟩ := dg_q h
  rw [eq] at h2 ⊢
  rw [e, Nat.mul_div_cancel _ (dg_p m)]
  omega
theorem dg_n2 {i m j : Nat} (h : dg_c i m) (h2 : i / 3 ^ m % 3 < 2) (hj : m < j) : (i + 1) / 3 ^ j = i / 3 ^ j := by
  obtain ⟨q, e, eq⟩ := dg_q h
  rw [eq] at h2
  obtain ⟨t, rfl⟩ : ∃ t, j = m + (1 + t) := ⟨j - m - 1, by omega⟩
  rw [Nat.pow_add, ← Nat.div_div_eq_div_mul, ← Nat.div_div_eq_div_mul, eq, e, Nat.mul_div_cancel _ (dg_p m), Nat.pow_add, ← Nat.div_div_eq_div_mul, ← Nat.div_div_eq_div_mul]
  congr 1
  omega
theorem dg_le {i m G : Nat} (h : dg_c i m) (h2 : i / 3 ^ m % 3 < 2) (hm : m < G) (hi : i < 3 ^ G) : i + 1 < 3 ^ G := by
  apply Nat.lt_of_le_of_ne hi
  intro e
  have e : i + 1 = 3 ^ G := e
  have h3 := dg_n2 h h2 hm
  rw [e, Nat.div_self (dg_p G), Nat.div_eq_of_lt hi] at h3
  exact absurd h3 (by decide)
theorem dg_end {i G : Nat} (h : dg_c i G) (hi : i < 3 ^ G) : i + 1 = 3 ^ G := by
  obtain ⟨q, e, eq⟩ := dg_q h
  rw [Nat.div_eq_of_lt hi] at eq
  rw [e, ← eq, Nat.zero_add, Nat.one_mul]
theorem dg_8 {G : Nat} (h : G ≤ 8) : 3 ^ G ≤ 6561 := Nat.pow_le_pow_right (n := 3) (by decide) h
/-! counting -/
noncomputable def ct_n (P : Nat → Prop) : Nat → Nat
  | 0 => 0
  | n + 1 => @ite Nat (P n) (Classical.propDecidable (P n)) (ct_n P n + 1) (ct_n P n)
theorem ct_y {P : Nat → Prop} {n : Nat} (h : P n) : ct_n P (n + 1) = ct_n P n + 1 := if_pos h
theorem ct_x {P : Nat → Prop} {n : Nat} (h : ¬ P n) : ct_n P (n + 1) = ct_n P n := if_neg h
theorem ct_le (P : Nat → Prop) : ∀ n, ct_n P n ≤ n := by
  intro n
  induction n with
  | zero => exact Nat.le_refl _
  | succ n ih =>
    by_cases h : P n
    · rw [ct_y h]; omega
    · rw [ct_x h]; omega
theorem ct_z {P : Nat → Prop} : ∀ n, ct_n P n = 0 → ∀ i, i < n → ¬ P i := by
  intro n
  induction n with
  | zero => exact fun _ i hi => absurd hi (Nat.not_lt_zero i)
  | succ n ih =>
    intro h0 i hi
    by_cases h : P n
    · rw [ct_y h] at h0; omega
    · rw [ct_x h] at h0
      by_cases e : i = n
      · exact e ▸ h
      · exact ih h0 i (by omega)
theorem ct_nz {P : Nat → Prop} {n : Nat} (h : ∀ i, i < n → ¬ P i) : ct_n P n = 0 := by
  induction n with
  | zero => rfl
  | succ n ih =>
    rw [ct_x (h n (by omega))]
    exact ih (fun i hi => h i (by omega))
theorem ct_pos {P : Nat → Prop} {n i : Nat} (hi : i < n) (h : P i) : 0 < ct_n P n :=
  Nat.pos_of_ne_zero (fun z => ct_z n z i hi h)
theorem ct_iff {P Q : Nat → Prop} {n : Nat} (h : ∀ i, i < n → (P i ↔ Q i)) : ct_n P n = ct_n Q n := by
  induction n with
  | zero => rfl
  | succ n ih =>
    have ih := ih (fun i hi => h i (by omega))
    by_cases p : P n
    · rw [ct_y p, ct_y ((h n (by omega)).mp p), ih]
    · rw [ct_x p, ct_x (fun q => p ((h n (by omega)).mpr q)), ih]
/-- split by a value below 3 -/
theorem ct_3 (P : Nat → Prop) (f : Nat → Nat) (hf : ∀ i, f i < 3) : ∀ n, ct_n (fun i => f i = 0 ∧ P i) n + ct_n (fun i => f i = 1 ∧ P i) n + ct_n (fun i => f i = 2 ∧ P i) n = ct_n P n := by
  intro n
  induction n with
  | zero => rfl
  | succ n ih =>
    by_cases p : P n
    · rw [ct_y p]
      have h := hf n
      by_cases e0 : f n = 0
      · rw [ct_y (P := fun i => f i = 0 ∧ P i) ⟨e0, p⟩, ct_x (P := fun i => f i = 1 ∧ P i) (fun q => by have := q.1; omega), ct_x (P := fun i => f i = 2 ∧ P i) (fun q => by have := q.1; omega)]
        omega
      · by_cases e1 : f n = 1
        · rw [ct_x (P := fun i => f i = 0 ∧ P i) (fun q => by have := q.1; omega), ct_y (P := fun i => f i = 1 ∧ P i) ⟨e1, p⟩, ct_x (P := fun i => f i = 2 ∧ P i) (fun q => by have := q.1; omega)]
          omega
        · rw [ct_x (P := fun i => f i = 0 ∧ P i) (fun q => by have := q.1; omega), ct_x (P := fun i => f i = 1 ∧ P i) (fun q => by have := q.1; omega), ct_y (P := fun i => f i = 2 ∧ P i) ⟨by omega, p⟩]
          omega
    · rw [ct_x p, ct_x (P := fun i => f i = 0 ∧ P i) (fun q => p q.2), ct_x (P := fun i => f i = 1 ∧ P i) (fun q => p q.2), ct_x (P := fun i => f i = 2 ∧ P i) (fun q => p q.2)]
      exact ih
/-- candidate i solves the board -/
def so_I (a : Nat → Int32) (L : List (Nat × Nat × Int64)) (i : Nat) : Prop := so_S a L (dg_d L.length i)
def so_T (a : Nat → Int32) (L : List (Nat × Nat × Int64)) (g e : Nat) (i : Nat) : Prop := dg_d L.length i g = e ∧ so_I a L i
