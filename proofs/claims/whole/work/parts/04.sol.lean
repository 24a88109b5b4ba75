/-! bits of a long -/
def bl_t (x : Int64) (i : Nat) : Bool := x.toBitVec.getLsbD i
theorem bl_ext {x y : Int64} (h : ∀ i, i < 64 → bl_t x i = bl_t y i) : x = y := by
  apply Int64.toBitVec_inj.mp
  apply BitVec.eq_of_getLsbD_eq
  intro i hi
  exact h i hi
theorem bl_or (x y : Int64) (i : Nat) : bl_t (x ||| y) i = (bl_t x i || bl_t y i) := by
  unfold bl_t
  rw [Int64.toBitVec_or, BitVec.getLsbD_or]
theorem bl_and (x y : Int64) (i : Nat) : bl_t (x &&& y) i = (bl_t x i && bl_t y i) := by
  unfold bl_t
  rw [Int64.toBitVec_and, BitVec.getLsbD_and]
theorem bl_0 (i : Nat) : bl_t 0 i = false := by
  show (BitVec.ofNat 64 0).getLsbD i = false
  exact BitVec.getLsbD_zero
theorem bl_z {x : Int64} : x = 0 ↔ ∀ i, i < 64 → bl_t x i = false := by
  constructor
  · intro h i _
    rw [h, bl_0]
  · intro h
    exact bl_ext (fun i hi => by rw [h i hi, bl_0])
theorem bl_sh {c i : Nat} (hc : c < 64) (hi : i < 64) : bl_t (sh_b c) i = decide (i = c) := by
  have e : sh_b c = lN (1 * 2 ^ c) := wb_shl 1 hc
  unfold bl_t
  rw [e, wb_tb, BitVec.getLsbD_ofNat, Nat.one_mul, Nat.testBit_two_pow, decide_eq_true hi, Bool.true_and]
  exact decide_eq_decide.mpr ⟨fun h => h.symm, fun h => h.symm⟩
theorem bl_dis (x y z : Int64) : (x ||| y) &&& z = 0 ↔ x &&& z = 0 ∧ y &&& z = 0 := by
  rw [bl_z, bl_z, bl_z]
  constructor
  · intro h
    refine ⟨fun i hi => ?_, fun i hi => ?_⟩
    · have := h i hi
      rw [bl_and, bl_or] at this
      rw [bl_and]
      revert this
      cases bl_t x i <;> cases bl_t y i <;> cases bl_t z i <;> decide
    · have := h i hi
      rw [bl_and, bl_or] at this
      rw [bl_and]
      revert this
      cases bl_t x i <;> cases bl_t y i <;> cases bl_t z i <;> decide
  · intro h i hi
    have h1 := h.1 i hi
    have h2 := h.2 i hi
    rw [bl_and] at h1 h2
    rw [bl_and, bl_or]
    revert h1 h2
    cases bl_t x i <;> cases bl_t y i <;> cases bl_t z i <;> decide
theorem bl_comm (x y : Int64) : x &&& y = y &&& x := Int64.and_comm x y
/-! the sums -/
def sm_m (L : List (Nat × Nat × Int64)) (d : Nat → Nat) (c : Nat) : Nat → Int32
  | 0 => 0
  | g + 1 => if gp_n L g = c ∨ gp_f L g = c then sm_m L d c g + nI (d g) else sm_m L d c g
def so_M (a : Nat → Int32) (L : List (Nat × Nat × Int64)) (d : Nat → Nat) : Prop := ∀ c, c < 36 → ¬ a c = 0 → sm_m L d c L.length = a c
/-! the crossings -/
def so_A (L : List (Nat × Nat × Int64)) (d : Nat → Nat) (n : Nat) : Prop := ∀ g, g < n → ∀ h, h < g → 0 < d g → 0 < d h → gp_b L g &&& gp_b L h = 0
/-- what the first n gaps cover -/
def cv_c (L : List (Nat × Nat × Int64)) (d : Nat → Nat) : Nat → Int64
  | 0 => 0
  | g + 1 => if 0 < d g then cv_c L d g ||| gp_b L g else cv_c L d g
theorem cv_0 (L : List (Nat × Nat × Int64)) (d : Nat → Nat) (z : Int64) : ∀ n, cv_c L d n &&& z = 0 ↔ ∀ h, h < n → 0 < d h → gp_b L h &&& z = 0 := by
  intro n
  induction n with
  | zero =>
    refine ⟨fun _ h hh => absurd hh (Nat.not_lt_zero h), fun _ => ?_⟩
    show (0 : Int64) &&& z = 0
    exact Int64.zero_and
  | succ n ih =>
    by_cases p : 0 < d n
    · have e : cv_c L d (n + 1) = cv_c L d n ||| gp_b L n := if_pos p
      rw [e, bl_dis, ih]
      constructor
      · intro h j hj pj
        by_cases q : j = n
        · exact q ▸ h.2
        · exact h.1 j (by omega) pj
      · exact fun h => ⟨fun j hj pj => h j (by omega) pj, h n (by omega) p⟩
    · have e : cv_c L d (n + 1) = cv_c L d n := if_neg p
      rw [e, ih]
      constructor
      · intro h j hj pj
        by_cases q : j = n
        · exact absurd (q ▸ pj) p
        · exact h j (by omega) pj
      · exact fun h j hj pj => h j (by omega) pj
theorem so_A0 (L : List (Nat × Nat × Int64)) (d : Nat → Nat) : so_A L d 0 := fun g h => absurd h (Nat.not_lt_zero g)
theorem so_As {L : List (Nat × Nat × Int64)} {d : Nat → Nat} {n : Nat} (h : so_A L d n) (hn : 0 < d n → cv_c L d n &&& gp_b L n = 0) : so_A L d (n + 1) := by
  intro g hg j hj pg pj
  by_cases e : g = n
  · subst e
    rw [bl_comm]
    exact (cv_0 L d _ g).mp (hn pg) j hj pj
  · exact h g (by omega) j hj pg pj
theorem so_An {L : List (Nat × Nat × Int64)} {d : Nat → Nat} {n m : Nat} (hm : n < m) (hp : 0 < d n) (h : ¬ cv_c L d n &&& gp_b L n = 0) : ¬ so_A L d m := by
  intro q
  apply h
  rw [cv_0]
  intro j hj pj
  rw [bl_comm]
  exact q n hm j hj hp pj
/-! the joining -/
def jn_r (L : List (Nat × Nat × Int64)) (d : Nat → Nat) (s : Nat → Bool) : Nat → (Nat → Bool)
  | 0 => s
  | g + 1 => if 0 < d g ∧ (jn_r L d s g (gp_n L g) = true ∨ jn_r L d s g (gp_f L g) = true) then (fun c => jn_r L d s g c || decide (c = gp_n L g) || decide (c = gp_f L g)) else jn_r L d s g
def jn_i (L : List (Nat × Nat × Int64)) (d : Nat → Nat) (s : Nat → Bool) : Nat → (Nat → Bool)
  | 0 => s
  | r + 1 => jn_r L d (jn_i L d s r) L.length
theorem jn_up (L : List (Nat × Nat × Int64)) (d : Nat → Nat) (s : Nat → Bool) (c : Nat) (h : s c = true) : ∀ g, jn_r L d s g c = true := by
  intro g
  induction g with
  | zero => exact h
  | succ g ih =>
    by_cases p : 0 < d g ∧ (jn_r L d s g (gp_n L g) = true ∨ jn_r L d s g (gp_f L g) = true)
    · have e : jn_r L d s (g + 1) = (fun c => jn_r L d s g c || decide (c = gp_n L g) || decide (c = gp_f L g)) := if_pos p
      rw [e]
      show (jn_r L d s g c || _ || _) = true
      rw [ih]
      rfl
    · have e : jn_r L d s (g + 1) = jn_r L d s g := if_neg p
      rw [e]
      exact ih
theorem jn_in (L : List (Nat × Nat × Int64)) (d : Nat → Nat) (s : Nat → Bool) (P : Nat → Prop) (h : ∀ c, s c = true → P c) : ∀ g, (∀ j, j < g → P (gp_n L j) ∧ P (gp_f L j)) → ∀ c, jn_r L d s g c = true → P c := by
  intro g
  induction g with
  | zero => exact fun _ => h
  | succ g ih =>
    intro hP c hc
    have ih := ih (fun j hj => hP j (by omega))
    by_cases p : 0 < d g ∧ (jn_r L d s g (gp_n L g) = true ∨ jn_r L d s g (gp_f L g) = true)
    · have e : jn_r L d s (g + 1) = (fun c => jn_r L d s g c || decide (c = gp_n L g) || decide (c = gp_f L g)) := if_pos p
      rw [e] at hc
      have hc : (jn_r L d s g c || decide (c = gp_n L g) || decide (c = gp_f L g)) = true := hc
      rw [Bool.or_eq_true, Bool.or_eq_true, decide_eq_true_eq, decide_eq_true_eq] at hc
      rcases hc with (hc | hc) | hc
      · exact ih c hc
      · exact hc ▸ (hP g (by omega)).1
      · exact hc ▸ (hP g (by omega)).2
    · have e : jn_r L d s (g + 1) = jn_r L d s g := if_neg p
      rw [e] at hc
      exact ih c hc
theorem jn_iin (L : List (Nat × Nat × Int64)) (d : Nat → Nat) (s : Nat → Bool) (P : Nat → Prop) (h : ∀ c, s c = true → P c) (hP : ∀ j, j < L.length → P (gp_n L j) ∧ P (gp_f L j)) : ∀ r c, jn_i L d s r c = true → P c := by
  intro r
  induction r with
  | zero => exact h
  | succ r ih => exact jn_in L d _ P ih L.length hP
/-- how many cells below n a set holds -/
def cb_n (s : Nat → Bool) : Nat → Nat
  | 0 => 0
  | n + 1 => if s n = true then cb_n s n + 1 else cb_n s n
theorem cb_le {s t : Nat → Bool} (h : ∀ c, s c = true → t c = true) : ∀ n, cb_n s n ≤ cb_n t n := by
  intro n
  induction n with
  | zero => exact Nat.le_refl _
  | succ n ih =>
    show (if s n = true then cb_n s n + 1 else cb_n s n) ≤ (if t n = true then cb_n t n + 1 else cb_n t n)
    by_cases p : s n = true
    · rw [if_pos p, if_pos (h n p)]; omega
    · rw [if_neg p]
      split <;> omega
theorem cb_eq {s t : Nat → Bool} (h : ∀ c, s c = true → t c = true) : ∀ n, cb_n t n ≤ cb_n s n → ∀ c, c < n → t c = true → s c = true := by
  intro n
  induction n with
  | zero => exact fun _ c hc => absurd hc (Nat.not_lt_zero c)
  | succ n ih =>
    intro hl c hc tc
    have hl : (if t n = true then cb_n t n + 1 else cb_n t n) ≤ (if s n = true then cb_n s n + 1 else cb_n s n) := hl
    have h0 := cb_le h n
    by_cases p : s n = true
    · rw [if_pos p, if_pos (h n p)] at hl
      by_cases e : c = n
      · exact e ▸ p
      · exact ih (by omega) c (by omega) tc
    · rw [if_neg p] at hl
      by_cases q : t n = true
      · rw [if_pos q] at hl; omega
      · rw [if_neg q] at hl
        by_cases e : c = n
        · exact absurd (e ▸ tc) q
        · exact ih (by omega) c (by omega) tc
theorem jn_fix {L : List (Nat × Nat × Int64)} {d : Nat → Nat} {s : Nat → Bool} {r : Nat} (h : jn_i L d s (r + 1) = jn_i L d s r) : ∀ j, jn_i L d s (r + j) = jn_i L d s r := by
  intro j
  induction j with
  | zero => rfl
  | succ j ih =>
    show jn_r L d (jn_i L d s (r + j)) L.length = _
    rw [ih]
    exact h
theorem jn_grow (L : List (Nat × Nat × Int64)) (d : Nat → Nat) (s : Nat → Bool) (h0 : ∀ r c, jn_i L d s r c = true → c < 36) (h1 : 0 < cb_n s 36) : ∀ j, jn_i L d s (j + 1) = jn_i L d s j ∨ j + 1 ≤ cb_n (jn_i L d s j) 36 := by
  intro j
  induction j with
  | zero => exact Or.inr h1
  | succ j ih =>
    by_cases e : jn_i L d s (j + 1) = jn_i L d s j
    · left
      show jn_r L d (jn_i L d s (j + 1)) L.length = jn_r L d (jn_i L d s j) L.length
      rw [e]
    · right
      have hj := ih.resolve_left e
      have hle : ∀ c, jn_i L d s j c = true → jn_i L d s (j + 1) c = true := fun c hc => jn_up L d _ c hc L.length
      have hm := cb_le hle 36
      by_cases q : cb_n (jn_i L d s (j + 1)) 36 ≤ cb_n (jn_i L d s j) 36
      · exfalso
        apply e
        funext c
        have hb := cb_eq hle 36 q c
        cases h2 : jn_i L d s (j + 1) c with
        | true => exact (hb (h0 _ c h2) h2).symm
        | false =>
          cases h3 : jn_i L d s j c with
          | false => rfl
          | true => exact absurd (hle c h3) (by rw [h2]; decide)
      · omega
theorem jn_end (L : List (Nat × Nat × Int64)) (d : Nat → Nat) (s p : Nat → Bool) (h0 : ∀ c, p c = true → c < 36) (hs : ∀ c, s c = true → p c = true) (hL : ∀ j, j < L.length → p (gp_n L j) = true ∧ p (gp_f L j) = true) (h1 : 0 < cb_n s 36) {k : Nat} (hk : cb_n p 36 = k + 1) : ∀ m, jn_i L d s (k + m) = jn_i L d s k := by
  have hi := jn_iin L d s (fun c => p c = true) hs hL
  rcases jn_grow L d s (fun r c hc => h0 c (hi r c hc)) h1 k with h | h
  · exact jn_fix h
  · apply jn_fix
    have hall := cb_eq (hi k) 36 (by omega)
    funext c
    cases h2 : jn_i L d s (k + 1) c with
    | true => exact (hall c (h0 c (hi _ c h2)) (hi _ c h2)).symm
    | false =>
      cases h3 : jn_i L d s k c with
      | false => rfl
      | true => exact absurd (jn_up L d (jn_i L d s k) c h3 L.length) (by show ¬ jn_i L d s (k + 1) c = true; rw [h2]; decide)
/-- the islands, and the first of them, as sets -/
def jn_p (a : Nat → Int32) : Nat → Bool := fun c => decide (c < 36 ∧ ¬ a c = 0)
def jn_0 (a : Nat → Int32) : Nat → Bool := fun c => decide (0 < (is_l a 36).length ∧ c = is_c (is_l a 36) 0)
theorem jn_pk (a : Nat → Int32) : ∀ n, n ≤ 36 → cb_n (jn_p a) n = (is_l a n).length := by
  intro n
  induction n with
  | zero => exact fun _ => rfl
  | succ n ih =>
    intro hn
    have ih := ih (by omega)
    show (if jn_p a n = true then cb_n (jn_p a) n + 1 else cb_n (jn_p a) n) = _
    by_cases z : a n = 0
    · have q : ¬ jn_p a n = true := fun h => (of_decide_eq_true h).2 z
      rw [if_neg q, is_s0 z, ih]
    · have q : jn_p a n = true := decide_eq_true ⟨by omega, z⟩
      rw [if_pos q, is_s1 z, ih, List.length_append, List.length_singleton]
theorem jn_0p (a : Nat → Int32) (c : Nat) (h : jn_0 a c = true) : jn_p a c = true := by
  have q := of_decide_eq_true h
  exact decide_eq_true (q.2 ▸ is_c36 a q.1)
theorem cb_pos {s : Nat → Bool} {c : Nat} (h : s c = true) : ∀ n, c < n → 0 < cb_n s n := by
  intro n
  induction n with
  | zero => exact fun q => absurd q (Nat.not_lt_zero c)
  | succ n ih =>
    intro hc
    show 0 < (if s n = true then cb_n s n + 1 else cb_n s n)
    by_cases e : c = n
    · rw [if_pos (e ▸ h)]; omega
    · have := ih (by omega)
      split <;> omega
def so_J (a : Nat → Int32) (L : List (Nat × Nat × Int64)) (d : Nat → Nat) : Prop := ∀ c, c < 36 → ¬ a c = 0 → jn_i L d (jn_0 a) 7 c = true
/-- X's fewer rounds end where seven end -/
theorem jn_7 {a : Nat → Int32} {L : List (Nat × Nat × Int64)} (hL : gp_ok a L) (d : Nat → Nat) {k : Nat} (hk : (is_l a 36).length = k + 1) (h7 : k ≤ 7) : jn_i L d (jn_0 a) 7 = jn_i L d (jn_0 a) k := by
  have hc := is_c36 a (show 0 < (is_l a 36).length by omega)
  have h := jn_end L d (jn_0 a) (jn_p a) (fun c h => (of_decide_eq_true h).1) (jn_0p a) (fun j hj => by
    have q := gp_at hL hj
    exact ⟨decide_eq_true ⟨by omega, q.2.2.1⟩, decide_eq_true ⟨q.2.1, q.2.2.2⟩⟩) (cb_pos (c := is_c (is_l a 36) 0) (decide_eq_true ⟨by omega, rfl⟩) 36 hc.1) (k := k) (by rw [jn_pk a 36 (Nat.le_refl _), hk]) (7 - k)
  rw [show k + (7 - k) = 7 by omega] at h
  exact h
theorem jn_sub {a : Nat → Int32} {L : List (Nat × Nat × Int64)} (hL : gp_ok a L) (d : Nat → Nat) (r c : Nat) (h : jn_i L d (jn_0 a) r c = true) : jn_p a c = true :=
  jn_iin L d (jn_0 a) (fun c => jn_p a c = true) (jn_0p a) (fun j hj => by
    have q := gp_at hL hj
    exact ⟨decide_eq_true ⟨by omega, q.2.2.1⟩, decide_eq_true ⟨q.2.1, q.2.2.2⟩⟩) r c h
/-- a solution -/
def so_S (a : Nat → Int32) (L : List (Nat × Nat × Int64)) (d : Nat → Nat) : Prop := so_M a L d ∧ so_A L d L.length ∧ so_J a L d
