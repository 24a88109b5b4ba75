/-- the islands below cell n, in order -/
def is_l (a : Nat → Int32) : Nat → List Nat
  | 0 => []
  | n + 1 => if a n = 0 then is_l a n else is_l a n ++ [n]
theorem is_s0 {a : Nat → Int32} {n : Nat} (h : a n = 0) : is_l a (n + 1) = is_l a n := if_pos h
theorem is_s1 {a : Nat → Int32} {n : Nat} (h : ¬ a n = 0) : is_l a (n + 1) = is_l a n ++ [n] := if_neg h
theorem is_pre (a : Nat → Int32) (n : Nat) : ∀ d : Nat, ∃ t : List Nat, is_l a (n + d) = is_l a n ++ t := by
  intro d
  induction d with
  | zero => exact ⟨[], by rw [List.append_nil]; rfl⟩
  | succ d ih =>
    obtain ⟨t, e⟩ := ih
    by_cases z : a (n + d) = 0
    · exact ⟨t, (is_s0 z).trans e⟩
    · refine ⟨t ++ [n + d], (is_s1 z).trans ?_⟩
      rw [e, List.append_assoc]
theorem is_pre' (a : Nat → Int32) {n m : Nat} (h : n ≤ m) : ∃ t : List Nat, is_l a m = is_l a n ++ t := by
  obtain ⟨t, e⟩ := is_pre a n (m - n)
  rw [show n + (m - n) = m by omega] at e
  exact ⟨t, e⟩
theorem is_len (a : Nat → Int32) {n m : Nat} (h : n ≤ m) : (is_l a n).length ≤ (is_l a m).length := by
  obtain ⟨t, e⟩ := is_pre' a h
  rw [e, List.length_append]
  omega
theorem is_full (a : Nat → Int32) {n m : Nat} (h : n ≤ m) (hl : (is_l a m).length ≤ (is_l a n).length) : is_l a m = is_l a n := by
  obtain ⟨t, e⟩ := is_pre' a h
  rw [e, List.length_append] at hl
  have ht : t = [] := List.eq_nil_of_length_eq_zero (by omega)
  rw [e, ht, List.append_nil]
theorem is_mem (a : Nat → Int32) (c : Nat) : ∀ n : Nat, c ∈ is_l a n ↔ c < n ∧ ¬ a c = 0 := by
  intro n
  induction n with
  | zero => exact ⟨fun h => absurd h List.not_mem_nil, fun h => absurd h.1 (Nat.not_lt_zero c)⟩
  | succ n ih =>
    by_cases z : a n = 0
    · rw [is_s0 z, ih]
      constructor
      · exact fun h => ⟨by omega, h.2⟩
      · intro h
        refine ⟨?_, h.2⟩
        have : c ≠ n := fun e => h.2 (e ▸ z)
        omega
    · rw [is_s1 z, List.mem_append, ih, List.mem_singleton]
      constructor
      · rintro (h | h)
        · exact ⟨by omega, h.2⟩
        · exact ⟨by omega, h ▸ z⟩
      · intro h
        by_cases e : c = n
        · exact Or.inr e
        · exact Or.inl ⟨by omega, h.2⟩
/-- the i-th island -/
def is_c (l : List Nat) (i : Nat) : Nat := l.getD i 0
theorem is_cm (l : List Nat) {i : Nat} (h : i < l.length) : is_c l i ∈ l := by
  unfold is_c
  rw [List.getD_eq_getElem?_getD, List.getElem?_eq_getElem h]
  exact List.getElem_mem h
theorem is_ca (l t : List Nat) {i : Nat} (h : i < l.length) : is_c (l ++ t) i = is_c l i := by
  unfold is_c
  rw [List.getD_eq_getElem?_getD, List.getD_eq_getElem?_getD, List.getElem?_append_left h]
theorem is_cn (l : List Nat) (x : Nat) : is_c (l ++ [x]) l.length = x := by
  unfold is_c
  rw [List.getD_eq_getElem?_getD, List.getElem?_append_right (Nat.le_refl _), Nat.sub_self]
  rfl
theorem is_ex (l : List Nat) {x : Nat} (h : x ∈ l) : ∃ i, i < l.length ∧ is_c l i = x := by
  obtain ⟨i, hi, e⟩ := List.mem_iff_getElem.mp h
  refine ⟨i, hi, ?_⟩
  unfold is_c
  rw [List.getD_eq_getElem?_getD, List.getElem?_eq_getElem hi]
  exact e
theorem is_tk (l : List Nat) {i : Nat} (h : i < l.length) : l.take (i + 1) = l.take i ++ [is_c l i] := by
  unfold is_c
  rw [List.take_add_one, List.getD_eq_getElem?_getD, List.getElem?_eq_getElem h]
  rfl
theorem is_c36 (a : Nat → Int32) {i : Nat} (h : i < (is_l a 36).length) : is_c (is_l a 36) i < 36 ∧ ¬ a (is_c (is_l a 36) i) = 0 :=
  (is_mem a _ 36).mp (is_cm _ h)
/-- the array that holds a list of cells -/
def is_M (l : List Nat) (p : Nat → Int32) : Prop := ∀ i, i < l.length → p i = nI (is_c l i)
theorem is_M0 (p : Nat → Int32) : is_M [] p := fun i h => absurd h (Nat.not_lt_zero i)
theorem is_M1 {l : List Nat} {p : Nat → Int32} (h : is_M l p) (x : Nat) : is_M (l ++ [x]) (upd p l.length (nI x)) := by
  intro i hi
  rw [List.length_append, List.length_singleton] at hi
  by_cases e : i = l.length
  · subst e
    rw [pk_us, is_cn]
  · rw [pk_un e, is_ca l [x] (by omega)]
    exact h i (by omega)
/-- a write changes the number of islands by one at most, and not where an island stands -/
theorem is_ul (a : Nat → Int32) (c : Nat) (v : Int32) : ∀ n : Nat, (is_l (upd a c v) n).length ≤ (is_l a n).length + 1 ∧ (n ≤ c → (is_l (upd a c v) n).length = (is_l a n).length) ∧ (¬ a c = 0 → (is_l (upd a c v) n).length ≤ (is_l a n).length) := by
  intro n
  induction n with
  | zero => exact ⟨Nat.zero_le _, fun _ => rfl, fun _ => Nat.le_refl _⟩
  | succ n ih =>
    by_cases e : n = c
    · subst e
      have h0 := ih.2.1 (Nat.le_refl _)
      have h1 : (is_l (upd a n v) (n + 1)).length ≤ (is_l (upd a n v) n).length + 1 := by
        by_cases z : upd a n v n = 0
        · rw [is_s0 z]; omega
        · rw [is_s1 z, List.length_append, List.length_singleton]; omega
      have h2 := is_len a (show n ≤ n + 1 by omega)
      refine ⟨by omega, fun h => by omega, fun z => ?_⟩
      rw [is_s1 z, List.length_append, List.length_singleton]
      omega
    · have u : upd a c v n = a n := pk_un e
      by_cases z : a n = 0
      · rw [is_s0 z, is_s0 (u.trans z)]
        exact ⟨ih.1, fun h => ih.2.1 (by omega), ih.2.2⟩
      · rw [is_s1 z, is_s1 (fun q => z (u.symm.trans q)), List.length_append, List.length_append, List.length_singleton]
        exact ⟨by omega, fun h => by have := ih.2.1 (by omega); omega, fun q => by have := ih.2.2 q; omega⟩
/-- the first island: where none stands before it -/
theorem is_fst (a : Nat → Int32) {c : Nat} (hc : c < 36) (z : ¬ a c = 0) (h : is_l a c = []) : 0 < (is_l a 36).length ∧ is_c (is_l a 36) 0 = c := by
  obtain ⟨t, e⟩ := is_pre' a (show c + 1 ≤ 36 by omega)
  rw [is_s1 z, h, List.nil_append] at e
  rw [e]
  exact ⟨Nat.succ_pos _, rfl⟩
theorem is_nfst (a : Nat → Int32) {c : Nat} (hc : c ≤ 36) (h : ¬ is_l a c = []) : is_c (is_l a 36) 0 < c := by
  obtain ⟨t, e⟩ := is_pre' a hc
  have hp : 0 < (is_l a c).length := Nat.pos_of_ne_zero (fun z => h (List.eq_nil_of_length_eq_zero z))
  rw [e, is_ca _ _ hp]
  exact ((is_mem a _ c).mp (is_cm _ hp)).1
