/-- the bit of a cell, as both sides write it -/
def sh_b (c : Nat) : Int64 := (1 : Int64) <<< ((nI c).toInt64 &&& 63)
/-- the scan from cell p by steps of s, m cells at most: the next island and the cells passed -/
def sc_g (a : Nat → Int32) (s : Nat) : Nat → Nat → Int64 → Option (Nat × Int64)
  | 0, _, _ => none
  | m + 1, p, b => if a (p + s) = 0 then sc_g a s m (p + s) (b ||| sh_b (p + s)) else some (p + s, b)
theorem sc_s0 {a : Nat → Int32} {s m p : Nat} {b : Int64} (h : a (p + s) = 0) : sc_g a s (m + 1) p b = sc_g a s m (p + s) (b ||| sh_b (p + s)) := if_pos h
theorem sc_s1 {a : Nat → Int32} {s m p : Nat} {b : Int64} (h : ¬ a (p + s) = 0) : sc_g a s (m + 1) p b = some (p + s, b) := if_neg h
theorem sc_ok (a : Nat → Int32) (s : Nat) (hs : 0 < s) : ∀ (m p : Nat) (b : Int64) (x : Nat × Int64), sc_g a s m p b = some x → p < x.1 ∧ x.1 ≤ p + m * s ∧ ¬ a x.1 = 0 := by
  intro m
  induction m with
  | zero => intro p b x h; exact absurd h (by intro q; cases q)
  | succ m ih =>
    intro p b x h
    have e : (m + 1) * s = m * s + s := Nat.succ_mul m s
    by_cases z : a (p + s) = 0
    · rw [sc_s0 z] at h
      have := ih _ _ _ h
      exact ⟨by omega, by omega, this.2.2⟩
    · rw [sc_s1 z] at h
      cases h
      exact ⟨by show p < p + s; omega, by show p + s ≤ p + (m + 1) * s; omega, z⟩
def sc_1 (c : Nat) : Option (Nat × Int64) → List (Nat × Nat × Int64)
  | none => []
  | some x => [(c, x.1, x.2)]
def sc_r (a : Nat → Int32) (c : Nat) : Option (Nat × Int64) := sc_g a 1 (5 - c % 6) c 0
def sc_d (a : Nat → Int32) (c : Nat) : Option (Nat × Int64) := sc_g a 6 (5 - c / 6) c 0
/-- the gaps that begin at the cells of a list -/
def gp_l (a : Nat → Int32) (l : List Nat) : List (Nat × Nat × Int64) := l.flatMap (fun c => sc_1 c (sc_r a c) ++ sc_1 c (sc_d a c))
theorem gp_0 (a : Nat → Int32) : gp_l a [] = [] := rfl
theorem gp_s (a : Nat → Int32) (l : List Nat) (c : Nat) : gp_l a (l ++ [c]) = (gp_l a l ++ sc_1 c (sc_r a c)) ++ sc_1 c (sc_d a c) := by
  unfold gp_l
  rw [List.flatMap_append, List.flatMap_singleton, List.append_assoc]
theorem sc_1len (c : Nat) (o : Option (Nat × Int64)) : (sc_1 c o).length ≤ 1 := by
  cases o with
  | none => exact Nat.zero_le _
  | some x => exact Nat.le_refl _
theorem gp_len (a : Nat → Int32) (l : List Nat) : (gp_l a l).length ≤ 2 * l.length := by
  induction l with
  | nil => exact Nat.le_refl _
  | cons c t ih =>
    have e : gp_l a (c :: t) = (sc_1 c (sc_r a c) ++ sc_1 c (sc_d a c)) ++ gp_l a t := by
      unfold gp_l
      rw [List.flatMap_cons]
    have h1 := sc_1len c (sc_r a c)
    have h2 := sc_1len c (sc_d a c)
    rw [e, List.length_append, List.length_append, List.length_cons]
    omega
/-- near end, far end, cells between of gap g -/
def gp_n (L : List (Nat × Nat × Int64)) (g : Nat) : Nat := (L.getD g (0, 0, 0)).1
def gp_f (L : List (Nat × Nat × Int64)) (g : Nat) : Nat := (L.getD g (0, 0, 0)).2.1
def gp_b (L : List (Nat × Nat × Int64)) (g : Nat) : Int64 := (L.getD g (0, 0, 0)).2.2
def gp_M (L : List (Nat × Nat × Int64)) (n f : Nat → Int32) (b : Nat → Int64) : Prop := ∀ g, g < L.length → n g = nI (gp_n L g) ∧ f g = nI (gp_f L g) ∧ b g = gp_b L g
theorem gp_M0 (n f : Nat → Int32) (b : Nat → Int64) : gp_M [] n f b := fun i h => absurd h (Nat.not_lt_zero i)
theorem gp_dl (L t : List (Nat × Nat × Int64)) {i : Nat} (h : i < L.length) : (L ++ t).getD i (0, 0, 0) = L.getD i (0, 0, 0) := by
  rw [List.getD_eq_getElem?_getD, List.getD_eq_getElem?_getD, List.getElem?_append_left h]
theorem gp_dn (L : List (Nat × Nat × Int64)) (x : Nat × Nat × Int64) : (L ++ [x]).getD L.length (0, 0, 0) = x := by
  rw [List.getD_eq_getElem?_getD, List.getElem?_append_right (Nat.le_refl _), Nat.sub_self]
  rfl
theorem gp_M1 {L : List (Nat × Nat × Int64)} {n f : Nat → Int32} {b : Nat → Int64} (h : gp_M L n f b) (x y : Nat) (z : Int64) : gp_M (L ++ [(x, y, z)]) (upd n L.length (nI x)) (upd f L.length (nI y)) (vp_updL b L.length z) := by
  intro i hi
  rw [List.length_append, List.length_singleton] at hi
  unfold gp_n gp_f gp_b
  by_cases e : i = L.length
  · subst e
    rw [pk_us, pk_us, pk_uLs, gp_dn]
    exact ⟨rfl, rfl, rfl⟩
  · rw [pk_un e, pk_un e, pk_uLn e, gp_dl L _ (show i < L.length by omega)]
    exact h i (by omega)
/-- the ends of every gap are two different islands of the board -/
def gp_ok (a : Nat → Int32) (L : List (Nat × Nat × Int64)) : Prop := ∀ x, x ∈ L → x.1 < x.2.1 ∧ x.2.1 < 36 ∧ ¬ a x.1 = 0 ∧ ¬ a x.2.1 = 0
theorem gp_l_ok (a : Nat → Int32) (n : Nat) (hn : n ≤ 36) : gp_ok a (gp_l a (is_l a n)) := by
  intro x hx
  obtain ⟨c, hc, h⟩ := List.mem_flatMap.mp hx
  have hc := (is_mem a c n).mp hc
  have key : ∀ (s m : Nat) (o : Option (Nat × Int64)), 0 < s → c + m * s < 36 → o = sc_g a s m c 0 → x ∈ sc_1 c o → x.1 < x.2.1 ∧ x.2.1 < 36 ∧ ¬ a x.1 = 0 ∧ ¬ a x.2.1 = 0 := by
    intro s m o hs hm ho hxo
    cases o with
    | none => exact absurd hxo List.not_mem_nil
    | some y =>
      have e : x = (c, y.1, y.2) := List.mem_singleton.mp hxo
      have q := sc_ok a s hs m c 0 y ho.symm
      rw [e]
      exact ⟨q.1, by show y.1 < 36; omega, hc.2, q.2.2⟩
  rcases List.mem_append.mp h with h | h
  · exact key 1 (5 - c % 6) _ (by omega) (by omega) rfl h
  · exact key 6 (5 - c / 6) _ (by omega) (by omega) rfl h
theorem gp_at {a : Nat → Int32} {L : List (Nat × Nat × Int64)} (h : gp_ok a L) {g : Nat} (hg : g < L.length) : gp_n L g < gp_f L g ∧ gp_f L g < 36 ∧ ¬ a (gp_n L g) = 0 ∧ ¬ a (gp_f L g) = 0 := by
  unfold gp_n gp_f
  rw [List.getD_eq_getElem?_getD, List.getElem?_eq_getElem hg]
  exact h _ (List.getElem_mem hg)
