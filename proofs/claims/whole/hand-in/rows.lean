section
theorem pk_us {f : Nat → Int32} {k : Nat} {x : Int32} : upd f k x k = x := if_pos rfl
theorem pk_un {f : Nat → Int32} {k j : Nat} {x : Int32} (h : j ≠ k) : upd f k x j = f j := if_neg h
theorem pk_uLs {f : Nat → Int64} {k : Nat} {x : Int64} : vp_updL f k x k = x := if_pos rfl
theorem pk_uLn {f : Nat → Int64} {k j : Nat} {x : Int64} (h : j ≠ k) : vp_updL f k x j = f j := if_neg h
theorem pk_sub {a b : Nat} (h : b ≤ a) : nI a - nI b = nI (a - b) := by
  obtain ⟨c, rfl⟩ : ∃ c, a = c + b := ⟨a - b, by omega⟩
  rw [← nI_add, Int32.add_sub_cancel, Nat.add_sub_cancel]
theorem pk_m1 (n : Nat) : nI (n + 1) + (-1) = nI n := by
  rw [← nI_1, Int32.add_assoc, show (1 : Int32) + (-1) = 0 from rfl, Int32.add_zero]
theorem pk_mul (a b : Nat) : nI a * nI b = nI (a * b) := (Int32.ofNat_mul a b).symm
theorem pk_div {a d : Nat} (ha : a < 2 ^ 31) (h0 : 0 < d) (hd : d < 2 ^ 31) : nI a / nI d = nI (a / d) := by
  apply Int32.toInt_inj.mp
  rw [lg_idiv_nonneg (by rw [nI_toInt ha]; omega) (by rw [nI_toInt hd]; omega), nI_toInt ha, nI_toInt hd, nI_toInt (Nat.lt_of_le_of_lt (Nat.div_le_self a d) ha)]
  first | rfl | exact (Int.natCast_ediv _ _).symm
theorem pk_rem {a d : Nat} (ha : a < 2 ^ 31) (h0 : 0 < d) (hd : d < 2 ^ 31) : nI a - nI a / nI d * nI d = nI (a % d) := by
  rw [pk_div ha h0 hd, pk_mul, pk_sub (Nat.div_mul_le_self a d)]
  exact congrArg nI (by have := Nat.div_add_mod' a d; omega)
theorem pk_sub_toInt {a b : Nat} (ha : a < 2 ^ 30) (hb : b < 2 ^ 30) : (nI a - nI b).toInt = (a : Int) - b := by
  rw [Int32.toInt_sub, nI_toInt (by omega), nI_toInt (by omega)]
  exact Int.bmod_eq_of_le (by omega) (by omega)
theorem pk_ix (x : Int32) {n : Nat} (hn : n < 2 ^ 31) : x < 0 ∨ nI n ≤ x ∨ ∃ j : Nat, j < n ∧ x = nI j := by
  by_cases h : x < 0
  · exact Or.inl h
  · obtain ⟨j, hj, rfl⟩ := nI_of h
    by_cases h2 : j < n
    · exact Or.inr (Or.inr ⟨j, h2, rfl⟩)
    · exact Or.inr (Or.inl (nI_le (by omega) hj))
theorem pk_le {x y : Int32} {A B : Prop} (a b : Nat) (f : a ≤ b → A) (g : b < a → B) (hx : x = nI a := by rfl) (hy : y = nI b := by rfl) (ha : a < 2 ^ 31 := by omega) (hb : b < 2 ^ 31 := by omega) : (x ≤ y → A) ∧ (¬ x ≤ y → B) := by
  subst hx hy
  rw [nI_leI ha hb]
  exact ⟨f, fun z => g (by omega)⟩
theorem pk_lt {x y : Int32} {A B : Prop} (a b : Nat) (f : a < b → A) (g : b ≤ a → B) (hx : x = nI a := by rfl) (hy : y = nI b := by rfl) (ha : a < 2 ^ 31 := by omega) (hb : b < 2 ^ 31 := by omega) : (x < y → A) ∧ (¬ x < y → B) := by
  subst hx hy
  rw [nI_ltI ha hb]
  exact ⟨f, fun z => g (by omega)⟩
theorem pk_eq {x y : Int32} {A B : Prop} (a b : Nat) (f : a = b → A) (g : a ≠ b → B) (hx : x = nI a := by rfl) (hy : y = nI b := by rfl) (ha : a < 2 ^ 31 := by omega) (hb : b < 2 ^ 31 := by omega) : (x = y → A) ∧ (¬ x = y → B) := by
  subst hx hy
  rw [nI_eq ha hb]
  exact ⟨f, g⟩
theorem pk_in {x : Int32} (n N : Nat) (h : n < N) (hx : x = nI n := by rfl) (hN : N < 2 ^ 31 := by omega) : vp_in x N := by
  subst hx
  exact vp_in_nI h hN
theorem pk_cl {x : Int32} (n : Nat) (hx : x = nI n := by rfl) (h : n < 2 ^ 31 := by omega) : x.toNatClampNeg = n := by
  subst hx
  exact nI_clamp h
theorem pk_tn {n : Nat} (h : n < 2 ^ 32) : (nI n).toBitVec.toNat = n := Nat.mod_eq_of_lt h
theorem pk_loop {σ : Type} (W : Nat → Nat → σ → Prop) (I : Nat → σ → Prop) (e i0 : Nat) (s : σ) (hi : i0 ≤ e) (h0 : I i0 s) (hx : ∀ n s, I e s → W (n + 1) e s)
    (hs : ∀ n i s, i < e → I i s → (∀ s', I (i + 1) s' → W n (i + 1) s') → W (n + 1) i s) : ∃ n, W n i0 s :=
  ⟨e + 1, loop_i W I e hx hs (e + 1) i0 s hi (by omega) h0⟩
theorem pk_loopD {σ : Type} (W : Nat → Nat → σ → Prop) (I : Nat → σ → Prop) (hx : ∀ n s, I 0 s → W (n + 1) 0 s)
    (hs : ∀ n i s, I (i + 1) s → (∀ s', I i s' → W n i s') → W (n + 1) (i + 1) s) : ∀ (e : Nat) (s : σ), I e s → W (e + 1) e s := by
  intro e
  induction e with
  | zero => exact fun s h => hx 0 s h
  | succ e ih => exact fun s h => hs (e + 1) e s h (fun s' h' => ih s' h')
theorem pk_least (P : Nat → Prop) (h : ∃ k, P k) : ∃ k, P k ∧ ∀ j, j < k → ¬ P j := by
  obtain ⟨k, hk⟩ := h
  induction k using Nat.strongRecOn with
  | ind k ih =>
    by_cases e : ∃ j, j < k ∧ P j
    · obtain ⟨j, hj, pj⟩ := e
      exact ih j hj pj
    · exact ⟨k, hk, fun j hj pj => e ⟨j, hj, pj⟩⟩
theorem ek_if {c d A B : Prop} (e : c ↔ d) (f : d → A) (g : ¬ d → B) : (c → A) ∧ (¬ c → B) :=
  ⟨fun z => f (e.mp z), fun z => g (fun y => z (e.mpr y))⟩
theorem wb_tb (n : Nat) : (lN n).toBitVec = BitVec.ofNat 64 n := rfl
theorem wb_inj {a b : Int64} (h : a.toBitVec = b.toBitVec) : a = b := Int64.toBitVec_inj.mp h
theorem wb_c : ∀ k, k < 64 → ((nI k).toInt64 &&& 63) = lN k := by decide +kernel
theorem wb_sm : ∀ k, k < 64 → (BitVec.ofNat 64 k).smod 64 = BitVec.ofNat 64 k := by decide +kernel
theorem wb_shl (n : Nat) {k : Nat} (hk : k < 64) : lN n <<< ((nI k).toInt64 &&& 63) = lN (n * 2 ^ k) := by
  rw [wb_c k hk]
  apply wb_inj
  rw [Int64.toBitVec_shiftLeft, wb_tb, wb_tb, wb_tb, wb_sm k hk]
  apply BitVec.eq_of_toNat_eq
  rw [BitVec.shiftLeft_eq', BitVec.toNat_shiftLeft, BitVec.toNat_ofNat, BitVec.toNat_ofNat, BitVec.toNat_ofNat, Nat.mod_eq_of_lt (show k < 2 ^ 64 by omega), Nat.shiftLeft_eq, Nat.mul_mod, Nat.mod_mod, ← Nat.mul_mod]
end
section
/-- the islands below cell n, in order -/
def is_l (a : Nat → Int32) : Nat → List Nat
  | 0 => []
  | n + 1 => if a n = 0 then is_l a n else is_l a n ++ [n]
theorem is_s0 {a : Nat → Int32} {n : Nat} (h : a n = 0) : is_l a (n + 1) = is_l a n := if_pos h
theorem is_s1 {a : Nat → Int32} {n : Nat} (h : ¬ a n = 0) : is_l a (n + 1) = is_l a n ++ [n] := if_neg h
theorem is_pre (a : Nat → Int32) (n : Nat) : ∀ d : Nat, ∃ t : List Nat, is_l a (n + d) = is_l a n ++ t := by
  intro d
  induction d with
  | zero => exact ⟨[], by rw [List.append_nil]; rfl⟩
  | succ d ih =>
    obtain ⟨t, e⟩ := ih
    by_cases z : a (n + d) = 0
    · exact ⟨t, (is_s0 z).trans e⟩
    · refine ⟨t ++ [n + d], (is_s1 z).trans ?_⟩
      rw [e, List.append_assoc]
theorem is_pre' (a : Nat → Int32) {n m : Nat} (h : n ≤ m) : ∃ t : List Nat, is_l a m = is_l a n ++ t := by
  obtain ⟨t, e⟩ := is_pre a n (m - n)
  rw [show n + (m - n) = m by omega] at e
  exact ⟨t, e⟩
theorem is_len (a : Nat → Int32) {n m : Nat} (h : n ≤ m) : (is_l a n).length ≤ (is_l a m).length := by
  obtain ⟨t, e⟩ := is_pre' a h
  rw [e, List.length_append]
  omega
theorem is_full (a : Nat → Int32) {n m : Nat} (h : n ≤ m) (hl : (is_l a m).length ≤ (is_l a n).length) : is_l a m = is_l a n := by
  obtain ⟨t, e⟩ := is_pre' a h
  rw [e, List.length_append] at hl
  have ht : t = [] := List.eq_nil_of_length_eq_zero (by omega)
  rw [e, ht, List.append_nil]
theorem is_mem (a : Nat → Int32) (c : Nat) : ∀ n : Nat, c ∈ is_l a n ↔ c < n ∧ ¬ a c = 0 := by
  intro n
  induction n with
  | zero => exact ⟨fun h => absurd h List.not_mem_nil, fun h => absurd h.1 (Nat.not_lt_zero c)⟩
  | succ n ih =>
    by_cases z : a n = 0
    · rw [is_s0 z, ih]
      constructor
      · exact fun h => ⟨by omega, h.2⟩
      · intro h
        refine ⟨?_, h.2⟩
        have : c ≠ n := fun e => h.2 (e ▸ z)
        omega
    · rw [is_s1 z, List.mem_append, ih, List.mem_singleton]
      constructor
      · rintro (h | h)
        · exact ⟨by omega, h.2⟩
        · exact ⟨by omega, h ▸ z⟩
      · intro h
        by_cases e : c = n
        · exact Or.inr e
        · exact Or.inl ⟨by omega, h.2⟩
/-- the i-th island -/
def is_c (l : List Nat) (i : Nat) : Nat := l.getD i 0
theorem is_cm (l : List Nat) {i : Nat} (h : i < l.length) : is_c l i ∈ l := by
  unfold is_c
  rw [List.getD_eq_getElem?_getD, List.getElem?_eq_getElem h]
  exact List.getElem_mem h
theorem is_ca (l t : List Nat) {i : Nat} (h : i < l.length) : is_c (l ++ t) i = is_c l i := by
  unfold is_c
  rw [List.getD_eq_getElem?_getD, List.getD_eq_getElem?_getD, List.getElem?_append_left h]
theorem is_cn (l : List Nat) (x : Nat) : is_c (l ++ [x]) l.length = x := by
  unfold is_c
  rw [List.getD_eq_getElem?_getD, List.getElem?_append_right (Nat.le_refl _), Nat.sub_self]
  rfl
theorem is_ex (l : List Nat) {x : Nat} (h : x ∈ l) : ∃ i, i < l.length ∧ is_c l i = x := by
  obtain ⟨i, hi, e⟩ := List.mem_iff_getElem.mp h
  refine ⟨i, hi, ?_⟩
  unfold is_c
  rw [List.getD_eq_getElem?_getD, List.getElem?_eq_getElem hi]
  exact e
theorem is_tk (l : List Nat) {i : Nat} (h : i < l.length) : l.take (i + 1) = l.take i ++ [is_c l i] := by
  unfold is_c
  rw [List.take_add_one, List.getD_eq_getElem?_getD, List.getElem?_eq_getElem h]
  rfl
theorem is_c36 (a : Nat → Int32) {i : Nat} (h : i < (is_l a 36).length) : is_c (is_l a 36) i < 36 ∧ ¬ a (is_c (is_l a 36) i) = 0 :=
  (is_mem a _ 36).mp (is_cm _ h)
/-- the array that holds a list of cells -/
def is_M (l : List Nat) (p : Nat → Int32) : Prop := ∀ i, i < l.length → p i = nI (is_c l i)
theorem is_M0 (p : Nat → Int32) : is_M [] p := fun i h => absurd h (Nat.not_lt_zero i)
theorem is_M1 {l : List Nat} {p : Nat → Int32} (h : is_M l p) (x : Nat) : is_M (l ++ [x]) (upd p l.length (nI x)) := by
  intro i hi
  rw [List.length_append, List.length_singleton] at hi
  by_cases e : i = l.length
  · subst e
    rw [pk_us, is_cn]
  · rw [pk_un e, is_ca l [x] (by omega)]
    exact h i (by omega)
/-- a write changes the number of islands by one at most, and not where an island stands -/
theorem is_ul (a : Nat → Int32) (c : Nat) (v : Int32) : ∀ n : Nat, (is_l (upd a c v) n).length ≤ (is_l a n).length + 1 ∧ (n ≤ c → (is_l (upd a c v) n).length = (is_l a n).length) ∧ (¬ a c = 0 → (is_l (upd a c v) n).length ≤ (is_l a n).length) := by
  intro n
  induction n with
  | zero => exact ⟨Nat.zero_le _, fun _ => rfl, fun _ => Nat.le_refl _⟩
  | succ n ih =>
    by_cases e : n = c
    · subst e
      have h0 := ih.2.1 (Nat.le_refl _)
      have h1 : (is_l (upd a n v) (n + 1)).length ≤ (is_l (upd a n v) n).length + 1 := by
        by_cases z : upd a n v n = 0
        · rw [is_s0 z]; omega
        · rw [is_s1 z, List.length_append, List.length_singleton]; omega
      have h2 := is_len a (show n ≤ n + 1 by omega)
      refine ⟨by omega, fun h => by omega, fun z => ?_⟩
      rw [is_s1 z, List.length_append, List.length_singleton]
      omega
    · have u : upd a c v n = a n := pk_un e
      by_cases z : a n = 0
      · rw [is_s0 z, is_s0 (u.trans z)]
        exact ⟨ih.1, fun h => ih.2.1 (by omega), ih.2.2⟩
      · rw [is_s1 z, is_s1 (fun q => z (u.symm.trans q)), List.length_append, List.length_append, List.length_singleton]
        exact ⟨by omega, fun h => by have := ih.2.1 (by omega); omega, fun q => by have := ih.2.2 q; omega⟩
/-- the first island: where none stands before it -/
theorem is_fst (a : Nat → Int32) {c : Nat} (hc : c < 36) (z : ¬ a c = 0) (h : is_l a c = []) : 0 < (is_l a 36).length ∧ is_c (is_l a 36) 0 = c := by
  obtain ⟨t, e⟩ := is_pre' a (show c + 1 ≤ 36 by omega)
  rw [is_s1 z, h, List.nil_append] at e
  rw [e]
  exact ⟨Nat.succ_pos _, rfl⟩
theorem is_nfst (a : Nat → Int32) {c : Nat} (hc : c ≤ 36) (h : ¬ is_l a c = []) : is_c (is_l a 36) 0 < c := by
  obtain ⟨t, e⟩ := is_pre' a hc
  have hp : 0 < (is_l a c).length := Nat.pos_of_ne_zero (fun z => h (List.eq_nil_of_length_eq_zero z))
  rw [e, is_ca _ _ hp]
  exact ((is_mem a _ c).mp (is_cm _ hp)).1
end
section
/-- the bit of a cell, as both sides write it -/
def sh_b (c : Nat) : Int64 := (1 : Int64) <<< ((nI c).toInt64 &&& 63)
/-- the scan from cell p by steps of s, m cells at most: the next island and the cells passed -/
def sc_g (a : Nat → Int32) (s : Nat) : Nat → Nat → Int64 → Option (Nat × Int64)
  | 0, _, _ => none
  | m + 1, p, b => if a (p + s) = 0 then sc_g a s m (p + s) (b ||| sh_b (p + s)) else some (p + s, b)
theorem sc_s0 {a : Nat → Int32} {s m p : Nat} {b : Int64} (h : a (p + s) = 0) : sc_g a s (m + 1) p b = sc_g a s m (p + s) (b ||| sh_b (p + s)) := if_pos h
theorem sc_s1 {a : Nat → Int32} {s m p : Nat} {b : Int64} (h : ¬ a (p + s) = 0) : sc_g a s (m + 1) p b = some (p + s, b) := if_neg h
theorem sc_ok (a : Nat → Int32) (s : Nat) (hs : 0 < s) : ∀ (m p : Nat) (b : Int64) (x : Nat × Int64), sc_g a s m p b = some x → p < x.1 ∧ x.1 ≤ p + m * s ∧ ¬ a x.1 = 0 := by
  intro m
  induction m with
  | zero => intro p b x h; exact absurd h (by intro q; cases q)
  | succ m ih =>
    intro p b x h
    have e : (m + 1) * s = m * s + s := Nat.succ_mul m s
    by_cases z : a (p + s) = 0
    · rw [sc_s0 z] at h
      have := ih _ _ _ h
      exact ⟨by omega, by omega, this.2.2⟩
    · rw [sc_s1 z] at h
      cases h
      exact ⟨by show p < p + s; omega, by show p + s ≤ p + (m + 1) * s; omega, z⟩
def sc_1 (c : Nat) : Option (Nat × Int64) → List (Nat × Nat × Int64)
  | none => []
  | some x => [(c, x.1, x.2)]
def sc_r (a : Nat → Int32) (c : Nat) : Option (Nat × Int64) := sc_g a 1 (5 - c % 6) c 0
def sc_d (a : Nat → Int32) (c : Nat) : Option (Nat × Int64) := sc_g a 6 (5 - c / 6) c 0
/-- the gaps that begin at the cells of a list -/
def gp_l (a : Nat → Int32) (l : List Nat) : List (Nat × Nat × Int64) := l.flatMap (fun c => sc_1 c (sc_r a c) ++ sc_1 c (sc_d a c))
theorem gp_0 (a : Nat → Int32) : gp_l a [] = [] := rfl
theorem gp_s (a : Nat → Int32) (l : List Nat) (c : Nat) : gp_l a (l ++ [c]) = (gp_l a l ++ sc_1 c (sc_r a c)) ++ sc_1 c (sc_d a c) := by
  unfold gp_l
  rw [List.flatMap_append, List.flatMap_singleton, List.append_assoc]
theorem sc_1len (c : Nat) (o : Option (Nat × Int64)) : (sc_1 c o).length ≤ 1 := by
  cases o with
  | none => exact Nat.zero_le _
  | some x => exact Nat.le_refl _
theorem gp_len (a : Nat → Int32) (l : List Nat) : (gp_l a l).length ≤ 2 * l.length := by
  induction l with
  | nil => exact Nat.le_refl _
  | cons c t ih =>
    have e : gp_l a (c :: t) = (sc_1 c (sc_r a c) ++ sc_1 c (sc_d a c)) ++ gp_l a t := by
      unfold gp_l
      rw [List.flatMap_cons]
    have h1 := sc_1len c (sc_r a c)
    have h2 := sc_1len c (sc_d a c)
    rw [e, List.length_append, List.length_append, List.length_cons]
    omega
/-- near end, far end, cells between of gap g -/
def gp_n (L : List (Nat × Nat × Int64)) (g : Nat) : Nat := (L.getD g (0, 0, 0)).1
def gp_f (L : List (Nat × Nat × Int64)) (g : Nat) : Nat := (L.getD g (0, 0, 0)).2.1
def gp_b (L : List (Nat × Nat × Int64)) (g : Nat) : Int64 := (L.getD g (0, 0, 0)).2.2
def gp_M (L : List (Nat × Nat × Int64)) (n f : Nat → Int32) (b : Nat → Int64) : Prop := ∀ g, g < L.length → n g = nI (gp_n L g) ∧ f g = nI (gp_f L g) ∧ b g = gp_b L g
theorem gp_M0 (n f : Nat → Int32) (b : Nat → Int64) : gp_M [] n f b := fun i h => absurd h (Nat.not_lt_zero i)
theorem gp_dl (L t : List (Nat × Nat × Int64)) {i : Nat} (h : i < L.length) : (L ++ t).getD i (0, 0, 0) = L.getD i (0, 0, 0) := by
  rw [List.getD_eq_getElem?_getD, List.getD_eq_getElem?_getD, List.getElem?_append_left h]
theorem gp_dn (L : List (Nat × Nat × Int64)) (x : Nat × Nat × Int64) : (L ++ [x]).getD L.length (0, 0, 0) = x := by
  rw [List.getD_eq_getElem?_getD, List.getElem?_append_right (Nat.le_refl _), Nat.sub_self]
  rfl
theorem gp_M1 {L : List (Nat × Nat × Int64)} {n f : Nat → Int32} {b : Nat → Int64} (h : gp_M L n f b) (x y : Nat) (z : Int64) : gp_M (L ++ [(x, y, z)]) (upd n L.length (nI x)) (upd f L.length (nI y)) (vp_updL b L.length z) := by
  intro i hi
  rw [List.length_append, List.length_singleton] at hi
  unfold gp_n gp_f gp_b
  by_cases e : i = L.length
  · subst e
    rw [pk_us, pk_us, pk_uLs, gp_dn]
    exact ⟨rfl, rfl, rfl⟩
  · rw [pk_un e, pk_un e, pk_uLn e, gp_dl L _ (show i < L.length by omega)]
    exact h i (by omega)
/-- the ends of every gap are two different islands of the board -/
def gp_ok (a : Nat → Int32) (L : List (Nat × Nat × Int64)) : Prop := ∀ x, x ∈ L → x.1 < x.2.1 ∧ x.2.1 < 36 ∧ ¬ a x.1 = 0 ∧ ¬ a x.2.1 = 0
theorem gp_l_ok (a : Nat → Int32) (n : Nat) (hn : n ≤ 36) : gp_ok a (gp_l a (is_l a n)) := by
  intro x hx
  obtain ⟨c, hc, h⟩ := List.mem_flatMap.mp hx
  have hc := (is_mem a c n).mp hc
  have key : ∀ (s m : Nat) (o : Option (Nat × Int64)), 0 < s → c + m * s < 36 → o = sc_g a s m c 0 → x ∈ sc_1 c o → x.1 < x.2.1 ∧ x.2.1 < 36 ∧ ¬ a x.1 = 0 ∧ ¬ a x.2.1 = 0 := by
    intro s m o hs hm ho hxo
    cases o with
    | none => exact absurd hxo List.not_mem_nil
    | some y =>
      have e : x = (c, y.1, y.2) := List.mem_singleton.mp hxo
      have q := sc_ok a s hs m c 0 y ho.symm
      rw [e]
      exact ⟨q.1, by show y.1 < 36; omega, hc.2, q.2.2⟩
  rcases List.mem_append.mp h with h | h
  · exact key 1 (5 - c % 6) _ (by omega) (by omega) rfl h
  · exact key 6 (5 - c / 6) _ (by omega) (by omega) rfl h
theorem gp_at {a : Nat → Int32} {L : List (Nat × Nat × Int64)} (h : gp_ok a L) {g : Nat} (hg : g < L.length) : gp_n L g < gp_f L g ∧ gp_f L g < 36 ∧ ¬ a (gp_n L g) = 0 ∧ ¬ a (gp_f L g) = 0 := by
  unfold gp_n gp_f
  rw [List.getD_eq_getElem?_getD, List.getElem?_eq_getElem hg]
  exact h _ (List.getElem_mem hg)
end
section
/-! bits of a long -/
def bl_t (x : Int64) (i : Nat) : Bool := x.toBitVec.getLsbD i
theorem bl_ext {x y : Int64} (h : ∀ i, i < 64 → bl_t x i = bl_t y i) : x = y := by
  apply Int64.toBitVec_inj.mp
  apply BitVec.eq_of_getLsbD_eq
  intro i hi
  exact h i hi
theorem bl_or (x y : Int64) (i : Nat) : bl_t (x ||| y) i = (bl_t x i || bl_t y i) := by
  unfold bl_t
  rw [Int64.toBitVec_or, BitVec.getLsbD_or]
theorem bl_and (x y : Int64) (i : Nat) : bl_t (x &&& y) i = (bl_t x i && bl_t y i) := by
  unfold bl_t
  rw [Int64.toBitVec_and, BitVec.getLsbD_and]
theorem bl_0 (i : Nat) : bl_t 0 i = false := by
  show (BitVec.ofNat 64 0).getLsbD i = false
  exact BitVec.getLsbD_zero
theorem bl_z {x : Int64} : x = 0 ↔ ∀ i, i < 64 → bl_t x i = false := by
  constructor
  · intro h i _
    rw [h, bl_0]
  · intro h
    exact bl_ext (fun i hi => by rw [h i hi, bl_0])
theorem bl_sh {c i : Nat} (hc : c < 64) (hi : i < 64) : bl_t (sh_b c) i = decide (i = c) := by
  have e : sh_b c = lN (1 * 2 ^ c) := wb_shl 1 hc
  unfold bl_t
  rw [e, wb_tb, BitVec.getLsbD_ofNat, Nat.one_mul, Nat.testBit_two_pow, decide_eq_true hi, Bool.true_and]
  exact decide_eq_decide.mpr ⟨fun h => h.symm, fun h => h.symm⟩
theorem bl_dis (x y z : Int64) : (x ||| y) &&& z = 0 ↔ x &&& z = 0 ∧ y &&& z = 0 := by
  rw [bl_z, bl_z, bl_z]
  constructor
  · intro h
    refine ⟨fun i hi => ?_, fun i hi => ?_⟩
    · have := h i hi
      rw [bl_and, bl_or] at this
      rw [bl_and]
      revert this
      cases bl_t x i <;> cases bl_t y i <;> cases bl_t z i <;> decide
    · have := h i hi
      rw [bl_and, bl_or] at this
      rw [bl_and]
      revert this
      cases bl_t x i <;> cases bl_t y i <;> cases bl_t z i <;> decide
  · intro h i hi
    have h1 := h.1 i hi
    have h2 := h.2 i hi
    rw [bl_and] at h1 h2
    rw [bl_and, bl_or]
    revert h1 h2
    cases bl_t x i <;> cases bl_t y i <;> cases bl_t z i <;> decide
theorem bl_comm (x y : Int64) : x &&& y = y &&& x := Int64.and_comm x y
/-! the sums -/
def sm_m (L : List (Nat × Nat × Int64)) (d : Nat → Nat) (c : Nat) : Nat → Int32
  | 0 => 0
  | g + 1 => if gp_n L g = c ∨ gp_f L g = c then sm_m L d c g + nI (d g) else sm_m L d c g
def so_M (a : Nat → Int32) (L : List (Nat × Nat × Int64)) (d : Nat → Nat) : Prop := ∀ c, c < 36 → ¬ a c = 0 → sm_m L d c L.length = a c
/-! the crossings -/
def so_A (L : List (Nat × Nat × Int64)) (d : Nat → Nat) (n : Nat) : Prop := ∀ g, g < n → ∀ h, h < g → 0 < d g → 0 < d h → gp_b L g &&& gp_b L h = 0
/-- what the first n gaps cover -/
def cv_c (L : List (Nat × Nat × Int64)) (d : Nat → Nat) : Nat → Int64
  | 0 => 0
  | g + 1 => if 0 < d g then cv_c L d g ||| gp_b L g else cv_c L d g
theorem cv_0 (L : List (Nat × Nat × Int64)) (d : Nat → Nat) (z : Int64) : ∀ n, cv_c L d n &&& z = 0 ↔ ∀ h, h < n → 0 < d h → gp_b L h &&& z = 0 := by
  intro n
  induction n with
  | zero =>
    refine ⟨fun _ h hh => absurd hh (Nat.not_lt_zero h), fun _ => ?_⟩
    show (0 : Int64) &&& z = 0
    exact Int64.zero_and
  | succ n ih =>
    by_cases p : 0 < d n
    · have e : cv_c L d (n + 1) = cv_c L d n ||| gp_b L n := if_pos p
      rw [e, bl_dis, ih]
      constructor
      · intro h j hj pj
        by_cases q : j = n
        · exact q ▸ h.2
        · exact h.1 j (by omega) pj
      · exact fun h => ⟨fun j hj pj => h j (by omega) pj, h n (by omega) p⟩
    · have e : cv_c L d (n + 1) = cv_c L d n := if_neg p
      rw [e, ih]
      constructor
      · intro h j hj pj
        by_cases q : j = n
        · exact absurd (q ▸ pj) p
        · exact h j (by omega) pj
      · exact fun h j hj pj => h j (by omega) pj
theorem so_A0 (L : List (Nat × Nat × Int64)) (d : Nat → Nat) : so_A L d 0 := fun g h => absurd h (Nat.not_lt_zero g)
theorem so_As {L : List (Nat × Nat × Int64)} {d : Nat → Nat} {n : Nat} (h : so_A L d n) (hn : 0 < d n → cv_c L d n &&& gp_b L n = 0) : so_A L d (n + 1) := by
  intro g hg j hj pg pj
  by_cases e : g = n
  · subst e
    rw [bl_comm]
    exact (cv_0 L d _ g).mp (hn pg) j hj pj
  · exact h g (by omega) j hj pg pj
theorem so_An {L : List (Nat × Nat × Int64)} {d : Nat → Nat} {n m : Nat} (hm : n < m) (hp : 0 < d n) (h : ¬ cv_c L d n &&& gp_b L n = 0) : ¬ so_A L d m := by
  intro q
  apply h
  rw [cv_0]
  intro j hj pj
  rw [bl_comm]
  exact q n hm j hj hp pj
/-! the joining -/
def jn_r (L : List (Nat × Nat × Int64)) (d : Nat → Nat) (s : Nat → Bool) : Nat → (Nat → Bool)
  | 0 => s
  | g + 1 => if 0 < d g ∧ (jn_r L d s g (gp_n L g) = true ∨ jn_r L d s g (gp_f L g) = true) then (fun c => jn_r L d s g c || decide (c = gp_n L g) || decide (c = gp_f L g)) else jn_r L d s g
def jn_i (L : List (Nat × Nat × Int64)) (d : Nat → Nat) (s : Nat → Bool) : Nat → (Nat → Bool)
  | 0 => s
  | r + 1 => jn_r L d (jn_i L d s r) L.length
theorem jn_up (L : List (Nat × Nat × Int64)) (d : Nat → Nat) (s : Nat → Bool) (c : Nat) (h : s c = true) : ∀ g, jn_r L d s g c = true := by
  intro g
  induction g with
  | zero => exact h
  | succ g ih =>
    by_cases p : 0 < d g ∧ (jn_r L d s g (gp_n L g) = true ∨ jn_r L d s g (gp_f L g) = true)
    · have e : jn_r L d s (g + 1) = (fun c => jn_r L d s g c || decide (c = gp_n L g) || decide (c = gp_f L g)) := if_pos p
      rw [e]
      show (jn_r L d s g c || _ || _) = true
      rw [ih]
      rfl
    · have e : jn_r L d s (g + 1) = jn_r L d s g := if_neg p
      rw [e]
      exact ih
theorem jn_in (L : List (Nat × Nat × Int64)) (d : Nat → Nat) (s : Nat → Bool) (P : Nat → Prop) (h : ∀ c, s c = true → P c) : ∀ g, (∀ j, j < g → P (gp_n L j) ∧ P (gp_f L j)) → ∀ c, jn_r L d s g c = true → P c := by
  intro g
  induction g with
  | zero => exact fun _ => h
  | succ g ih =>
    intro hP c hc
    have ih := ih (fun j hj => hP j (by omega))
    by_cases p : 0 < d g ∧ (jn_r L d s g (gp_n L g) = true ∨ jn_r L d s g (gp_f L g) = true)
    · have e : jn_r L d s (g + 1) = (fun c => jn_r L d s g c || decide (c = gp_n L g) || decide (c = gp_f L g)) := if_pos p
      rw [e] at hc
      have hc : (jn_r L d s g c || decide (c = gp_n L g) || decide (c = gp_f L g)) = true := hc
      rw [Bool.or_eq_true, Bool.or_eq_true, decide_eq_true_eq, decide_eq_true_eq] at hc
      rcases hc with (hc | hc) | hc
      · exact ih c hc
      · exact hc ▸ (hP g (by omega)).1
      · exact hc ▸ (hP g (by omega)).2
    · have e : jn_r L d s (g + 1) = jn_r L d s g := if_neg p
      rw [e] at hc
      exact ih c hc
theorem jn_iin (L : List (Nat × Nat × Int64)) (d : Nat → Nat) (s : Nat → Bool) (P : Nat → Prop) (h : ∀ c, s c = true → P c) (hP : ∀ j, j < L.length → P (gp_n L j) ∧ P (gp_f L j)) : ∀ r c, jn_i L d s r c = true → P c := by
  intro r
  induction r with
  | zero => exact h
  | succ r ih => exact jn_in L d _ P ih L.length hP
/-- how many cells below n a set holds -/
def cb_n (s : Nat → Bool) : Nat → Nat
  | 0 => 0
  | n + 1 => if s n = true then cb_n s n + 1 else cb_n s n
theorem cb_le {s t : Nat → Bool} (h : ∀ c, s c = true → t c = true) : ∀ n, cb_n s n ≤ cb_n t n := by
  intro n
  induction n with
  | zero => exact Nat.le_refl _
  | succ n ih =>
    show (if s n = true then cb_n s n + 1 else cb_n s n) ≤ (if t n = true then cb_n t n + 1 else cb_n t n)
    by_cases p : s n = true
    · rw [if_pos p, if_pos (h n p)]; omega
    · rw [if_neg p]
      split <;> omega
theorem cb_eq {s t : Nat → Bool} (h : ∀ c, s c = true → t c = true) : ∀ n, cb_n t n ≤ cb_n s n → ∀ c, c < n → t c = true → s c = true := by
  intro n
  induction n with
  | zero => exact fun _ c hc => absurd hc (Nat.not_lt_zero c)
  | succ n ih =>
    intro hl c hc tc
    have hl : (if t n = true then cb_n t n + 1 else cb_n t n) ≤ (if s n = true then cb_n s n + 1 else cb_n s n) := hl
    have h0 := cb_le h n
    by_cases p : s n = true
    · rw [if_pos p, if_pos (h n p)] at hl
      by_cases e : c = n
      · exact e ▸ p
      · exact ih (by omega) c (by omega) tc
    · rw [if_neg p] at hl
      by_cases q : t n = true
      · rw [if_pos q] at hl; omega
      · rw [if_neg q] at hl
        by_cases e : c = n
        · exact absurd (e ▸ tc) q
        · exact ih (by omega) c (by omega) tc
theorem jn_fix {L : List (Nat × Nat × Int64)} {d : Nat → Nat} {s : Nat → Bool} {r : Nat} (h : jn_i L d s (r + 1) = jn_i L d s r) : ∀ j, jn_i L d s (r + j) = jn_i L d s r := by
  intro j
  induction j with
  | zero => rfl
  | succ j ih =>
    show jn_r L d (jn_i L d s (r + j)) L.length = _
    rw [ih]
    exact h
theorem jn_grow (L : List (Nat × Nat × Int64)) (d : Nat → Nat) (s : Nat → Bool) (h0 : ∀ r c, jn_i L d s r c = true → c < 36) (h1 : 0 < cb_n s 36) : ∀ j, jn_i L d s (j + 1) = jn_i L d s j ∨ j + 1 ≤ cb_n (jn_i L d s j) 36 := by
  intro j
  induction j with
  | zero => exact Or.inr h1
  | succ j ih =>
    by_cases e : jn_i L d s (j + 1) = jn_i L d s j
    · left
      show jn_r L d (jn_i L d s (j + 1)) L.length = jn_r L d (jn_i L d s j) L.length
      rw [e]
    · right
      have hj := ih.resolve_left e
      have hle : ∀ c, jn_i L d s j c = true → jn_i L d s (j + 1) c = true := fun c hc => jn_up L d _ c hc L.length
      have hm := cb_le hle 36
      by_cases q : cb_n (jn_i L d s (j + 1)) 36 ≤ cb_n (jn_i L d s j) 36
      · exfalso
        apply e
        funext c
        have hb := cb_eq hle 36 q c
        cases h2 : jn_i L d s (j + 1) c with
        | true => exact (hb (h0 _ c h2) h2).symm
        | false =>
          cases h3 : jn_i L d s j c with
          | false => rfl
          | true => exact absurd (hle c h3) (by rw [h2]; decide)
      · omega
theorem jn_end (L : List (Nat × Nat × Int64)) (d : Nat → Nat) (s p : Nat → Bool) (h0 : ∀ c, p c = true → c < 36) (hs : ∀ c, s c = true → p c = true) (hL : ∀ j, j < L.length → p (gp_n L j) = true ∧ p (gp_f L j) = true) (h1 : 0 < cb_n s 36) {k : Nat} (hk : cb_n p 36 = k + 1) : ∀ m, jn_i L d s (k + m) = jn_i L d s k := by
  have hi := jn_iin L d s (fun c => p c = true) hs hL
  rcases jn_grow L d s (fun r c hc => h0 c (hi r c hc)) h1 k with h | h
  · exact jn_fix h
  · apply jn_fix
    have hall := cb_eq (hi k) 36 (by omega)
    funext c
    cases h2 : jn_i L d s (k + 1) c with
    | true => exact (hall c (h0 c (hi _ c h2)) (hi _ c h2)).symm
    | false =>
      cases h3 : jn_i L d s k c with
      | false => rfl
      | true => exact absurd (jn_up L d (jn_i L d s k) c h3 L.length) (by show ¬ jn_i L d s (k + 1) c = true; rw [h2]; decide)
/-- the islands, and the first of them, as sets -/
def jn_p (a : Nat → Int32) : Nat → Bool := fun c => decide (c < 36 ∧ ¬ a c = 0)
def jn_0 (a : Nat → Int32) : Nat → Bool := fun c => decide (0 < (is_l a 36).length ∧ c = is_c (is_l a 36) 0)
theorem jn_pk (a : Nat → Int32) : ∀ n, n ≤ 36 → cb_n (jn_p a) n = (is_l a n).length := by
  intro n
  induction n with
  | zero => exact fun _ => rfl
  | succ n ih =>
    intro hn
    have ih := ih (by omega)
    show (if jn_p a n = true then cb_n (jn_p a) n + 1 else cb_n (jn_p a) n) = _
    by_cases z : a n = 0
    · have q : ¬ jn_p a n = true := fun h => (of_decide_eq_true h).2 z
      rw [if_neg q, is_s0 z, ih]
    · have q : jn_p a n = true := decide_eq_true ⟨by omega, z⟩
      rw [if_pos q, is_s1 z, ih, List.length_append, List.length_singleton]
theorem jn_0p (a : Nat → Int32) (c : Nat) (h : jn_0 a c = true) : jn_p a c = true := by
  have q := of_decide_eq_true h
  exact decide_eq_true (q.2 ▸ is_c36 a q.1)
theorem cb_pos {s : Nat → Bool} {c : Nat} (h : s c = true) : ∀ n, c < n → 0 < cb_n s n := by
  intro n
  induction n with
  | zero => exact fun q => absurd q (Nat.not_lt_zero c)
  | succ n ih =>
    intro hc
    show 0 < (if s n = true then cb_n s n + 1 else cb_n s n)
    by_cases e : c = n
    · rw [if_pos (e ▸ h)]; omega
    · have := ih (by omega)
      split <;> omega
def so_J (a : Nat → Int32) (L : List (Nat × Nat × Int64)) (d : Nat → Nat) : Prop := ∀ c, c < 36 → ¬ a c = 0 → jn_i L d (jn_0 a) 7 c = true
/-- X's fewer rounds end where seven end -/
theorem jn_7 {a : Nat → Int32} {L : List (Nat × Nat × Int64)} (hL : gp_ok a L) (d : Nat → Nat) {k : Nat} (hk : (is_l a 36).length = k + 1) (h7 : k ≤ 7) : jn_i L d (jn_0 a) 7 = jn_i L d (jn_0 a) k := by
  have hc := is_c36 a (show 0 < (is_l a 36).length by omega)
  have h := jn_end L d (jn_0 a) (jn_p a) (fun c h => (of_decide_eq_true h).1) (jn_0p a) (fun j hj => by
    have q := gp_at hL hj
    exact ⟨decide_eq_true ⟨by omega, q.2.2.1⟩, decide_eq_true ⟨q.2.1, q.2.2.2⟩⟩) (cb_pos (c := is_c (is_l a 36) 0) (decide_eq_true ⟨by omega, rfl⟩) 36 hc.1) (k := k) (by rw [jn_pk a 36 (Nat.le_refl _), hk]) (7 - k)
  rw [show k + (7 - k) = 7 by omega] at h
  exact h
theorem jn_sub {a : Nat → Int32} {L : List (Nat × Nat × Int64)} (hL : gp_ok a L) (d : Nat → Nat) (r c : Nat) (h : jn_i L d (jn_0 a) r c = true) : jn_p a c = true :=
  jn_iin L d (jn_0 a) (fun c => jn_p a c = true) (jn_0p a) (fun j hj => by
    have q := gp_at hL hj
    exact ⟨decide_eq_true ⟨by omega, q.2.2.1⟩, decide_eq_true ⟨q.2.1, q.2.2.2⟩⟩) r c h
/-- a solution -/
def so_S (a : Nat → Int32) (L : List (Nat × Nat × Int64)) (d : Nat → Nat) : Prop := so_M a L d ∧ so_A L d L.length ∧ so_J a L d
end
section
/-! digits of base three: gap 0 has the highest -/
def dg_d (G i g : Nat) : Nat := i / 3 ^ (G - 1 - g) % 3
theorem dg_lt (G i g : Nat) : dg_d G i g < 3 := Nat.mod_lt _ (by decide)
theorem dg_p (m : Nat) : 0 < 3 ^ m := Nat.pow_pos (by decide)
theorem dg_0 (G g : Nat) : dg_d G 0 g = 0 := by
  unfold dg_d
  rw [Nat.zero_div]
theorem dg_ps (m : Nat) : 3 ^ (m + 1) = 3 ^ m * 3 := Nat.pow_succ 3 m
/-- the carry stands at gap g: all gaps behind g hold 2 -/
def dg_c (i m : Nat) : Prop := (i + 1) % 3 ^ m = 0
theorem dg_c0 (i : Nat) : dg_c i 0 := Nat.mod_one _
theorem dg_q {i m : Nat} (h : dg_c i m) : ∃ q, i + 1 = (q + 1) * 3 ^ m ∧ i / 3 ^ m = q := by
  have hp := dg_p m
  have e : i + 1 = (i + 1) / 3 ^ m * 3 ^ m := by
    have := Nat.div_add_mod' (i + 1) (3 ^ m)
    unfold dg_c at h
    omega
  cases hq : (i + 1) / 3 ^ m with
  | zero => rw [hq, Nat.zero_mul] at e; omega
  | succ q =>
    rw [hq] at e
    refine ⟨q, e, ?_⟩
    rw [Nat.succ_mul] at e
    have e2 : i = q * 3 ^ m + (3 ^ m - 1) := by omega
    rw [e2, Nat.mul_comm q, Nat.mul_add_div hp, Nat.div_eq_of_lt (by omega), Nat.add_zero]
/-- digit 2: the carry goes on -/
theorem dg_cs {i m : Nat} (h : dg_c i m) (h2 : i / 3 ^ m % 3 = 2) : dg_c i (m + 1) := by
  obtain ⟨q, e, eq⟩ := dg_q h
  rw [eq] at h2
  unfold dg_c
  have e3 : q + 1 = (q + 1) / 3 * 3 := by omega
  rw [e, e3, dg_ps, Nat.mul_assoc, Nat.mul_comm 3 (3 ^ m)]
  exact Nat.mul_mod_left _ _
/-- digit below 2: it grows by one, those behind are 0, those ahead stay -/
theorem dg_n0 {i m j : Nat} (h : dg_c i m) (hj : j < m) : (i + 1) / 3 ^ j % 3 = 0 := by
  obtain ⟨q, e, _⟩ := dg_q h
  obtain ⟨t, rfl⟩ : ∃ t, m = j + (t + 1) := ⟨m - j - 1, by omega⟩
  have e2 : i + 1 = 3 ^ j * ((q + 1) * 3 ^ t * 3) := by
    rw [e, Nat.pow_add, dg_ps, ← Nat.mul_assoc, Nat.mul_comm (q + 1) (3 ^ j), Nat.mul_assoc, Nat.mul_assoc]
  rw [e2, Nat.mul_div_cancel_left _ (dg_p j), Nat.mul_mod_left]
theorem dg_n1 {i m : Nat} (h : dg_c i m) (h2 : i / 3 ^ m % 3 < 2) : (i + 1) / 3 ^ m % 3 = i / 3 ^ m % 3 + 1 := by
  obtain ⟨q, e, eq⟩ := dg_q h
  rw [eq] at h2 ⊢
  rw [e, Nat.mul_div_cancel _ (dg_p m)]
  omega
theorem dg_n2 {i m j : Nat} (h : dg_c i m) (h2 : i / 3 ^ m % 3 < 2) (hj : m < j) : (i + 1) / 3 ^ j = i / 3 ^ j := by
  obtain ⟨q, e, eq⟩ := dg_q h
  rw [eq] at h2
  obtain ⟨t, rfl⟩ : ∃ t, j = m + (1 + t) := ⟨j - m - 1, by omega⟩
  rw [Nat.pow_add, ← Nat.div_div_eq_div_mul, ← Nat.div_div_eq_div_mul, eq, e, Nat.mul_div_cancel _ (dg_p m), Nat.pow_add, ← Nat.div_div_eq_div_mul, ← Nat.div_div_eq_div_mul]
  congr 1
  omega
theorem dg_le {i m G : Nat} (h : dg_c i m) (h2 : i / 3 ^ m % 3 < 2) (hm : m < G) (hi : i < 3 ^ G) : i + 1 < 3 ^ G := by
  apply Nat.lt_of_le_of_ne hi
  intro e
  have e : i + 1 = 3 ^ G := e
  have h3 := dg_n2 h h2 hm
  rw [e, Nat.div_self (dg_p G), Nat.div_eq_of_lt hi] at h3
  exact absurd h3 (by decide)
theorem dg_end {i G : Nat} (h : dg_c i G) (hi : i < 3 ^ G) : i + 1 = 3 ^ G := by
  obtain ⟨q, e, eq⟩ := dg_q h
  rw [Nat.div_eq_of_lt hi] at eq
  rw [e, ← eq, Nat.zero_add, Nat.one_mul]
theorem dg_8 {G : Nat} (h : G ≤ 8) : 3 ^ G ≤ 6561 := Nat.pow_le_pow_right (n := 3) (by decide) h
/-! counting -/
noncomputable def ct_n (P : Nat → Prop) : Nat → Nat
  | 0 => 0
  | n + 1 => @ite Nat (P n) (Classical.propDecidable (P n)) (ct_n P n + 1) (ct_n P n)
theorem ct_y {P : Nat → Prop} {n : Nat} (h : P n) : ct_n P (n + 1) = ct_n P n + 1 := if_pos h
theorem ct_x {P : Nat → Prop} {n : Nat} (h : ¬ P n) : ct_n P (n + 1) = ct_n P n := if_neg h
theorem ct_le (P : Nat → Prop) : ∀ n, ct_n P n ≤ n := by
  intro n
  induction n with
  | zero => exact Nat.le_refl _
  | succ n ih =>
    by_cases h : P n
    · rw [ct_y h]; omega
    · rw [ct_x h]; omega
theorem ct_z {P : Nat → Prop} : ∀ n, ct_n P n = 0 → ∀ i, i < n → ¬ P i := by
  intro n
  induction n with
  | zero => exact fun _ i hi => absurd hi (Nat.not_lt_zero i)
  | succ n ih =>
    intro h0 i hi
    by_cases h : P n
    · rw [ct_y h] at h0; omega
    · rw [ct_x h] at h0
      by_cases e : i = n
      · exact e ▸ h
      · exact ih h0 i (by omega)
theorem ct_nz {P : Nat → Prop} {n : Nat} (h : ∀ i, i < n → ¬ P i) : ct_n P n = 0 := by
  induction n with
  | zero => rfl
  | succ n ih =>
    rw [ct_x (h n (by omega))]
    exact ih (fun i hi => h i (by omega))
theorem ct_pos {P : Nat → Prop} {n i : Nat} (hi : i < n) (h : P i) : 0 < ct_n P n :=
  Nat.pos_of_ne_zero (fun z => ct_z n z i hi h)
theorem ct_iff {P Q : Nat → Prop} {n : Nat} (h : ∀ i, i < n → (P i ↔ Q i)) : ct_n P n = ct_n Q n := by
  induction n with
  | zero => rfl
  | succ n ih =>
    have ih := ih (fun i hi => h i (by omega))
    by_cases p : P n
    · rw [ct_y p, ct_y ((h n (by omega)).mp p), ih]
    · rw [ct_x p, ct_x (fun q => p ((h n (by omega)).mpr q)), ih]
/-- split by a value below 3 -/
theorem ct_3 (P : Nat → Prop) (f : Nat → Nat) (hf : ∀ i, f i < 3) : ∀ n, ct_n (fun i => f i = 0 ∧ P i) n + ct_n (fun i => f i = 1 ∧ P i) n + ct_n (fun i => f i = 2 ∧ P i) n = ct_n P n := by
  intro n
  induction n with
  | zero => rfl
  | succ n ih =>
    by_cases p : P n
    · rw [ct_y p]
      have h := hf n
      by_cases e0 : f n = 0
      · rw [ct_y (P := fun i => f i = 0 ∧ P i) ⟨e0, p⟩, ct_x (P := fun i => f i = 1 ∧ P i) (fun q => by have := q.1; omega), ct_x (P := fun i => f i = 2 ∧ P i) (fun q => by have := q.1; omega)]
        omega
      · by_cases e1 : f n = 1
        · rw [ct_x (P := fun i => f i = 0 ∧ P i) (fun q => by have := q.1; omega), ct_y (P := fun i => f i = 1 ∧ P i) ⟨e1, p⟩, ct_x (P := fun i => f i = 2 ∧ P i) (fun q => by have := q.1; omega)]
          omega
        · rw [ct_x (P := fun i => f i = 0 ∧ P i) (fun q => by have := q.1; omega), ct_x (P := fun i => f i = 1 ∧ P i) (fun q => by have := q.1; omega), ct_y (P := fun i => f i = 2 ∧ P i) ⟨by omega, p⟩]
          omega
    · rw [ct_x p, ct_x (P := fun i => f i = 0 ∧ P i) (fun q => p q.2), ct_x (P := fun i => f i = 1 ∧ P i) (fun q => p q.2), ct_x (P := fun i => f i = 2 ∧ P i) (fun q => p q.2)]
      exact ih
/-- candidate i solves the board -/
def so_I (a : Nat → Int32) (L : List (Nat × Nat × Int64)) (i : Nat) : Prop := so_S a L (dg_d L.length i)
def so_T (a : Nat → Int32) (L : List (Nat × Nat × Int64)) (g e : Nat) (i : Nat) : Prop := dg_d L.length i g = e ∧ so_I a L i
end
section
theorem xl_7 (post : SX → Prop) (gk sk : Int32) (a ne fe : Nat → Int32) (cb : Nat → Int64) (lb ta la lk : Nat → Int32) (h7 : (is_l a 36).length ≤ 7)
    (hp : ∀ ic, is_M (is_l a 36) ic → post (nI (is_l a 36).length, gk, sk, a, ic, ne, fe, cb, lb, ta, la, lk)) :
    ∀ d c : Nat, c + d = 36 → ∀ ic, is_M (is_l a c) ic → wX_listIslands_7 post gk sk (d + 1) (nI c) (nI (is_l a c).length) a ic ne fe cb lb ta la lk := by
  intro d
  induction d with
  | zero =>
    intro c hc ic hM
    obtain rfl : c = 36 := by omega
    exact pk_le 36 36 (fun _ => hp ic hM) (fun h => absurd h (by omega))
  | succ d ih =>
    intro c hc ic hM
    have hl := is_len a (show c ≤ 36 by omega)
    have kc : (nI c).toNatClampNeg = c := nI_clamp (by omega)
    have kl : (nI (is_l a c).length).toNatClampNeg = (is_l a c).length := nI_clamp (by omega)
    refine pk_le 36 c (fun h => absurd h (by omega)) (fun _ => pk_le 7 (is_l a c).length (fun h => ?_) (fun h => ⟨vp_in_nI (by omega) (by omega), ?_⟩))
    · have e := is_full a (show c ≤ 36 by omega) (by omega)
      rw [← e]
      exact hp ic (e ▸ hM)
    · by_cases z : a c = 0
      · have ih := ih (c + 1) (by omega) ic (by rw [is_s0 z]; exact hM)
        rw [is_s0 z] at ih
        exact br_t (by rw [kc]; exact z) (nm_r (nI_1 c) ih)
      · have ih := ih (c + 1) (by omega) (upd ic (is_l a c).length (nI c)) (by rw [is_s1 z]; exact is_M1 hM c)
        rw [is_s1 z, List.length_append, List.length_singleton] at ih
        exact br_f (by rw [kc]; exact z) ⟨vp_in_nI (by omega) (by omega), nm_r (by rw [kl]) (nm_r (nI_1 _) (nm_r (nI_1 c) ih))⟩
theorem xl_p (post : SX → Prop) (ik gk sk : Int32) (a ic ne fe : Nat → Int32) (cb : Nat → Int64) (lb ta la lk : Nat → Int32) (h7 : (is_l a 36).length ≤ 7)
    (hp : ∀ ic, is_M (is_l a 36) ic → post (nI (is_l a 36).length, gk, sk, a, ic, ne, fe, cb, lb, ta, la, lk)) :
    wpX_listIslands post (ik, gk, sk, a, ic, ne, fe, cb, lb, ta, la, lk) :=
  ⟨37, xl_7 post gk sk a ne fe cb lb ta la lk h7 hp 36 0 rfl ic (is_M0 ic)⟩
theorem xa_6 (post : SX → Prop) (ik sk : Int32) (a ic ne fe : Nat → Int32) (cb : Nat → Int64) (lb ta la lk : Nat → Int32) (G p0 s m : Nat) (hG : G < 14) (hm : p0 + m * s < 36) (hs : 0 < s) :
    ∀ (d j p : Nat) (b : Int64), j + d = m + 1 → p + s = p0 + j * s →
    (sc_g a s d p b = none → post (ik, nI G, sk, a, ic, ne, fe, cb, lb, ta, la, lk)) →
    (∀ x, sc_g a s d p b = some x → post (ik, nI (G + 1), sk, a, ic, upd ne G (nI p0), upd fe G (nI x.1), vp_updL cb G x.2, lb, ta, la, lk)) →
    wX_addGap_6 post (nI p0) (nI s) (nI m) ik (nI G) sk a ic ne fe cb lb ta la lk (d + 1) b (nI j) := by
  have hm2 : m ≤ m * s := Nat.le_mul_of_pos_right m hs
  intro d
  induction d with
  | zero =>
    intro j p b hj _ h0 _
    exact pk_lt m j (fun _ => h0 rfl) (fun h => absurd h (by omega))
  | succ d ih =>
    intro j p b hj hp h0 h1
    have hjs : j * s ≤ m * s := Nat.mul_le_mul_right s (by omega)
    have hc : p + s < 36 := by omega
    have ec : nI p0 + nI j * nI s = nI (p + s) := by rw [pk_mul, nI_add, hp]
    have kc : (nI (p + s)).toNatClampNeg = p + s := nI_clamp (by omega)
    have kg : (nI G).toNatClampNeg = G := nI_clamp (by omega)
    have vg : vp_in (nI G) 14 := vp_in_nI hG (by omega)
    refine pk_lt m j (fun h => absurd h (by omega)) (fun _ => nm_r ec ⟨vp_in_nI hc (by omega), ?_⟩)
    by_cases z : a (p + s) = 0
    · rw [sc_s0 z] at h0 h1
      have e : j * s + s = (j + 1) * s := (Nat.succ_mul j s).symm
      exact br_t (by rw [kc]; exact z) (nm_e (nm_r (nI_1 j) (ih (j + 1) (p + s) _ (by omega) (by omega) h0 h1)))
    · have h1 := h1 (p + s, b) (sc_s1 z)
      exact br_f (by rw [kc]; exact z) ⟨vg, nm_r (by rw [kg]) ⟨vg, nm_r (by rw [kg]) ⟨vg, nm_r (by rw [kg]) (nm_r (nI_1 G) h1)⟩⟩⟩
theorem xa_p (post : SX → Prop) (ik sk : Int32) (a ic ne fe : Nat → Int32) (cb : Nat → Int64) (lb ta la lk : Nat → Int32) (L : List (Nat × Nat × Int64)) (p0 s m : Nat) (hG : L.length < 14) (hm : p0 + m * s < 36) (hs : 0 < s) (hM : gp_M L ne fe cb)
    (hp : ∀ ne fe cb, gp_M (L ++ sc_1 p0 (sc_g a s m p0 0)) ne fe cb → post (ik, nI (L ++ sc_1 p0 (sc_g a s m p0 0)).length, sk, a, ic, ne, fe, cb, lb, ta, la, lk)) :
    wpX_addGap post (ik, nI L.length, sk, a, ic, ne, fe, cb, lb, ta, la, lk) (nI p0) (nI s) (nI m) := by
  refine ⟨m + 1, xa_6 post ik sk a ic ne fe cb lb ta la lk L.length p0 s m hG hm hs m 1 p0 0 (by omega) (by rw [Nat.one_mul]) (fun e => ?_) (fun x e => ?_)⟩
  · rw [e] at hp
    have h := hp ne fe cb (by show gp_M (L ++ []) ne fe cb; rw [List.append_nil]; exact hM)
    rw [show sc_1 p0 none = [] from rfl, List.append_nil] at h
    exact h
  · rw [e] at hp
    have h := hp _ _ _ (gp_M1 hM p0 x.1 x.2)
    rw [show sc_1 p0 (some x) = [(p0, x.1, x.2)] from rfl, List.length_append, List.length_singleton] at h
    exact h
theorem xg_7 (post : SX → Prop) (sk : Int32) (a ic : Nat → Int32) (lb ta la lk : Nat → Int32) (h7 : (is_l a 36).length ≤ 7) (hI : is_M (is_l a 36) ic)
    (hp : ∀ ne fe cb, gp_M (gp_l a (is_l a 36)) ne fe cb → post (nI (is_l a 36).length, nI (gp_l a (is_l a 36)).length, sk, a, ic, ne, fe, cb, lb, ta, la, lk)) :
    ∀ d i : Nat, i + d = (is_l a 36).length → ∀ ne fe cb, gp_M (gp_l a ((is_l a 36).take i)) ne fe cb → wX_listGaps_7 post (d + 1) (nI i) (nI (is_l a 36).length) (nI (gp_l a ((is_l a 36).take i)).length) sk a ic ne fe cb lb ta la lk := by
  intro d
  induction d with
  | zero =>
    intro i hi ne fe cb hM
    rw [List.take_of_length_le (by omega)] at hM ⊢
    exact pk_le (is_l a 36).length i (fun _ => hp ne fe cb hM) (fun h => absurd h (by omega))
  | succ d ih =>
    intro i hi ne fe cb hM
    have hc := is_c36 a (show i < (is_l a 36).length by omega)
    have ki : (nI i).toNatClampNeg = i := nI_clamp (by omega)
    have ec : ic (nI i).toNatClampNeg = nI (is_c (is_l a 36) i) := by rw [ki]; exact hI i (by omega)
    have hT := is_tk (is_l a 36) (show i < (is_l a 36).length by omega)
    have hl := gp_len a ((is_l a 36).take i)
    rw [List.length_take, Nat.min_eq_left (by omega)] at hl
    have ih := ih (i + 1) (by omega)
    rw [hT, gp_s] at ih
    generalize hcc : is_c (is_l a 36) i = c at *
    have e1 : (5 : Int32) - nI (c % 6) = nI (5 - c % 6) := pk_sub (a := 5) (by omega)
    have e2 : (5 : Int32) - nI (c / 6) = nI (5 - c / 6) := pk_sub (a := 5) (by omega)
    have h1 := sc_1len c (sc_r a c)
    refine pk_le (is_l a 36).length i (fun h => absurd h (by omega)) (fun _ => ⟨vp_in_nI (by omega) (by omega), nm_r ec ⟨by decide, nm_r (pk_rem (d := 6) (by omega) (by omega) (by omega)) ⟨by decide, nm_r (pk_div (d := 6) (by omega) (by omega) (by omega)) ?_⟩⟩⟩)
    rw [e1, e2]
    refine xa_p _ _ sk a ic ne fe cb lb ta la lk (gp_l a ((is_l a 36).take i)) c 1 (5 - c % 6) (by omega) (by omega) (by omega) hM (fun ne fe cb hM => ?_)
    refine xa_p _ _ sk a ic ne fe cb lb ta la lk _ c 6 (5 - c / 6) ?_ (by omega) (by omega) hM (fun ne fe cb hM => ?_)
    · show (gp_l a ((is_l a 36).take i) ++ sc_1 c (sc_r a c)).length < 14
      rw [List.length_append]
      omega
    · exact nm_r (nI_1 i) (ih ne fe cb hM)
theorem xg_p (post : SX → Prop) (gk sk : Int32) (a ic ne fe : Nat → Int32) (cb : Nat → Int64) (lb ta la lk : Nat → Int32) (h7 : (is_l a 36).length ≤ 7) (hI : is_M (is_l a 36) ic)
    (hp : ∀ ne fe cb, gp_M (gp_l a (is_l a 36)) ne fe cb → post (nI (is_l a 36).length, nI (gp_l a (is_l a 36)).length, sk, a, ic, ne, fe, cb, lb, ta, la, lk)) :
    wpX_listGaps post (nI (is_l a 36).length, gk, sk, a, ic, ne, fe, cb, lb, ta, la, lk) :=
  ⟨_, xg_7 post sk a ic lb ta la lk h7 hI hp (is_l a 36).length 0 (by omega) ne fe cb (gp_M0 ne fe cb)⟩
end
section
theorem bd_z {x : Int32} (h : 0 ≤ x) : x ≤ 0 ↔ x = 0 := ⟨fun q => Int32.le_antisymm q h, fun q => q ▸ Int32.le_refl _⟩
/-- the board: no number below 0, at most seven islands -/
def bd_ok (a : Nat → Int32) : Prop := (∀ c, c < 36 → 0 ≤ a c) ∧ (is_l a 36).length ≤ 7
theorem yh_4 (post : Int32 → Prop) (gy : Int32) (a yn yf : Nat → Int32) (yb : Nat → Int64) (br re : Nat → Int32) (ha : bd_ok a) (hp : post (nI (is_l a 36).length)) :
    ∀ d c : Nat, c + d = 36 → wY_held_4 post gy a yn yf yb br re (d + 1) (nI (is_l a c).length) (nI c) := by
  intro d
  induction d with
  | zero =>
    intro c hc
    obtain rfl : c = 36 := by omega
    exact pk_le 36 36 (fun _ => hp) (fun h => absurd h (by omega))
  | succ d ih =>
    intro c hc
    have kc : (nI c).toNatClampNeg = c := nI_clamp (by omega)
    have ih := ih (c + 1) (by omega)
    refine pk_le 36 c (fun h => absurd h (by omega)) (fun _ => ⟨vp_in_nI (by omega) (by omega), ?_⟩)
    have q := bd_z (ha.1 c (by omega))
    by_cases z : a c = 0
    · rw [is_s0 z] at ih
      exact br_t (by rw [kc]; exact q.mpr z) (nm_r (nI_1 c) ih)
    · rw [is_s1 z, List.length_append, List.length_singleton] at ih
      exact br_f (by rw [kc]; exact fun w => z (q.mp w)) (nm_r (nI_1 _) (nm_r (nI_1 c) ih))
theorem yh_p (post : Int32 → Prop) (gy : Int32) (a yn yf : Nat → Int32) (yb : Nat → Int64) (br re : Nat → Int32) (ha : bd_ok a) (hp : post (nI (is_l a 36).length)) : wpY_held post (gy, a, yn, yf, yb, br, re) :=
  ⟨37, yh_4 post gy a yn yf yb br re ha hp 36 0 rfl⟩
theorem yk_9 (post : SY → Prop) (a yn yf : Nat → Int32) (yb : Nat → Int64) (br re : Nat → Int32) (ha : bd_ok a) (G p0 s m : Nat) (hG : G < 16) (hm : p0 + m * s < 36) (hs : 0 < s) :
    ∀ (d j p : Nat) (b : Int64), j + d = m → p = p0 + j * s →
    (sc_g a s d p b = none → post (nI G, a, yn, yf, yb, br, re)) →
    (∀ x, sc_g a s d p b = some x → post (nI (G + 1), a, upd yn G (nI p0), upd yf G (nI x.1), vp_updL yb G x.2, br, re)) →
    wY_look_9 post (nI p0) (nI s) (nI m) (nI G) a yn yf yb br re (d + 1) b (nI p) (nI j) := by
  have hm2 : m ≤ m * s := Nat.le_mul_of_pos_right m hs
  intro d
  induction d with
  | zero =>
    intro j p b hj _ h0 _
    exact pk_le m j (fun _ => h0 rfl) (fun h => absurd h (by omega))
  | succ d ih =>
    intro j p b hj hp h0 h1
    have e : j * s + s = (j + 1) * s := (Nat.succ_mul j s).symm
    have hjs : (j + 1) * s ≤ m * s := Nat.mul_le_mul_right s (by omega)
    have hc : p + s < 36 := by omega
    have kc : (nI (p + s)).toNatClampNeg = p + s := nI_clamp (by omega)
    have kg : (nI G).toNatClampNeg = G := nI_clamp (by omega)
    have vg : vp_in (nI G) 16 := vp_in_nI hG (by omega)
    have q := bd_z (ha.1 (p + s) hc)
    refine pk_le m j (fun h => absurd h (by omega)) (fun _ => nm_r (nI_add p s) (pk_le (p + s) 35 (fun _ => ⟨vp_in_nI hc (by omega), ?_⟩) (fun h => absurd h (by omega))))
    by_cases z : a (p + s) = 0
    · rw [sc_s0 z] at h0 h1
      exact br_t (by rw [kc]; exact q.mpr z) (nm_e (nm_r (nI_1 j) (ih (j + 1) (p + s) _ (by omega) (by omega) h0 h1)))
    · have h1 := h1 (p + s, b) (sc_s1 z)
      exact br_f (by rw [kc]; exact fun w => z (q.mp w)) (pk_le 16 G (fun h => absurd h (by omega)) (fun _ => ⟨vg, nm_r (by rw [kg]) ⟨vg, nm_r (by rw [kg]) ⟨vg, nm_r (by rw [kg]) (nm_r (nI_1 G) h1)⟩⟩⟩))
theorem yk_p (post : SY → Prop) (a yn yf : Nat → Int32) (yb : Nat → Int64) (br re : Nat → Int32) (ha : bd_ok a) (L : List (Nat × Nat × Int64)) (p0 s m : Nat) (hG : L.length < 16) (hm : p0 + m * s < 36) (hs : 0 < s) (hM : gp_M L yn yf yb)
    (hp : ∀ yn yf yb, gp_M (L ++ sc_1 p0 (sc_g a s m p0 0)) yn yf yb → post (nI (L ++ sc_1 p0 (sc_g a s m p0 0)).length, a, yn, yf, yb, br, re)) :
    wpY_look post (nI L.length, a, yn, yf, yb, br, re) (nI p0) (nI s) (nI m) := by
  refine ⟨m + 1, yk_9 post a yn yf yb br re ha L.length p0 s m hG hm hs m 0 p0 0 (by omega) (by rw [Nat.zero_mul]; rfl) (fun e => ?_) (fun x e => ?_)⟩
  · rw [e] at hp
    have h := hp yn yf yb (by show gp_M (L ++ []) yn yf yb; rw [List.append_nil]; exact hM)
    rw [show sc_1 p0 none = [] from rfl, List.append_nil] at h
    exact h
  · rw [e] at hp
    have h := hp _ _ _ (gp_M1 hM p0 x.1 x.2)
    rw [show sc_1 p0 (some x) = [(p0, x.1, x.2)] from rfl, List.length_append, List.length_singleton] at h
    exact h
theorem ys_7 (post : SY → Prop) (a : Nat → Int32) (br re : Nat → Int32) (ha : bd_ok a)
    (hp : ∀ yn yf yb, gp_M (gp_l a (is_l a 36)) yn yf yb → post (nI (gp_l a (is_l a 36)).length, a, yn, yf, yb, br, re)) :
    ∀ d c : Nat, c + d = 36 → ∀ yn yf yb, gp_M (gp_l a (is_l a c)) yn yf yb → wY_survey_7 post (d + 1) (nI c) (nI (gp_l a (is_l a c)).length) a yn yf yb br re := by
  intro d
  induction d with
  | zero =>
    intro c hc yn yf yb hM
    obtain rfl : c = 36 := by omega
    exact pk_le 36 36 (fun _ => hp yn yf yb hM) (fun h => absurd h (by omega))
  | succ d ih =>
    intro c hc yn yf yb hM
    have kc : (nI c).toNatClampNeg = c := nI_clamp (by omega)
    have ih := ih (c + 1) (by omega)
    have q := bd_z (ha.1 c (by omega))
    have hl := gp_len a (is_l a c)
    have hl2 := is_len a (show c + 1 ≤ 36 by omega)
    have h7 := ha.2
    refine pk_le 36 c (fun h => absurd h (by omega)) (fun _ => ⟨vp_in_nI (by omega) (by omega), ?_⟩)
    by_cases z : a c = 0
    · rw [is_s0 z] at ih
      exact br_t (by rw [kc]; exact q.mpr z) (nm_r (nI_1 c) (ih yn yf yb hM))
    · rw [is_s1 z, gp_s] at ih
      rw [is_s1 z, List.length_append, List.length_singleton] at hl2
      have e1 : (5 : Int32) - (nI c - nI c / 6 * 6) = nI (5 - c % 6) := by
        rw [show nI c - nI c / 6 * 6 = nI (c % 6) from pk_rem (d := 6) (by omega) (by omega) (by omega)]
        exact pk_sub (a := 5) (by omega)
      have e2 : (5 : Int32) - nI c / 6 = nI (5 - c / 6) := by
        rw [show nI c / 6 = nI (c / 6) from pk_div (d := 6) (by omega) (by omega) (by omega)]
        exact pk_sub (a := 5) (by omega)
      have h1 := sc_1len c (sc_r a c)
      refine br_f (by rw [kc]; exact fun w => z (q.mp w)) ⟨by decide, ?_⟩
      rw [e1, e2]
      refine yk_p _ a yn yf yb br re ha (gp_l a (is_l a c)) c 1 (5 - c % 6) (by omega) (by omega) (by omega) hM (fun yn yf yb hM => ⟨by decide, ?_⟩)
      refine yk_p _ a yn yf yb br re ha _ c 6 (5 - c / 6) ?_ (by omega) (by omega) hM (fun yn yf yb hM => ?_)
      · show (gp_l a (is_l a c) ++ sc_1 c (sc_r a c)).length < 16
        rw [List.length_append]
        omega
      · exact nm_r (nI_1 c) (ih yn yf yb hM)
theorem ys_p (post : SY → Prop) (gy : Int32) (a yn yf : Nat → Int32) (yb : Nat → Int64) (br re : Nat → Int32) (ha : bd_ok a)
    (hp : ∀ yn yf yb, gp_M (gp_l a (is_l a 36)) yn yf yb → post (nI (gp_l a (is_l a 36)).length, a, yn, yf, yb, br, re)) : wpY_survey post (gy, a, yn, yf, yb, br, re) :=
  ⟨37, ys_7 post a br re ha hp 36 0 rfl yn yf yb (gp_M0 yn yf yb)⟩
end
section
/-- bridges as an array -/
def dm_M (b : Nat → Int32) (d : Nat → Nat) (n : Nat) : Prop := ∀ g, g < n → b g = nI (d g)
theorem sm_y {L : List (Nat × Nat × Int64)} {d : Nat → Nat} {c g : Nat} (h : gp_n L g = c ∨ gp_f L g = c) : sm_m L d c (g + 1) = sm_m L d c g + nI (d g) := if_pos h
theorem sm_x {L : List (Nat × Nat × Int64)} {d : Nat → Nat} {c g : Nat} (h : ¬ (gp_n L g = c ∨ gp_f L g = c)) : sm_m L d c (g + 1) = sm_m L d c g := if_neg h
theorem yc_12 (post : Int32 → Prop) (J2 : Int32 → Prop) (a yn yf : Nat → Int32) (yb : Nat → Int64) (br re : Nat → Int32) (ha : bd_ok a) (L : List (Nat × Nat × Int64)) (hL : gp_ok a L) (hG : L.length < 16) (hM : gp_M L yn yf yb) (d : Nat → Nat) (hb : dm_M br d L.length) (c : Nat) (hc : c < 36) (z : ¬ a c = 0)
    (h : wY_summed_64 post J2 (nI c) (sm_m L d c L.length) (nI L.length) a yn yf yb br re) :
    ∀ e g : Nat, g + e = L.length → wY_summed_12 post J2 (nI c) (nI L.length) a yn yf yb br re (e + 1) (sm_m L d c g) (nI g) := by
  intro e
  induction e with
  | zero =>
    intro g hg
    obtain rfl : g = L.length := by omega
    exact pk_le L.length L.length (fun _ => h) (fun h => absurd h (by omega))
  | succ e ih =>
    intro g hg
    have ih := ih (g + 1) (by omega)
    have kc : (nI c).toNatClampNeg = c := nI_clamp (by omega)
    have kg : (nI g).toNatClampNeg = g := nI_clamp (by omega)
    have vg : vp_in (nI g) 16 := vp_in_nI (by omega) (by omega)
    have m := hM g (by omega)
    have o := gp_at hL (show g < L.length by omega)
    have q := bd_z (ha.1 c hc)
    have en : yn (nI g).toNatClampNeg = nI (gp_n L g) := by rw [kg]; exact m.1
    have ef : yf (nI g).toNatClampNeg = nI (gp_f L g) := by rw [kg]; exact m.2.1
    have eb : br (nI g).toNatClampNeg = nI (d g) := by rw [kg]; exact hb g (by omega)
    have add : (gp_n L g = c ∨ gp_f L g = c) → wY_summed_49 post J2 (wY_summed_12 post J2 (nI c) (nI L.length) a yn yf yb br re (e + 1)) (nI c) (sm_m L d c g) (nI g) (nI L.length) a yn yf yb br re := by
      intro w
      rw [sm_y w] at ih
      exact ⟨vg, nm_r (by rw [eb]) (nm_r (nI_1 g) ih)⟩
    refine pk_le L.length g (fun h => absurd h (by omega)) (fun _ => ⟨vp_in_nI hc (by omega), br_f (by rw [kc]; exact fun w => z (q.mp w)) ⟨vg, ?_⟩⟩)
    refine pk_eq (gp_n L g) c (fun w => add (Or.inl w)) (fun w1 => ⟨vg, ?_⟩) en
    refine pk_eq (gp_f L g) c (fun w => add (Or.inr w)) (fun w2 => ?_) ef
    rw [sm_x (fun w => w.elim w1 w2)] at ih
    exact nm_r (nI_1 g) ih
theorem yc_2 (post : Int32 → Prop) (a yn yf : Nat → Int32) (yb : Nat → Int64) (br re : Nat → Int32) (ha : bd_ok a) (L : List (Nat × Nat × Int64)) (hL : gp_ok a L) (hG : L.length < 16) (hM : gp_M L yn yf yb) (d : Nat → Nat) (hb : dm_M br d L.length)
    (hy : so_M a L d → post 1) (hn : ¬ so_M a L d → post 0) :
    ∀ e c : Nat, c + e = 36 → (∀ j, j < c → ¬ a j = 0 → sm_m L d j L.length = a j) → wY_summed_2 post (nI L.length) a yn yf yb br re (e + 1) (nI c) := by
  intro e
  induction e with
  | zero =>
    intro c hc h
    obtain rfl : c = 36 := by omega
    exact pk_le 36 36 (fun _ => hy h) (fun h => absurd h (by omega))
  | succ e ih =>
    intro c hc h
    have ih := ih (c + 1) (by omega)
    have kc : (nI c).toNatClampNeg = c := nI_clamp (by omega)
    have vc : vp_in (nI c) 36 := vp_in_nI (by omega) (by omega)
    have q := bd_z (ha.1 c (by omega))
    refine pk_le 36 c (fun h => absurd h (by omega)) (fun _ => ?_)
    by_cases z : a c = 0
    · have go : wY_summed_64 post (wY_summed_2 post (nI L.length) a yn yf yb br re (e + 1)) (nI c) 0 (nI L.length) a yn yf yb br re := by
        refine ⟨vc, br_t (by rw [kc, z]) (nm_r (nI_1 c) (ih (fun j hj zj => ?_)))⟩
        have : j ≠ c := fun e => zj (e ▸ z)
        exact h j (by omega) zj
      exact ⟨1, pk_le L.length 0 (fun _ => go) (fun _ => ⟨vc, br_t (by rw [kc]; exact q.mpr z) go⟩)⟩
    · refine ⟨_, yc_12 post _ a yn yf yb br re ha L hL hG hM d hb c (by omega) z ⟨vc, br_c (fun w => ?_) (fun w => hn ?_)⟩ L.length 0 (by omega)⟩
      · rw [kc] at w
        refine nm_r (nI_1 c) (ih (fun j hj zj => ?_))
        by_cases e : j = c
        · exact e ▸ w
        · exact h j (by omega) zj
      · rw [kc] at w
        exact fun s => w (s c (by omega) z)
theorem yc_p (post : Int32 → Prop) (a yn yf : Nat → Int32) (yb : Nat → Int64) (br re : Nat → Int32) (ha : bd_ok a) (L : List (Nat × Nat × Int64)) (hL : gp_ok a L) (hG : L.length < 16) (hM : gp_M L yn yf yb) (d : Nat → Nat) (hb : dm_M br d L.length)
    (hy : so_M a L d → post 1) (hn : ¬ so_M a L d → post 0) : wpY_summed post (nI L.length, a, yn, yf, yb, br, re) :=
  ⟨37, yc_2 post a yn yf yb br re ha L hL hG hM d hb hy hn 36 0 rfl (fun j h => absurd h (Nat.not_lt_zero j))⟩
theorem yp_12 (post : Int32 → Prop) (J2 : Int32 → Prop) (a yn yf : Nat → Int32) (yb : Nat → Int64) (br re : Nat → Int32) (L : List (Nat × Nat × Int64)) (hG : L.length < 16) (hM : gp_M L yn yf yb) (d : Nat → Nat) (hd : ∀ g, d g < 3) (hb : dm_M br d L.length) (g : Nat) (hg : g < L.length)
    (hn : ∀ h, h < g → 0 < d g → 0 < d h → ¬ gp_b L g &&& gp_b L h = 0 → post 0) (hy : (∀ h, h < g → 0 < d g → 0 < d h → gp_b L g &&& gp_b L h = 0) → J2 (nI (g + 1))) :
    ∀ e h : Nat, h + e = g → (∀ j, j < h → 0 < d g → 0 < d j → gp_b L g &&& gp_b L j = 0) → wY_apart_12 post J2 (nI g) (nI L.length) a yn yf yb br re (e + 1) (nI h) := by
  intro e
  induction e with
  | zero =>
    intro h hh q
    obtain rfl : h = g := by omega
    exact pk_le h h (fun _ => nm_r (nI_1 h) (hy q)) (fun h => absurd h (by omega))
  | succ e ih =>
    intro h hh q
    have kg : (nI g).toNatClampNeg = g := nI_clamp (by omega)
    have kh : (nI h).toNatClampNeg = h := nI_clamp (by omega)
    have vg : vp_in (nI g) 16 := vp_in_nI (by omega) (by omega)
    have vh : vp_in (nI h) 16 := vp_in_nI (by omega) (by omega)
    have bg : yb (nI g).toNatClampNeg = gp_b L g := by rw [kg]; exact (hM g hg).2.2
    have bh : yb (nI h).toNatClampNeg = gp_b L h := by rw [kh]; exact (hM h (by omega)).2.2
    have eg : br (nI g).toNatClampNeg = nI (d g) := by rw [kg]; exact hb g hg
    have eh : br (nI h).toNatClampNeg = nI (d h) := by rw [kh]; exact hb h (by omega)
    have d1 := hd g
    have d2 := hd h
    have ih := ih (h + 1) (by omega)
    have go : (0 < d g → 0 < d h → gp_b L g &&& gp_b L h = 0) → wY_apart_12 post J2 (nI g) (nI L.length) a yn yf yb br re (e + 1) (nI (h + 1)) := by
      intro w
      refine ih (fun j hj p1 p2 => ?_)
      by_cases e : j = h
      · subst e; exact w p1 p2
      · exact q j (by omega) p1 p2
    refine pk_le g h (fun h => absurd h (by omega)) (fun _ => ⟨vg, vh, ?_⟩)
    rw [bg, bh]
    refine br_c (fun w => nm_r (nI_1 h) (go (fun _ _ => w))) (fun w => ⟨vg, ?_⟩)
    refine pk_le (d g) 0 (fun w1 => nm_r (nI_1 h) (go (fun p => absurd p (by omega)))) (fun w1 => ⟨vh, ?_⟩) eg
    exact pk_le (d h) 0 (fun w2 => nm_r (nI_1 h) (go (fun _ p => absurd p (by omega)))) (fun w2 => hn h (by omega) w1 w2 w) eh
theorem yp_2 (post : Int32 → Prop) (a yn yf : Nat → Int32) (yb : Nat → Int64) (br re : Nat → Int32) (L : List (Nat × Nat × Int64)) (hG : L.length < 16) (hM : gp_M L yn yf yb) (d : Nat → Nat) (hd : ∀ g, d g < 3) (hb : dm_M br d L.length)
    (hy : so_A L d L.length → post 1) (hn : ¬ so_A L d L.length → post 0) :
    ∀ e g : Nat, g + e = L.length → so_A L d g → wY_apart_2 post (nI L.length) a yn yf yb br re (e + 1) (nI g) := by
  intro e
  induction e with
  | zero =>
    intro g hg h
    obtain rfl : g = L.length := by omega
    exact pk_le L.length L.length (fun _ => hy h) (fun h => absurd h (by omega))
  | succ e ih =>
    intro g hg h
    refine pk_le L.length g (fun h => absurd h (by omega)) (fun _ => ⟨_, yp_12 post _ a yn yf yb br re L hG hM d hd hb g (by omega) (fun j hj p1 p2 w => hn (fun s => w (s g (by omega) j hj p1 p2))) (fun w => ih (g + 1) (by omega) ?_) g 0 (by omega) (fun j h => absurd h (Nat.not_lt_zero j))⟩)
    intro i hi j hj p1 p2
    by_cases e : i = g
    · subst e; exact w j hj p1 p2
    · exact h i (by omega) j hj p1 p2
theorem yp_p (post : Int32 → Prop) (a yn yf : Nat → Int32) (yb : Nat → Int64) (br re : Nat → Int32) (L : List (Nat × Nat × Int64)) (hG : L.length < 16) (hM : gp_M L yn yf yb) (d : Nat → Nat) (hd : ∀ g, d g < 3) (hb : dm_M br d L.length)
    (hy : so_A L d L.length → post 1) (hn : ¬ so_A L d L.length → post 0) : wpY_apart post (nI L.length, a, yn, yf, yb, br, re) :=
  ⟨_, yp_2 post a yn yf yb br re L hG hM d hd hb hy hn L.length 0 (by omega) (so_A0 L d)⟩
end
section
/-- a set as an array of booleans -/
def rm_M (s : Nat → Bool) (re : Nat → Int32) : Prop := ∀ c, c < 36 → re c = if s c = true then 1 else 0
theorem rm_z {s : Nat → Bool} {re : Nat → Int32} (h : rm_M s re) {c : Nat} (hc : c < 36) : re c = 0 ↔ ¬ s c = true := by
  rw [h c hc]
  by_cases q : s c = true
  · rw [if_pos q]
    exact ⟨fun w => absurd w (by decide), fun w => absurd q w⟩
  · rw [if_neg q]
    exact ⟨fun _ => q, fun _ => rfl⟩
theorem rm_u {s : Nat → Bool} {re : Nat → Int32} (h : rm_M s re) (n f : Nat) : rm_M (fun c => s c || decide (c = n) || decide (c = f)) (upd (upd re n 1) f 1) := by
  intro c hc
  show upd (upd re n 1) f 1 c = if (s c || decide (c = n) || decide (c = f)) = true then 1 else 0
  by_cases e1 : c = f
  · subst e1
    rw [pk_us, if_pos]
    rw [decide_eq_true rfl, Bool.or_true]
  · rw [pk_un e1]
    by_cases e2 : c = n
    · subst e2
      rw [pk_us, if_pos]
      rw [decide_eq_true rfl, Bool.or_true, Bool.true_or]
    · rw [pk_un e2, h c hc, decide_eq_false e1, decide_eq_false e2, Bool.or_false, Bool.or_false]
theorem vb_0 : vp_nar .boolean 0 = 0 := by decide
theorem vb_1 : vp_nar .boolean 1 = 1 := by decide
theorem jn_s1 {L : List (Nat × Nat × Int64)} {d : Nat → Nat} {s : Nat → Bool} {g : Nat} (p : 0 < d g) (h : jn_r L d s g (gp_n L g) = true ∨ jn_r L d s g (gp_f L g) = true) : jn_r L d s (g + 1) = (fun c => jn_r L d s g c || decide (c = gp_n L g) || decide (c = gp_f L g)) := if_pos ⟨p, h⟩
theorem jn_s0 {L : List (Nat × Nat × Int64)} {d : Nat → Nat} {s : Nat → Bool} {g : Nat} (h : ¬ (0 < d g ∧ (jn_r L d s g (gp_n L g) = true ∨ jn_r L d s g (gp_f L g) = true))) : jn_r L d s (g + 1) = jn_r L d s g := if_neg h
theorem yj_144 (post : Int32 → SY → Prop) (a yn yf : Nat → Int32) (yb : Nat → Int64) (br re : Nat → Int32) (gy : Int32) (ha : bd_ok a) (s : Nat → Bool) (hr : rm_M s re)
    (hy : (∀ c, c < 36 → ¬ a c = 0 → s c = true) → post 1 (gy, a, yn, yf, yb, br, re)) (hn : ¬ (∀ c, c < 36 → ¬ a c = 0 → s c = true) → post 0 (gy, a, yn, yf, yb, br, re)) :
    ∀ e c : Nat, c + e = 36 → (∀ j, j < c → ¬ a j = 0 → s j = true) → wY_joined_144 post gy a yn yf yb br re (e + 1) (nI c) := by
  intro e
  induction e with
  | zero =>
    intro c hc h
    obtain rfl : c = 36 := by omega
    exact pk_le 36 36 (fun _ => hy h) (fun h => absurd h (by omega))
  | succ e ih =>
    intro c hc h
    have ih := ih (c + 1) (by omega)
    have kc : (nI c).toNatClampNeg = c := nI_clamp (by omega)
    have vc : vp_in (nI c) 36 := vp_in_nI (by omega) (by omega)
    have q := bd_z (ha.1 c (by omega))
    have hz := rm_z hr (show c < 36 by omega)
    refine pk_le 36 c (fun h => absurd h (by omega)) (fun _ => ⟨vc, ?_⟩)
    rw [kc]
    by_cases z : a c = 0
    · refine br_t (q.mpr z) (nm_r (nI_1 c) (ih (fun j hj zj => ?_)))
      have : j ≠ c := fun e => zj (e ▸ z)
      exact h j (by omega) zj
    · refine br_f (fun w => z (q.mp w)) ⟨vc, br_c (fun w => hn (fun t => hz.mp w (t c (by omega) z))) (fun w => nm_r (nI_1 c) (ih (fun j hj zj => ?_)))⟩
      by_cases e : j = c
      · subst e
        exact Decidable.byContradiction (fun t => w (hz.mpr t))
      · exact h j (by omega) zj
theorem yj_61 (post : Int32 → SY → Prop) (J53 : Int32 → (Nat → Int32) → (Nat → Int32) → (Nat → Int32) → (Nat → Int64) → (Nat → Int32) → (Nat → Int32) → Prop) (a yn yf : Nat → Int32) (yb : Nat → Int64) (br : Nat → Int32) (L : List (Nat × Nat × Int64)) (hL : gp_ok a L) (hG : L.length < 16) (hM : gp_M L yn yf yb) (d : Nat → Nat) (hd : ∀ g, d g < 3) (hb : dm_M br d L.length) (s : Nat → Bool) (r : Nat)
    (hJ : ∀ re, rm_M (jn_r L d s L.length) re → J53 (nI (r + 1)) a yn yf yb br re) :
    ∀ e g : Nat, g + e = L.length → ∀ re, rm_M (jn_r L d s g) re → wY_joined_61 post J53 (nI r) (nI L.length) (e + 1) (nI g) a yn yf yb br re := by
  intro e
  induction e with
  | zero =>
    intro g hg re hr
    obtain rfl : g = L.length := by omega
    exact pk_le L.length L.length (fun _ => nm_r (nI_1 r) (hJ re hr)) (fun h => absurd h (by omega))
  | succ e ih =>
    intro g hg re hr
    have ih := ih (g + 1) (by omega)
    have kg : (nI g).toNatClampNeg = g := nI_clamp (by omega)
    have vg : vp_in (nI g) 16 := vp_in_nI (by omega) (by omega)
    have m := hM g (by omega)
    have o := gp_at hL (show g < L.length by omega)
    have kn : (nI (gp_n L g)).toNatClampNeg = gp_n L g := nI_clamp (by omega)
    have kf : (nI (gp_f L g)).toNatClampNeg = gp_f L g := nI_clamp (by omega)
    have en : yn (nI g).toNatClampNeg = nI (gp_n L g) := by rw [kg]; exact m.1
    have ef : yf (nI g).toNatClampNeg = nI (gp_f L g) := by rw [kg]; exact m.2.1
    have eb : br (nI g).toNatClampNeg = nI (d g) := by rw [kg]; exact hb g (by omega)
    have vn : vp_in (yn (nI g).toNatClampNeg) 36 := by rw [en]; exact vp_in_nI (by omega) (by omega)
    have vf : vp_in (yf (nI g).toNatClampNeg) 36 := by rw [ef]; exact vp_in_nI (by omega) (by omega)
    have zn : re (yn (nI g).toNatClampNeg).toNatClampNeg = 0 ↔ ¬ jn_r L d s g (gp_n L g) = true := by rw [en, kn]; exact rm_z hr (by omega)
    have zf : re (yf (nI g).toNatClampNeg).toNatClampNeg = 0 ↔ ¬ jn_r L d s g (gp_f L g) = true := by rw [ef, kf]; exact rm_z hr (by omega)
    have d1 := hd g
    have add : 0 < d g → (jn_r L d s g (gp_n L g) = true ∨ jn_r L d s g (gp_f L g) = true) → wY_joined_106 post J53 (wY_joined_61 post J53 (nI r) (nI L.length) (e + 1)) (nI r) (nI g) (nI L.length) a yn yf yb br re := by
      intro p w
      rw [jn_s1 p w] at ih
      exact ⟨vg, vn, nm_r (by rw [en, kn, vb_1]) ⟨vg, vf, nm_r (by rw [ef, kf, vb_1]) (nm_r (nI_1 g) (ih _ (rm_u hr _ _)))⟩⟩
    have stay : ¬ (0 < d g ∧ (jn_r L d s g (gp_n L g) = true ∨ jn_r L d s g (gp_f L g) = true)) → wY_joined_61 post J53 (nI r) (nI L.length) (e + 1) (nI (g + 1)) a yn yf yb br re := by
      intro w
      rw [jn_s0 w] at ih
      exact ih re hr
    refine pk_le L.length g (fun h => absurd h (by omega)) (fun _ => ⟨vg, ?_⟩)
    refine pk_le (d g) 0 (fun w => nm_r (nI_1 g) (stay (fun t => absurd t.1 (by omega)))) (fun p => ⟨vg, vn, ?_⟩) eb
    refine br_c (fun w1 => ⟨vg, vf, br_c (fun w2 => nm_r (nI_1 g) (stay (fun t => t.2.elim (zn.mp w1) (zf.mp w2)))) (fun w2 => add p (Or.inr ?_))⟩) (fun w1 => add p (Or.inl ?_))
    · exact Decidable.byContradiction (fun t => w2 (zf.mpr t))
    · exact Decidable.byContradiction (fun t => w1 (zn.mpr t))
theorem yj_53 (post : Int32 → SY → Prop) (a yn yf : Nat → Int32) (yb : Nat → Int64) (br : Nat → Int32) (ha : bd_ok a) (L : List (Nat × Nat × Int64)) (hL : gp_ok a L) (hG : L.length < 16) (hM : gp_M L yn yf yb) (d : Nat → Nat) (hd : ∀ g, d g < 3) (hb : dm_M br d L.length)
    (hy : so_J a L d → ∀ re, post 1 (nI L.length, a, yn, yf, yb, br, re)) (hn : ¬ so_J a L d → ∀ re, post 0 (nI L.length, a, yn, yf, yb, br, re)) :
    ∀ e r : Nat, r + e = 7 → ∀ re, rm_M (jn_i L d (jn_0 a) r) re → wY_joined_53 post (nI L.length) (e + 1) (nI r) a yn yf yb br re := by
  intro e
  induction e with
  | zero =>
    intro r hr re hs
    obtain rfl : r = 7 := by omega
    exact pk_le 7 7 (fun _ => ⟨37, yj_144 post a yn yf yb br re (nI L.length) ha _ hs (fun t => hy t re) (fun t => hn t re) 36 0 rfl (fun j h => absurd h (Nat.not_lt_zero j))⟩) (fun h => absurd h (by omega))
  | succ e ih =>
    intro r hr re hs
    exact pk_le 7 r (fun h => absurd h (by omega)) (fun _ => ⟨_, yj_61 post _ a yn yf yb br L hL hG hM d hd hb (jn_i L d (jn_0 a) r) r (fun re hs => ih (r + 1) (by omega) re hs) L.length 0 (by omega) re hs⟩)
theorem yj_4 (post : Int32 → SY → Prop) (a yn yf : Nat → Int32) (yb : Nat → Int64) (br : Nat → Int32) (ha : bd_ok a) (L : List (Nat × Nat × Int64)) (hL : gp_ok a L) (hG : L.length < 16) (hM : gp_M L yn yf yb) (d : Nat → Nat) (hd : ∀ g, d g < 3) (hb : dm_M br d L.length)
    (hy : so_J a L d → ∀ re, post 1 (nI L.length, a, yn, yf, yb, br, re)) (hn : ¬ so_J a L d → ∀ re, post 0 (nI L.length, a, yn, yf, yb, br, re)) :
    ∀ e c : Nat, c + e = 36 → ∀ (x1 : Int32) re, (x1 = 0 ↔ is_l a c = []) → (∀ j, j < c → re j = if jn_0 a j = true then 1 else 0) → wY_joined_4 post (nI L.length) (e + 1) x1 (nI c) a yn yf yb br re := by
  intro e
  induction e with
  | zero =>
    intro c hc x1 re _ hs
    obtain rfl : c = 36 := by omega
    exact pk_le 36 36 (fun _ => ⟨_, yj_53 post a yn yf yb br ha L hL hG hM d hd hb hy hn 7 0 rfl re hs⟩) (fun h => absurd h (by omega))
  | succ e ih =>
    intro c hc x1 re hx hs
    have ih := ih (c + 1) (by omega)
    have kc : (nI c).toNatClampNeg = c := nI_clamp (by omega)
    have vc : vp_in (nI c) 36 := vp_in_nI (by omega) (by omega)
    have q := bd_z (ha.1 c (by omega))
    have up : ∀ v : Int32, v = (if jn_0 a c = true then 1 else 0) → ∀ j, j < c + 1 → upd re c v j = if jn_0 a j = true then 1 else 0 := by
      intro v hv j hj
      by_cases e : j = c
      · subst e; rw [pk_us]; exact hv
      · rw [pk_un e]; exact hs j (by omega)
    refine pk_le 36 c (fun h => absurd h (by omega)) (fun _ => ⟨vc, ?_⟩)
    by_cases z : a c = 0
    · have z' : a (nI c).toNatClampNeg ≤ 0 := by rw [kc]; exact q.mpr z
      have n0 : ¬ jn_0 a c = true := fun t => by
        have t := of_decide_eq_true t
        exact (is_c36 a t.1).2 (t.2 ▸ z)
      exact br_t z' ⟨vc, nm_r (by rw [kc, vb_0]) ⟨vc, br_t z' (nm_r (nI_1 c) (ih x1 _ (by rw [is_s0 z]; exact hx) (up 0 (by rw [if_neg n0]))))⟩⟩
    · have z' : ¬ a (nI c).toNatClampNeg ≤ 0 := by rw [kc]; exact fun w => z (q.mp w)
      have one : (1 : Int32) = 0 ↔ is_l a (c + 1) = [] := by
        rw [is_s1 z]
        exact ⟨fun w => absurd w (by decide), fun w => absurd (congrArg List.length w) (by rw [List.length_append]; exact Nat.succ_ne_zero _)⟩
      refine br_f z' (br_c (fun w => ?_) (fun w => ?_))
      · have f := is_fst a (show c < 36 by omega) z (hx.mp w)
        exact ⟨vc, nm_r (by rw [kc, vb_1]) ⟨vc, br_f z' (nm_r (nI_1 c) (ih 1 _ one (up 1 (by rw [if_pos]; exact decide_eq_true ⟨f.1, f.2.symm⟩))))⟩⟩
      · have f := is_nfst a (show c ≤ 36 by omega) (fun t => w (hx.mpr t))
        have n0 : ¬ jn_0 a c = true := fun t => by
          have t := of_decide_eq_true t
          omega
        exact ⟨vc, nm_r (by rw [kc, vb_0]) ⟨vc, br_f z' (nm_r (nI_1 c) (ih 1 _ one (up 0 (by rw [if_neg n0]))))⟩⟩
theorem yj_p (post : Int32 → SY → Prop) (a yn yf : Nat → Int32) (yb : Nat → Int64) (br re : Nat → Int32) (ha : bd_ok a) (L : List (Nat × Nat × Int64)) (hL : gp_ok a L) (hG : L.length < 16) (hM : gp_M L yn yf yb) (d : Nat → Nat) (hd : ∀ g, d g < 3) (hb : dm_M br d L.length)
    (hy : so_J a L d → ∀ re, post 1 (nI L.length, a, yn, yf, yb, br, re)) (hn : ¬ so_J a L d → ∀ re, post 0 (nI L.length, a, yn, yf, yb, br, re)) : wpY_joined post (nI L.length, a, yn, yf, yb, br, re) :=
  ⟨37, yj_4 post a yn yf yb br ha L hL hG hM d hd hb hy hn 36 0 rfl 0 re ⟨fun _ => rfl, fun _ => rfl⟩ (fun j h => absurd h (Nat.not_lt_zero j))⟩
theorem yv_p (post : Int32 → SY → Prop) (a yn yf : Nat → Int32) (yb : Nat → Int64) (br re : Nat → Int32) (ha : bd_ok a) (L : List (Nat × Nat × Int64)) (hL : gp_ok a L) (hG : L.length < 16) (hM : gp_M L yn yf yb) (d : Nat → Nat) (hd : ∀ g, d g < 3) (hb : dm_M br d L.length)
    (hy : so_S a L d → ∀ re, post 1 (nI L.length, a, yn, yf, yb, br, re)) (hn : ¬ so_S a L d → ∀ re, post 0 (nI L.length, a, yn, yf, yb, br, re)) : wpY_solves post (nI L.length, a, yn, yf, yb, br, re) := by
  unfold wpY_solves
  refine yc_p _ a yn yf yb br re ha L hL hG hM d hb (fun h1 => br_f (by decide) ?_) (fun h1 => br_t rfl (hn (fun t => h1 t.1) re))
  refine yp_p _ a yn yf yb br re L hG hM d hd hb (fun h2 => br_f (by decide) ?_) (fun h2 => br_t rfl (hn (fun t => h2 t.2.1) re))
  exact yj_p _ a yn yf yb br re ha L hL hG hM d hd hb (fun h3 re => br_f (by decide) (hy ⟨h1, h2, h3⟩ re)) (fun h3 re => br_t rfl (hn (fun t => h3 t.2.2) re))
end
section
theorem yb_2 (post : SY → Prop) (gy : Int32) (a yn yf : Nat → Int32) (yb : Nat → Int64) (re : Nat → Int32) (hp : ∀ br, (∀ g, g < 16 → br g = 0) → post (gy, a, yn, yf, yb, br, re)) :
    ∀ e g : Nat, g + e = 16 → ∀ br, (∀ j, j < g → br j = 0) → wY_begin_2 post gy (e + 1) (nI g) a yn yf yb br re := by
  intro e
  induction e with
  | zero =>
    intro g hg br h
    obtain rfl : g = 16 := by omega
    exact pk_le 16 16 (fun _ => hp br h) (fun h => absurd h (by omega))
  | succ e ih =>
    intro g hg br h
    have kg : (nI g).toNatClampNeg = g := nI_clamp (by omega)
    refine pk_le 16 g (fun h => absurd h (by omega)) (fun _ => ⟨vp_in_nI (by omega) (by omega), nm_r (by rw [kg]) (nm_r (nI_1 g) (ih (g + 1) (by omega) (upd br g 0) (fun j hj => ?_)))⟩)
    by_cases e : j = g
    · subst e; exact pk_us
    · rw [pk_un e]; exact h j (by omega)
theorem yb_p (post : SY → Prop) (gy : Int32) (a yn yf : Nat → Int32) (yb : Nat → Int64) (br re : Nat → Int32) (hp : ∀ br, (∀ g, g < 16 → br g = 0) → post (gy, a, yn, yf, yb, br, re)) : wpY_begin post (gy, a, yn, yf, yb, br, re) :=
  ⟨17, yb_2 post gy a yn yf yb re hp 16 0 rfl br (fun j h => absurd h (Nat.not_lt_zero j))⟩
theorem yx_7 (post : Int32 → SY → Prop) (a yn yf : Nat → Int32) (yb : Nat → Int64) (re : Nat → Int32) (G i : Nat) (hG : G < 16) (hi : i < 3 ^ G)
    (hy : i + 1 < 3 ^ G → ∀ br, dm_M br (dg_d G (i + 1)) G → post 1 (nI G, a, yn, yf, yb, br, re)) (hn : i + 1 = 3 ^ G → ∀ br, post 0 (nI G, a, yn, yf, yb, br, re)) :
    ∀ g : Nat, g ≤ G → ∀ br, dg_c i (G - g) → (∀ h, h < g → br h = nI (dg_d G i h)) → (∀ h, g ≤ h → h < G → br h = 0) → wY_next_7 post (nI G) (g + 1) (nI g + (-1)) a yn yf yb br re := by
  intro g
  induction g with
  | zero =>
    intro _ br hc _ _
    exact br_t (by decide) (hn (dg_end hc hi) br)
  | succ g ih =>
    intro hg br hc h1 h2
    have kg : (nI g).toNatClampNeg = g := nI_clamp (by omega)
    have vg : vp_in (nI g) 16 := vp_in_nI (by omega) (by omega)
    have ed : br (nI g).toNatClampNeg = nI (dg_d G i g) := by rw [kg]; exact h1 g (by omega)
    have dl := dg_lt G i g
    rw [show G - (g + 1) = G - 1 - g by omega] at hc
    rw [pk_m1]
    refine br_f (nI_pos (by omega)) ⟨vg, ?_⟩
    refine pk_le 2 (dg_d G i g) (fun w => ⟨vg, nm_r (by rw [kg]) (nm_e (ih (by omega) (upd br g 0) ?_ (fun h hh => ?_) (fun h hh1 hh2 => ?_)))⟩) (fun w => ⟨vg, vg, nm_r (by rw [ed, kg, nI_1]) (hy (dg_le hc w (by omega) hi) _ (fun h hh => ?_))⟩) rfl ed
    · have d2 : dg_d G i g = 2 := by omega
      have := dg_cs hc d2
      rw [show G - 1 - g + 1 = G - g by omega] at this
      exact this
    · rw [pk_un (by omega)]
      exact h1 h (by omega)
    · by_cases e : h = g
      · subst e; exact pk_us
      · rw [pk_un e]; exact h2 h (by omega) hh2
    · by_cases e : h = g
      · subst e
        rw [pk_us]
        exact congrArg nI (dg_n1 hc w).symm
      · rw [pk_un e]
        by_cases l : h < g
        · rw [h1 h (by omega)]
          exact congrArg (fun t => nI (t % 3)) (dg_n2 hc w (show G - 1 - g < G - 1 - h by omega)).symm
        · rw [h2 h (by omega) hh]
          exact (congrArg nI (dg_n0 hc (show G - 1 - h < G - 1 - g by omega))).symm
theorem yx_p (post : Int32 → SY → Prop) (a yn yf : Nat → Int32) (yb : Nat → Int64) (br re : Nat → Int32) (G i : Nat) (hG : G < 16) (hi : i < 3 ^ G) (hb : dm_M br (dg_d G i) G)
    (hy : i + 1 < 3 ^ G → ∀ br, dm_M br (dg_d G (i + 1)) G → post 1 (nI G, a, yn, yf, yb, br, re)) (hn : i + 1 = 3 ^ G → ∀ br, post 0 (nI G, a, yn, yf, yb, br, re)) : wpY_next post (nI G, a, yn, yf, yb, br, re) :=
  nm_r (Int32.sub_eq_add_neg (nI G) 1) ⟨_, yx_7 post a yn yf yb re G i hG hi hy hn G (Nat.le_refl _) br (by rw [Nat.sub_self]; exact dg_c0 i) hb (fun h h1 h2 => absurd h1 (by omega))⟩
theorem yt_12 (post : Int32 → SY → Prop) (x1 x2 : Int32) (Q : Nat → Prop) (a yn yf : Nat → Int32) (yb : Nat → Int64) (ha : bd_ok a) (L : List (Nat × Nat × Int64)) (hL : gp_ok a L) (hG : L.length ≤ 8) (hM : gp_M L yn yf yb)
    (hq : ∀ (i : Nat) (br : Nat → Int32) (A B : Prop), dm_M br (dg_d L.length i) L.length → (Q i → A) → (¬ Q i → B) → (x1 < 0 → A) ∧ (¬ x1 < 0 → (vp_in x1 16 ∧ ((br x1.toNatClampNeg = x2 → A) ∧ (¬ br x1.toNatClampNeg = x2 → B)))))
    (hp : ∀ br re, post (nI (ct_n (fun i => Q i ∧ so_I a L i) (3 ^ L.length))) (nI L.length, a, yn, yf, yb, br, re)) :
    ∀ e i : Nat, i + e = 3 ^ L.length → ∀ (x4 : Int32) br re, (i < 3 ^ L.length → ¬ x4 = 0 ∧ dm_M br (dg_d L.length i) L.length) → (i = 3 ^ L.length → x4 = 0) → wY_count_12 post x1 x2 (e + 1) (nI (ct_n (fun i => Q i ∧ so_I a L i) i)) x4 (nI i) (nI L.length) a yn yf yb br re := by
  have h3 := dg_8 hG
  intro e
  induction e with
  | zero =>
    intro i hi x4 br re _ hx
    obtain rfl : i = 3 ^ L.length := by omega
    exact pk_le 6561 (3 ^ L.length) (fun _ => hp br re) (fun _ => br_t (hx rfl) (hp br re))
  | succ e ih =>
    intro i hi x4 br re hx _
    obtain ⟨hx, hb⟩ := hx (by omega)
    have ih := ih (i + 1) (by omega)
    have nx : ∀ (c : Nat) (br re : Nat → Int32), c = ct_n (fun i => Q i ∧ so_I a L i) (i + 1) → dm_M br (dg_d L.length i) L.length → wY_count_49 post (wY_count_12 post x1 x2 (e + 1)) x1 x2 (nI c) (nI i) (nI L.length) a yn yf yb br re := by
      intro c br re hc hb
      subst hc
      unfold wY_count_49
      exact yx_p _ a yn yf yb br re L.length i (by omega) (by omega) hb (fun w br hb => nm_r (nI_1 i) (ih 1 br re (fun _ => ⟨by decide, hb⟩) (fun t => absurd t (by omega)))) (fun w br => nm_r (nI_1 i) (ih 0 br re (fun t => absurd t (by omega)) (fun _ => rfl)))
    refine pk_le 6561 i (fun h => absurd h (by omega)) (fun _ => br_f hx (hq i br _ _ hb (fun w => ?_) (fun w => nx _ br re (ct_x (fun t => w t.1)).symm hb)))
    unfold wY_count_39
    exact yv_p _ a yn yf yb br re ha L hL (by omega) hM _ (dg_lt L.length i) hb (fun s re => br_f (by decide) (nm_r (nI_1 _) (nx _ br re (ct_y (P := fun i => Q i ∧ so_I a L i) ⟨w, s⟩).symm hb))) (fun s re => br_t rfl (nx _ br re (ct_x (fun t => s t.2)).symm hb))
theorem yt_p (post : Int32 → SY → Prop) (x1 x2 : Int32) (Q : Nat → Prop) (a yn yf : Nat → Int32) (yb : Nat → Int64) (br re : Nat → Int32) (ha : bd_ok a) (L : List (Nat × Nat × Int64)) (hL : gp_ok a L) (hG : L.length ≤ 8) (hM : gp_M L yn yf yb)
    (hq : ∀ (i : Nat) (br : Nat → Int32) (A B : Prop), dm_M br (dg_d L.length i) L.length → (Q i → A) → (¬ Q i → B) → (x1 < 0 → A) ∧ (¬ x1 < 0 → (vp_in x1 16 ∧ ((br x1.toNatClampNeg = x2 → A) ∧ (¬ br x1.toNatClampNeg = x2 → B)))))
    (hp : ∀ br re, post (nI (ct_n (fun i => Q i ∧ so_I a L i) (3 ^ L.length))) (nI L.length, a, yn, yf, yb, br, re)) : wpY_count post (nI L.length, a, yn, yf, yb, br, re) x1 x2 := by
  unfold wpY_count
  refine yb_p _ (nI L.length) a yn yf yb br re (fun br hb => ⟨_, yt_12 post x1 x2 Q a yn yf yb ha L hL hG hM hq hp (3 ^ L.length) 0 (by omega) 1 br re (fun _ => ⟨by decide, fun g hg => ?_⟩) (fun t => ?_)⟩)
  · rw [hb g (by omega), dg_0]
    rfl
  · have := dg_p L.length
    omega
/-- all solutions -/
theorem yt_a (post : Int32 → SY → Prop) (a yn yf : Nat → Int32) (yb : Nat → Int64) (br re : Nat → Int32) (ha : bd_ok a) (L : List (Nat × Nat × Int64)) (hL : gp_ok a L) (hG : L.length ≤ 8) (hM : gp_M L yn yf yb)
    (hp : ∀ br re, post (nI (ct_n (so_I a L) (3 ^ L.length))) (nI L.length, a, yn, yf, yb, br, re)) : wpY_count post (nI L.length, a, yn, yf, yb, br, re) (-1) 0 := by
  refine yt_p post (-1) 0 (fun _ => True) a yn yf yb br re ha L hL hG hM (fun i br A B _ w _ => br_t (by decide) (w trivial)) ?_
  rw [ct_iff (P := fun i => True ∧ so_I a L i) (Q := so_I a L) (fun i _ => ⟨fun t => t.2, fun t => ⟨trivial, t⟩⟩)]
  exact hp
/-- those that give gap g e bridges -/
theorem yt_g (post : Int32 → SY → Prop) (a yn yf : Nat → Int32) (yb : Nat → Int64) (br re : Nat → Int32) (ha : bd_ok a) (L : List (Nat × Nat × Int64)) (hL : gp_ok a L) (hG : L.length ≤ 8) (hM : gp_M L yn yf yb) (g e : Nat) (hg : g < L.length) (he : e < 3)
    (hp : ∀ br re, post (nI (ct_n (so_T a L g e) (3 ^ L.length))) (nI L.length, a, yn, yf, yb, br, re)) : wpY_count post (nI L.length, a, yn, yf, yb, br, re) (nI g) (nI e) := by
  refine yt_p post (nI g) (nI e) (fun i => dg_d L.length i g = e) a yn yf yb br re ha L hL hG hM (fun i br A B hb w1 w2 => br_f (nI_pos (by omega)) ⟨vp_in_nI (by omega) (by omega), ?_⟩) hp
  have dl := dg_lt L.length i g
  exact pk_eq (dg_d L.length i g) e w1 w2 (by rw [nI_clamp (by omega)]; exact hb g hg) rfl
theorem yl_38 (post : Int32 → SY → Prop) (a yn yf : Nat → Int32) (yb : Nat → Int64) (ha : bd_ok a) (L : List (Nat × Nat × Int64)) (hL : gp_ok a L) (hG : L.length ≤ 8) (hM : gp_M L yn yf yb) (g : Nat) (hg : g < L.length)
    (hy : ∀ i, i < 3 ^ L.length → so_I a L i → (∀ j, j < i → ¬ so_I a L j) → ∀ br re, post (nI (dg_d L.length i g)) (nI L.length, a, yn, yf, yb, br, re))
    (hn : (∀ i, i < 3 ^ L.length → ¬ so_I a L i) → ∀ br re, post (-1) (nI L.length, a, yn, yf, yb, br, re)) :
    ∀ e i : Nat, i + e = 3 ^ L.length → (∀ j, j < i → ¬ so_I a L j) → ∀ (x2 : Int32) br re, (i < 3 ^ L.length → ¬ x2 = 0 ∧ dm_M br (dg_d L.length i) L.length) → (i = 3 ^ L.length → x2 = 0) → wY_least_38 post (nI g) (e + 1) x2 (nI i) (nI L.length) a yn yf yb br re := by
  have h3 := dg_8 hG
  intro e
  induction e with
  | zero =>
    intro i hi h x4 br re _ hx
    obtain rfl : i = 3 ^ L.length := by omega
    exact pk_le 6561 (3 ^ L.length) (fun _ => hn h br re) (fun _ => br_t (hx rfl) (hn h br re))
  | succ e ih =>
    intro i hi h x4 br re hx _
    obtain ⟨hx, hb⟩ := hx (by omega)
    have ih := ih (i + 1) (by omega)
    refine pk_le 6561 i (fun h => absurd h (by omega)) (fun _ => br_f hx ?_)
    refine yv_p _ a yn yf yb br re ha L hL (by omega) hM _ (dg_lt L.length i) hb (fun s re => br_f (by decide) ⟨vp_in_nI (by omega) (by omega), ?_⟩) (fun s re => br_t rfl ?_)
    · rw [nI_clamp (by omega), hb g hg]
      exact hy i (by omega) s h br re
    · have h' : ∀ j, j < i + 1 → ¬ so_I a L j := fun j hj => by
        by_cases e : j = i
        · subst e; exact s
        · exact h j (by omega)
      exact yx_p _ a yn yf yb br re L.length i (by omega) (by omega) hb (fun w br hb => nm_r (nI_1 i) (ih h' 1 br re (fun _ => ⟨by decide, hb⟩) (fun t => absurd t (by omega)))) (fun w br => nm_r (nI_1 i) (ih h' 0 br re (fun t => absurd t (by omega)) (fun _ => rfl)))
end
section
theorem xy_9 (post : SX → Prop) (ik sk : Int32) (a ic ne fe : Nat → Int32) (cb : Nat → Int64) (lb ta lk : Nat → Int32) (G i : Nat) (hG : G ≤ 14) (hi : i < 6561)
    (hp : ∀ la, dm_M la (dg_d G i) G → post (ik, nI G, sk, a, ic, ne, fe, cb, lb, ta, la, lk)) :
    ∀ g : Nat, g ≤ G → ∀ la, (∀ h, g ≤ h → h < G → la h = nI (dg_d G i h)) → wX_layBridges_9 post ik (nI G) sk (g + 1) (nI (i / 3 ^ (G - g))) (nI g + (-1)) a ic ne fe cb lb ta la lk := by
  intro g
  induction g with
  | zero =>
    intro _ la h
    exact br_t (by decide) (hp la (fun g hg => h g (Nat.zero_le _) hg))
  | succ g ih =>
    intro hg la h
    have kg : (nI g).toNatClampNeg = g := nI_clamp (by omega)
    have vg : vp_in (nI g) 14 := vp_in_nI (by omega) (by omega)
    have hd : i / 3 ^ (G - 1 - g) ≤ i := Nat.div_le_self _ _
    have e1 : nI (i / 3 ^ (G - 1 - g)) - nI (i / 3 ^ (G - 1 - g)) / 3 * 3 = nI (dg_d G i g) := pk_rem (d := 3) (by omega) (by omega) (by omega)
    have e2 : nI (i / 3 ^ (G - 1 - g)) / 3 = nI (i / 3 ^ (G - g)) := by
      have := pk_div (a := i / 3 ^ (G - 1 - g)) (d := 3) (by omega) (by omega) (by omega)
      rw [Nat.div_div_eq_div_mul, ← dg_ps, show G - 1 - g + 1 = G - g by omega] at this
      exact this
    rw [pk_m1, show G - (g + 1) = G - 1 - g by omega]
    refine br_f (nI_pos (by omega)) ⟨by decide, vg, nm_r (by rw [kg, e1]) ⟨by decide, nm_r e2 (nm_e (ih (by omega) (upd la g (nI (dg_d G i g))) (fun j h1 h2 => ?_)))⟩⟩
    by_cases e : j = g
    · subst e; exact pk_us
    · rw [pk_un e]; exact h j (by omega) h2
theorem xy_p (post : SX → Prop) (ik sk : Int32) (a ic ne fe : Nat → Int32) (cb : Nat → Int64) (lb ta la lk : Nat → Int32) (G i : Nat) (hG : G ≤ 14) (hi : i < 6561)
    (hp : ∀ la, dm_M la (dg_d G i) G → post (ik, nI G, sk, a, ic, ne, fe, cb, lb, ta, la, lk)) : wpX_layBridges post (ik, nI G, sk, a, ic, ne, fe, cb, lb, ta, la, lk) (nI i) := by
  refine nm_r (Int32.sub_eq_add_neg (nI G) 1) ⟨G + 1, ?_⟩
  have h := xy_9 post ik sk a ic ne fe cb lb ta lk G i hG hi hp G (Nat.le_refl _) la (fun h h1 h2 => absurd h1 (by omega))
  rw [Nat.sub_self, Nat.pow_zero, Nat.div_one] at h
  exact h
theorem xm_93 (post : Int32 → SX → Prop) (gk sk : Int32) (a ic ne fe : Nat → Int32) (cb : Nat → Int64) (lb ta la lk : Nat → Int32) (h7 : (is_l a 36).length ≤ 7) (hI : is_M (is_l a 36) ic) (L : List (Nat × Nat × Int64)) (d : Nat → Nat)
    (hl : ∀ c, c < 36 → ¬ a c = 0 → lk c = a c - sm_m L d c L.length)
    (hy : so_M a L d → post 1 (nI (is_l a 36).length, gk, sk, a, ic, ne, fe, cb, lb, ta, la, lk)) (hn : ¬ so_M a L d → post 0 (nI (is_l a 36).length, gk, sk, a, ic, ne, fe, cb, lb, ta, la, lk)) :
    ∀ e i : Nat, i + e = (is_l a 36).length → (∀ j, j < i → lk (is_c (is_l a 36) j) = 0) → wX_numbersAreMet_93 post (nI (is_l a 36).length) gk sk a ic ne fe cb lb ta la lk (e + 1) (nI i) := by
  have sub0 : ∀ x y : Int32, x - y = 0 ↔ y = x := by
    intro x y
    constructor
    · intro h
      have h2 : x - y + y = 0 + y := by rw [h]
      rw [Int32.sub_add_cancel, Int32.zero_add] at h2
      exact h2.symm
    · intro h
      rw [h, Int32.sub_self]
  intro e
  induction e with
  | zero =>
    intro i hi h
    refine pk_le (is_l a 36).length i (fun _ => hy (fun c hc z => ?_)) (fun h => absurd h (by omega))
    obtain ⟨j, hj, rfl⟩ := is_ex (is_l a 36) ((is_mem a c 36).mpr ⟨hc, z⟩)
    have q := h j (by omega)
    rw [hl _ hc z] at q
    exact (sub0 _ _).mp q
  | succ e ih =>
    intro i hi h
    have hc := is_c36 a (show i < (is_l a 36).length by omega)
    have ki : (nI i).toNatClampNeg = i := nI_clamp (by omega)
    have ec : ic (nI i).toNatClampNeg = nI (is_c (is_l a 36) i) := by rw [ki]; exact hI i (by omega)
    have kc : (nI (is_c (is_l a 36) i)).toNatClampNeg = is_c (is_l a 36) i := nI_clamp (by omega)
    refine pk_le (is_l a 36).length i (fun h => absurd h (by omega)) (fun _ => ⟨vp_in_nI (by omega) (by omega), ?_⟩)
    rw [ec, kc]
    refine ⟨vp_in_nI hc.1 (by omega), br_c (fun w => nm_r (nI_1 i) (ih (i + 1) (by omega) (fun j hj => ?_))) (fun w => hn (fun s => w ?_))⟩
    · by_cases e : j = i
      · subst e; exact w
      · exact h j (by omega)
    · rw [hl _ hc.1 hc.2]
      exact (sub0 _ _).mpr (s _ hc.1 hc.2)
theorem xm_37 (post : Int32 → SX → Prop) (sk : Int32) (a ic ne fe : Nat → Int32) (cb : Nat → Int64) (lb ta la : Nat → Int32) (h7 : (is_l a 36).length ≤ 7) (hI : is_M (is_l a 36) ic) (L : List (Nat × Nat × Int64)) (hL : gp_ok a L) (hG : L.length ≤ 14) (hM : gp_M L ne fe cb) (d : Nat → Nat) (hb : dm_M la d L.length)
    (hy : so_M a L d → ∀ lk, post 1 (nI (is_l a 36).length, nI L.length, sk, a, ic, ne, fe, cb, lb, ta, la, lk)) (hn : ¬ so_M a L d → ∀ lk, post 0 (nI (is_l a 36).length, nI L.length, sk, a, ic, ne, fe, cb, lb, ta, la, lk)) :
    ∀ e g : Nat, g + e = L.length → ∀ lk, (∀ c, c < 36 → ¬ a c = 0 → lk c = a c - sm_m L d c g) → wX_numbersAreMet_37 post (nI (is_l a 36).length) (nI L.length) sk (e + 1) (nI g) a ic ne fe cb lb ta la lk := by
  have sub2 : ∀ x y z : Int32, x - y - z = x - (y + z) := by
    intro x y z
    rw [Int32.sub_eq_add_neg, Int32.sub_eq_add_neg, Int32.sub_eq_add_neg, Int32.neg_add, Int32.sub_eq_add_neg, Int32.add_assoc]
  intro e
  induction e with
  | zero =>
    intro g hg lk hl
    obtain rfl : g = L.length := by omega
    exact pk_le L.length L.length (fun _ => ⟨_, xm_93 post (nI L.length) sk a ic ne fe cb lb ta la lk h7 hI L d hl (fun t => hy t lk) (fun t => hn t lk) (is_l a 36).length 0 (by omega) (fun j h => absurd h (Nat.not_lt_zero j))⟩) (fun h => absurd h (by omega))
  | succ e ih =>
    intro g hg lk hl
    have kg : (nI g).toNatClampNeg = g := nI_clamp (by omega)
    have vg : vp_in (nI g) 14 := vp_in_nI (by omega) (by omega)
    have m := hM g (by omega)
    have o := gp_at hL (show g < L.length by omega)
    have kn : (nI (gp_n L g)).toNatClampNeg = gp_n L g := nI_clamp (by omega)
    have kf : (nI (gp_f L g)).toNatClampNeg = gp_f L g := nI_clamp (by omega)
    have en : ne (nI g).toNatClampNeg = nI (gp_n L g) := by rw [kg]; exact m.1
    have ef : fe (nI g).toNatClampNeg = nI (gp_f L g) := by rw [kg]; exact m.2.1
    have eb : la (nI g).toNatClampNeg = nI (d g) := by rw [kg]; exact hb g (by omega)
    have vn : vp_in (nI (gp_n L g)) 36 := vp_in_nI (by omega) (by omega)
    have vf : vp_in (nI (gp_f L g)) 36 := vp_in_nI (by omega) (by omega)
    have ih := ih (g + 1) (by omega) (upd (upd lk (gp_n L g) (lk (gp_n L g) - nI (d g))) (gp_f L g) (lk (gp_f L g) - nI (d g))) (fun c hc z => by
      have q := hl c hc z
      by_cases e1 : c = gp_f L g
      · rw [sm_y (Or.inr e1.symm), e1, pk_us, ← e1, q, sub2]
      · rw [pk_un e1]
        by_cases e2 : c = gp_n L g
        · rw [sm_y (Or.inl e2.symm), e2, pk_us, ← e2, q, sub2]
        · rw [pk_un e2, sm_x (fun w => w.elim (fun t => e2 t.symm) (fun t => e1 t.symm)), q])
    refine pk_le L.length g (fun h => absurd h (by omega)) (fun _ => ⟨vg, ?_⟩)
    rw [en, ef, eb, kn, kf]
    exact ⟨vn, vg, vn, nm_e ⟨vg, vf, vg, vf, nm_r (by rw [pk_un (show gp_f L g ≠ gp_n L g by omega)]) (nm_r (nI_1 g) ih)⟩⟩
theorem xm_2 (post : Int32 → SX → Prop) (sk : Int32) (a ic ne fe : Nat → Int32) (cb : Nat → Int64) (lb ta la : Nat → Int32) (h7 : (is_l a 36).length ≤ 7) (hI : is_M (is_l a 36) ic) (L : List (Nat × Nat × Int64)) (hL : gp_ok a L) (hG : L.length ≤ 14) (hM : gp_M L ne fe cb) (d : Nat → Nat) (hb : dm_M la d L.length)
    (hy : so_M a L d → ∀ lk, post 1 (nI (is_l a 36).length, nI L.length, sk, a, ic, ne, fe, cb, lb, ta, la, lk)) (hn : ¬ so_M a L d → ∀ lk, post 0 (nI (is_l a 36).length, nI L.length, sk, a, ic, ne, fe, cb, lb, ta, la, lk)) :
    ∀ e i : Nat, i + e = (is_l a 36).length → ∀ lk, (∀ j, j < i → lk (is_c (is_l a 36) j) = a (is_c (is_l a 36) j)) → wX_numbersAreMet_2 post (nI (is_l a 36).length) (nI L.length) sk (e + 1) (nI i) a ic ne fe cb lb ta la lk := by
  intro e
  induction e with
  | zero =>
    intro i hi lk h
    refine pk_le (is_l a 36).length i (fun _ => ⟨_, xm_37 post sk a ic ne fe cb lb ta la h7 hI L hL hG hM d hb hy hn L.length 0 (by omega) lk (fun c hc z => ?_)⟩) (fun h => absurd h (by omega))
    obtain ⟨j, hj, rfl⟩ := is_ex (is_l a 36) ((is_mem a c 36).mpr ⟨hc, z⟩)
    rw [h j (by omega)]
    exact (Int32.sub_zero _).symm
  | succ e ih =>
    intro i hi lk h
    have hc := is_c36 a (show i < (is_l a 36).length by omega)
    have ki : (nI i).toNatClampNeg = i := nI_clamp (by omega)
    have ec : ic (nI i).toNatClampNeg = nI (is_c (is_l a 36) i) := by rw [ki]; exact hI i (by omega)
    have kc : (nI (is_c (is_l a 36) i)).toNatClampNeg = is_c (is_l a 36) i := nI_clamp (by omega)
    have vc : vp_in (nI (is_c (is_l a 36) i)) 36 := vp_in_nI hc.1 (by omega)
    refine pk_le (is_l a 36).length i (fun h => absurd h (by omega)) (fun _ => ⟨vp_in_nI (by omega) (by omega), nm_r ec ⟨vc, vc, nm_r (by rw [kc]) (nm_r (nI_1 i) (ih (i + 1) (by omega) (upd lk (is_c (is_l a 36) i) (a (is_c (is_l a 36) i))) (fun j hj => ?_)))⟩⟩)
    by_cases e : is_c (is_l a 36) j = is_c (is_l a 36) i
    · rw [e, pk_us]
    · rw [pk_un e]
      exact h j (by
        have : j ≠ i := fun t => e (by rw [t])
        omega)
theorem xm_p (post : Int32 → SX → Prop) (sk : Int32) (a ic ne fe : Nat → Int32) (cb : Nat → Int64) (lb ta la lk : Nat → Int32) (h7 : (is_l a 36).length ≤ 7) (hI : is_M (is_l a 36) ic) (L : List (Nat × Nat × Int64)) (hL : gp_ok a L) (hG : L.length ≤ 14) (hM : gp_M L ne fe cb) (d : Nat → Nat) (hb : dm_M la d L.length)
    (hy : so_M a L d → ∀ lk, post 1 (nI (is_l a 36).length, nI L.length, sk, a, ic, ne, fe, cb, lb, ta, la, lk)) (hn : ¬ so_M a L d → ∀ lk, post 0 (nI (is_l a 36).length, nI L.length, sk, a, ic, ne, fe, cb, lb, ta, la, lk)) : wpX_numbersAreMet post (nI (is_l a 36).length, nI L.length, sk, a, ic, ne, fe, cb, lb, ta, la, lk) :=
  ⟨_, xm_2 post sk a ic ne fe cb lb ta la h7 hI L hL hG hM d hb hy hn (is_l a 36).length 0 (by omega) lk (fun j h => absurd h (Nat.not_lt_zero j))⟩
theorem xn_4 (post : Int32 → Prop) (ik sk : Int32) (a ic ne fe : Nat → Int32) (cb : Nat → Int64) (lb ta la lk : Nat → Int32) (L : List (Nat × Nat × Int64)) (hG : L.length ≤ 14) (hM : gp_M L ne fe cb) (d : Nat → Nat) (hd : ∀ g, d g < 3) (hb : dm_M la d L.length)
    (hy : so_A L d L.length → post 1) (hn : ¬ so_A L d L.length → post 0) :
    ∀ e g : Nat, g + e = L.length → so_A L d g → wX_noBridgesCross_4 post ik (nI L.length) sk a ic ne fe cb lb ta la lk (e + 1) (cv_c L d g) (nI g) := by
  intro e
  induction e with
  | zero =>
    intro g hg h
    obtain rfl : g = L.length := by omega
    exact pk_le L.length L.length (fun _ => hy h) (fun h => absurd h (by omega))
  | succ e ih =>
    intro g hg h
    have kg : (nI g).toNatClampNeg = g := nI_clamp (by omega)
    have vg : vp_in (nI g) 14 := vp_in_nI (by omega) (by omega)
    have ec : cb (nI g).toNatClampNeg = gp_b L g := by rw [kg]; exact (hM g (by omega)).2.2
    have eb : la (nI g).toNatClampNeg = nI (d g) := by rw [kg]; exact hb g (by omega)
    have d1 := hd g
    have ih := ih (g + 1) (by omega)
    refine pk_le L.length g (fun h => absurd h (by omega)) (fun _ => ⟨vg, ?_⟩)
    rw [ec]
    refine pk_le (d g) 0 (fun w => ?_) (fun w => ⟨vg, br_c (fun q => ⟨vg, ?_⟩) (fun q => hn (so_An (by omega) w q))⟩) eb
    · have e0 : cv_c L d (g + 1) = cv_c L d g := if_neg (by omega)
      rw [e0] at ih
      exact nm_r (nI_1 g) (ih (so_As h (fun p => absurd p (by omega))))
    · have e1 : cv_c L d (g + 1) = cv_c L d g ||| gp_b L g := if_pos w
      rw [e1] at ih
      exact nm_e (nm_r (nI_1 g) (ih (so_As h (fun _ => q))))
theorem xn_p (post : Int32 → Prop) (ik sk : Int32) (a ic ne fe : Nat → Int32) (cb : Nat → Int64) (lb ta la lk : Nat → Int32) (L : List (Nat × Nat × Int64)) (hG : L.length ≤ 14) (hM : gp_M L ne fe cb) (d : Nat → Nat) (hd : ∀ g, d g < 3) (hb : dm_M la d L.length)
    (hy : so_A L d L.length → post 1) (hn : ¬ so_A L d L.length → post 0) : wpX_noBridgesCross post (ik, nI L.length, sk, a, ic, ne, fe, cb, lb, ta, la, lk) :=
  ⟨_, xn_4 post ik sk a ic ne fe cb lb ta la lk L hG hM d hd hb hy hn L.length 0 (by omega) (so_A0 L d)⟩
end
section
/-- a set as the bits of a long -/
def rb_M (s : Nat → Bool) (w : Int64) : Prop := ∀ j, j < 64 → bl_t w j = s j
theorem rb_two {n f : Nat} (hn : n < 36) (hf : f < 36) {j : Nat} (hj : j < 64) : bl_t (sh_b n ||| sh_b f) j = (decide (j = n) || decide (j = f)) := by
  rw [bl_or, bl_sh (by omega) hj, bl_sh (by omega) hj]
theorem rb_u {s : Nat → Bool} {w : Int64} (h : rb_M s w) {n f : Nat} (hn : n < 36) (hf : f < 36) : rb_M (fun c => s c || decide (c = n) || decide (c = f)) (w ||| (sh_b n ||| sh_b f)) := by
  intro j hj
  rw [bl_or, rb_two hn hf hj, h j hj]
  exact (Bool.or_assoc _ _ _).symm
theorem rb_z {s : Nat → Bool} {w : Int64} (h : rb_M s w) {n f : Nat} (hn : n < 36) (hf : f < 36) : w &&& (sh_b n ||| sh_b f) = 0 ↔ ¬ (s n = true ∨ s f = true) := by
  rw [bl_z]
  constructor
  · intro q t
    rcases t with t | t
    · have := q n (by omega)
      rw [bl_and, rb_two hn hf (by omega), h n (by omega), t, decide_eq_true (show n = n from rfl), Bool.true_or] at this
      exact absurd this (by decide)
    · have := q f (by omega)
      rw [bl_and, rb_two hn hf (by omega), h f (by omega), t, decide_eq_true (show f = f from rfl), Bool.or_true] at this
      exact absurd this (by decide)
  · intro q j hj
    rw [bl_and, rb_two hn hf hj, h j hj]
    by_cases e1 : j = n
    · subst e1
      have : s j = false := Bool.eq_false_iff.mpr (fun t => q (Or.inl t))
      rw [this, Bool.false_and]
    · by_cases e2 : j = f
      · subst e2
        have : s j = false := Bool.eq_false_iff.mpr (fun t => q (Or.inr t))
        rw [this, Bool.false_and]
      · rw [decide_eq_false e1, decide_eq_false e2, Bool.or_false, Bool.and_false]
theorem xr_5 (post : Int64 → Prop) (ik sk : Int32) (a ic ne fe : Nat → Int32) (cb : Nat → Int64) (lb ta la lk : Nat → Int32) (L : List (Nat × Nat × Int64)) (hL : gp_ok a L) (hG : L.length ≤ 14) (hM : gp_M L ne fe cb) (d : Nat → Nat) (hd : ∀ g, d g < 3) (hb : dm_M la d L.length) (s : Nat → Bool)
    (hp : ∀ w, rb_M (jn_r L d s L.length) w → post w) :
    ∀ e g : Nat, g + e = L.length → ∀ w, rb_M (jn_r L d s g) w → wX_reachFurther_5 post ik (nI L.length) sk a ic ne fe cb lb ta la lk (e + 1) w (nI g) := by
  intro e
  induction e with
  | zero =>
    intro g hg w hw
    obtain rfl : g = L.length := by omega
    exact pk_le L.length L.length (fun _ => hp w hw) (fun h => absurd h (by omega))
  | succ e ih =>
    intro g hg w hw
    have kg : (nI g).toNatClampNeg = g := nI_clamp (by omega)
    have vg : vp_in (nI g) 14 := vp_in_nI (by omega) (by omega)
    have m := hM g (by omega)
    have o := gp_at hL (show g < L.length by omega)
    have en : ne (nI g).toNatClampNeg = nI (gp_n L g) := by rw [kg]; exact m.1
    have ef : fe (nI g).toNatClampNeg = nI (gp_f L g) := by rw [kg]; exact m.2.1
    have eb : la (nI g).toNatClampNeg = nI (d g) := by rw [kg]; exact hb g (by omega)
    have ee : ((1 : Int64) <<< ((ne (nI g).toNatClampNeg).toInt64 &&& 63)) ||| ((1 : Int64) <<< ((fe (nI g).toNatClampNeg).toInt64 &&& 63)) = sh_b (gp_n L g) ||| sh_b (gp_f L g) := by
      rw [en, ef]
      rfl
    have hz := rb_z hw (show gp_n L g < 36 by omega) o.2.1
    have d1 := hd g
    have ih := ih (g + 1) (by omega)
    have stay : ¬ (0 < d g ∧ (jn_r L d s g (gp_n L g) = true ∨ jn_r L d s g (gp_f L g) = true)) → wX_reachFurther_5 post ik (nI L.length) sk a ic ne fe cb lb ta la lk (e + 1) w (nI (g + 1)) := by
      intro t
      rw [jn_s0 t] at ih
      exact ih w hw
    refine pk_le L.length g (fun h => absurd h (by omega)) (fun _ => ⟨vg, vg, nm_r ee ⟨vg, ?_⟩⟩)
    refine pk_le (d g) 0 (fun w => nm_r (nI_1 g) (stay (fun t => absurd t.1 (by omega)))) (fun p => ?_) eb
    refine br_c (fun q => nm_r (nI_1 g) (stay (fun t => hz.mp q t.2))) (fun q => nm_e (nm_r (nI_1 g) ?_))
    have t : jn_r L d s g (gp_n L g) = true ∨ jn_r L d s g (gp_f L g) = true := Decidable.byContradiction (fun t => q (hz.mpr t))
    rw [jn_s1 p t] at ih
    exact ih _ (rb_u hw (by omega) o.2.1)
theorem xr_p (post : Int64 → Prop) (ik sk : Int32) (a ic ne fe : Nat → Int32) (cb : Nat → Int64) (lb ta la lk : Nat → Int32) (L : List (Nat × Nat × Int64)) (hL : gp_ok a L) (hG : L.length ≤ 14) (hM : gp_M L ne fe cb) (d : Nat → Nat) (hd : ∀ g, d g < 3) (hb : dm_M la d L.length) (s : Nat → Bool) (w : Int64) (hw : rb_M s w)
    (hp : ∀ w, rb_M (jn_r L d s L.length) w → post w) : wpX_reachFurther post (ik, nI L.length, sk, a, ic, ne, fe, cb, lb, ta, la, lk) w :=
  ⟨_, xr_5 post ik sk a ic ne fe cb lb ta la lk L hL hG hM d hd hb s hp L.length 0 (by omega) w hw⟩
theorem xj_50 (post : Int32 → Prop) (sk : Int32) (a ic ne fe : Nat → Int32) (cb : Nat → Int64) (lb ta la lk : Nat → Int32) (h7 : (is_l a 36).length ≤ 7) (L : List (Nat × Nat × Int64)) (hL : gp_ok a L) (hG : L.length ≤ 14) (hM : gp_M L ne fe cb) (d : Nat → Nat) (hd : ∀ g, d g < 3) (hb : dm_M la d L.length) (x1 : Int64) (h1 : rb_M (jn_p a) x1)
    (hy : so_J a L d → post 1) (hn : ¬ so_J a L d → post 0) :
    ∀ e r : Nat, r + 1 + e = (is_l a 36).length → ∀ w, rb_M (jn_i L d (jn_0 a) r) w → wX_allIslandsAreJoined_50 post x1 (nI (is_l a 36).length) (nI L.length) sk a ic ne fe cb lb ta la lk (e + 1) w (nI (r + 1)) := by
  intro e
  induction e with
  | zero =>
    intro r hr w hw
    have e7 := jn_7 hL d (k := r) (by omega) (by omega)
    refine pk_le (is_l a 36).length (r + 1) (fun _ => br_c (fun q => hy (fun c hc z => ?_)) (fun q => hn (fun s => q (bl_ext (fun j hj => ?_))))) (fun h => absurd h (by omega))
    · rw [e7, ← hw c (by omega), q, h1 c (by omega)]
      exact decide_eq_true ⟨hc, z⟩
    · rw [hw j hj, h1 j hj]
      cases t : jn_i L d (jn_0 a) r j with
      | true => exact (jn_sub hL d r j t).symm
      | false =>
        cases u : jn_p a j with
        | false => rfl
        | true =>
          have u := of_decide_eq_true u
          have := s j u.1 u.2
          rw [e7, t] at this
          exact absurd this (by decide)
  | succ e ih =>
    intro r hr w hw
    exact pk_le (is_l a 36).length (r + 1) (fun h => absurd h (by omega)) (fun _ => xr_p _ (nI (is_l a 36).length) sk a ic ne fe cb lb ta la lk L hL hG hM d hd hb _ w hw (fun w hw => nm_r (nI_1 (r + 1)) (ih (r + 1) (by omega) w hw)))
theorem xj_13 (post : Int32 → Prop) (sk : Int32) (a ic ne fe : Nat → Int32) (cb : Nat → Int64) (lb ta la lk : Nat → Int32) (h7 : (is_l a 36).length ≤ 7) (h0 : 0 < (is_l a 36).length) (hI : is_M (is_l a 36) ic) (L : List (Nat × Nat × Int64)) (hL : gp_ok a L) (hG : L.length ≤ 14) (hM : gp_M L ne fe cb) (d : Nat → Nat) (hd : ∀ g, d g < 3) (hb : dm_M la d L.length)
    (hy : so_J a L d → post 1) (hn : ¬ so_J a L d → post 0) :
    ∀ e i : Nat, i + e = (is_l a 36).length → ∀ x1 : Int64, (∀ j, j < 64 → (bl_t x1 j = true ↔ j ∈ (is_l a 36).take i)) → wX_allIslandsAreJoined_13 post (nI (is_l a 36).length) (nI L.length) sk a ic ne fe cb lb ta la lk (e + 1) x1 (nI i) := by
  intro e
  induction e with
  | zero =>
    intro i hi x1 hx
    rw [List.take_of_length_le (by omega)] at hx
    have hc := is_c36 a h0
    have e0 : (1 : Int64) <<< ((ic 0).toInt64 &&& 63) = sh_b (is_c (is_l a 36) 0) := by
      rw [hI 0 h0]
      rfl
    refine pk_le (is_l a 36).length i (fun _ => nm_r e0 ⟨_, xj_50 post sk a ic ne fe cb lb ta la lk h7 L hL hG hM d hd hb x1 (fun j hj => ?_) hy hn ((is_l a 36).length - 1) 0 (by omega) _ (fun j hj => ?_)⟩) (fun h => absurd h (by omega))
    · have q := (hx j hj).trans (is_mem a j 36)
      by_cases t : j < 36 ∧ ¬ a j = 0
      · rw [q.mpr t]
        exact (decide_eq_true t).symm
      · have f : bl_t x1 j = false := Bool.eq_false_iff.mpr (fun w => t (q.mp w))
        rw [f]
        exact (decide_eq_false t).symm
    · rw [bl_sh (by omega) hj]
      exact decide_eq_decide.mpr ⟨fun t => ⟨h0, t⟩, fun t => t.2⟩
  | succ e ih =>
    intro i hi x1 hx
    have hc := is_c36 a (show i < (is_l a 36).length by omega)
    have ki : (nI i).toNatClampNeg = i := nI_clamp (by omega)
    have ec : ic (nI i).toNatClampNeg = nI (is_c (is_l a 36) i) := by rw [ki]; exact hI i (by omega)
    have ee : x1 ||| ((1 : Int64) <<< ((ic (nI i).toNatClampNeg).toInt64 &&& 63)) = x1 ||| sh_b (is_c (is_l a 36) i) := by
      rw [ec]
      rfl
    refine pk_le (is_l a 36).length i (fun h => absurd h (by omega)) (fun _ => ⟨vp_in_nI (by omega) (by omega), nm_r ee (nm_r (nI_1 i) (ih (i + 1) (by omega) _ (fun j hj => ?_)))⟩)
    rw [bl_or, Bool.or_eq_true, hx j hj, bl_sh (by omega) hj, decide_eq_true_eq, is_tk (is_l a 36) (show i < (is_l a 36).length by omega), List.mem_append, List.mem_singleton]
theorem xj_p (post : Int32 → Prop) (sk : Int32) (a ic ne fe : Nat → Int32) (cb : Nat → Int64) (lb ta la lk : Nat → Int32) (h7 : (is_l a 36).length ≤ 7) (hI : is_M (is_l a 36) ic) (L : List (Nat × Nat × Int64)) (hL : gp_ok a L) (hG : L.length ≤ 14) (hM : gp_M L ne fe cb) (d : Nat → Nat) (hd : ∀ g, d g < 3) (hb : dm_M la d L.length)
    (hy : so_J a L d → post 1) (hn : ¬ so_J a L d → post 0) : wpX_allIslandsAreJoined post (nI (is_l a 36).length, nI L.length, sk, a, ic, ne, fe, cb, lb, ta, la, lk) := by
  refine pk_eq (is_l a 36).length 0 (fun h => hy (fun c hc z => ?_)) (fun h => ⟨_, xj_13 post sk a ic ne fe cb lb ta la lk h7 (by omega) hI L hL hG hM d hd hb hy hn (is_l a 36).length 0 (by omega) 0 (fun j hj => ?_)⟩)
  · have q := (is_mem a c 36).mpr ⟨hc, z⟩
    rw [List.eq_nil_of_length_eq_zero h] at q
    exact absurd q List.not_mem_nil
  · rw [bl_0]
    exact ⟨fun t => absurd t (by decide), fun t => absurd t List.not_mem_nil⟩
end
section
/-- the tally holds the counts T -/
def tm_M (ta : Nat → Int32) (T : Nat → Nat → Nat) (G : Nat) : Prop := ∀ g, g < G → ∀ e, e < 3 → ta (3 * g + e) = nI (T g e)
def tm_1 (T : Nat → Nat → Nat) (d : Nat → Nat) : Nat → Nat → Nat := fun g e => if d g = e then T g e + 1 else T g e
theorem xc_2 (post : SX → Prop) (ik sk : Int32) (a ic ne fe : Nat → Int32) (cb : Nat → Int64) (lb0 la lk : Nat → Int32) (G : Nat) (hG : G ≤ 14) (d : Nat → Nat) (hd : ∀ g, d g < 3) (hb : dm_M la d G) (T : Nat → Nat → Nat)
    (hp : ∀ lb ta, tm_M ta (tm_1 T d) G → (sk = 0 → ∀ g, g < G → lb g = nI (d g)) → (¬ sk = 0 → lb = lb0) → post (ik, nI G, sk + 1, a, ic, ne, fe, cb, lb, ta, la, lk)) :
    ∀ e g : Nat, g + e = G → ∀ lb ta, tm_M ta (fun h e => if h < g then tm_1 T d h e else T h e) G → (sk = 0 → ∀ h, h < g → lb h = nI (d h)) → (¬ sk = 0 → lb = lb0) → wX_countSolution_2 post ik (nI G) sk (e + 1) (nI g) a ic ne fe cb lb ta la lk := by
  intro e
  induction e with
  | zero =>
    intro g hg lb ta ht h1 h2
    obtain rfl : g = G := by omega
    refine pk_le g g (fun _ => nm_e (hp lb ta (fun h hh e he => ?_) h1 h2)) (fun h => absurd h (by omega))
    have q := ht h hh e he
    dsimp only at q
    rw [if_pos hh] at q
    exact q
  | succ e ih =>
    intro g hg lb ta ht h1 h2
    have kg : (nI g).toNatClampNeg = g := nI_clamp (by omega)
    have vg : vp_in (nI g) 14 := vp_in_nI (by omega) (by omega)
    have d1 := hd g
    have eb : la (nI g).toNatClampNeg = nI (d g) := by rw [kg]; exact hb g (by omega)
    have ei : 3 * nI g + nI (d g) = nI (3 * g + d g) := by
      have : 3 * nI g = nI (3 * g) := pk_mul 3 g
      rw [this, nI_add]
    have ki : (nI (3 * g + d g)).toNatClampNeg = 3 * g + d g := nI_clamp (by omega)
    have vi : vp_in (nI (3 * g + d g)) 42 := vp_in_nI (by omega) (by omega)
    have ih := ih (g + 1) (by omega)
    have go : ∀ lb, (sk = 0 → ∀ h, h < g + 1 → lb h = nI (d h)) → (¬ sk = 0 → lb = lb0) → wX_countSolution_29 post (wX_countSolution_2 post ik (nI G) sk (e + 1)) (nI g) ik (nI G) sk a ic ne fe cb lb ta la lk := by
      intro lb h1 h2
      unfold wX_countSolution_29
      rw [eb, ei, ki]
      refine ⟨vg, vi, vi, nm_e (nm_r (nI_1 g) (ih lb _ (fun h hh e he => ?_) h1 h2))⟩
      have q := ht h hh e he
      dsimp only at q ⊢
      by_cases l : h < g
      · rw [if_pos l] at q
        rw [if_pos (by omega), pk_un (by omega)]
        exact q
      · rw [if_neg l] at q
        by_cases w : h = g
        · subst w
          rw [if_pos (by omega)]
          unfold tm_1
          by_cases w2 : d h = e
          · subst w2
            rw [if_pos rfl, pk_us, q, nI_1]
          · rw [if_neg w2, pk_un (by omega)]
            exact q
        · rw [if_neg (by omega), pk_un (by omega)]
          exact q
    refine pk_le G g (fun h => absurd h (by omega)) (fun _ => br_c (fun z => ⟨vg, vg, nm_r (by rw [eb, kg]) (go (upd lb g (nI (d g))) (fun _ h hh => ?_) (fun t => absurd z t))⟩) (fun z => go lb (fun t => absurd t z) h2))
    by_cases w : h = g
    · subst w; exact pk_us
    · rw [pk_un w]; exact h1 z h (by omega)
theorem xc_p (post : SX → Prop) (ik sk : Int32) (a ic ne fe : Nat → Int32) (cb : Nat → Int64) (lb0 ta la lk : Nat → Int32) (G : Nat) (hG : G ≤ 14) (d : Nat → Nat) (hd : ∀ g, d g < 3) (hb : dm_M la d G) (T : Nat → Nat → Nat) (ht : tm_M ta T G)
    (hp : ∀ lb ta, tm_M ta (tm_1 T d) G → (sk = 0 → ∀ g, g < G → lb g = nI (d g)) → (¬ sk = 0 → lb = lb0) → post (ik, nI G, sk + 1, a, ic, ne, fe, cb, lb, ta, la, lk)) : wpX_countSolution post (ik, nI G, sk, a, ic, ne, fe, cb, lb0, ta, la, lk) := by
  refine ⟨_, xc_2 post ik sk a ic ne fe cb lb0 la lk G hG d hd hb T hp G 0 (by omega) lb0 ta (fun h hh e he => ?_) (fun _ h hh => absurd hh (Nat.not_lt_zero h)) (fun _ => rfl)⟩
  dsimp only
  rw [if_neg (Nat.not_lt_zero h)]
  exact ht h hh e he
/-- what the search knows after the candidates below i -/
def xf_K (a : Nat → Int32) (L : List (Nat × Nat × Int64)) (i : Nat) (sk : Int32) (lb ta : Nat → Int32) : Prop :=
  sk = nI (ct_n (so_I a L) i) ∧ tm_M ta (fun g e => ct_n (so_T a L g e) i) L.length ∧ (∀ j, j < i → so_I a L j → (∀ h, h < j → ¬ so_I a L h) → ∀ g, g < L.length → lb g = nI (dg_d L.length j g))
theorem xf_n {a : Nat → Int32} {L : List (Nat × Nat × Int64)} {i : Nat} {sk : Int32} {lb ta : Nat → Int32} (h : xf_K a L i sk lb ta) (hn : ¬ so_I a L i) : xf_K a L (i + 1) sk lb ta := by
  refine ⟨h.1.trans (by rw [ct_x hn]), fun g hg e he => ?_, fun j hj s f g hg => ?_⟩
  · have q := h.2.1 g hg e he
    dsimp only at q ⊢
    rw [q, ct_x (P := so_T a L g e) (fun t => hn t.2)]
  · have : j ≠ i := fun t => hn (t ▸ s)
    exact h.2.2 j (by omega) s f g hg
theorem xf_y {a : Nat → Int32} {L : List (Nat × Nat × Int64)} {i : Nat} (hi : i < 6561) {sk : Int32} {lb ta lb' ta' : Nat → Int32} (h : xf_K a L i sk lb ta) (hy : so_I a L i)
    (h1 : tm_M ta' (tm_1 (fun g e => ct_n (so_T a L g e) i) (dg_d L.length i)) L.length) (h2 : sk = 0 → ∀ g, g < L.length → lb' g = nI (dg_d L.length i g)) (h3 : ¬ sk = 0 → lb' = lb) : xf_K a L (i + 1) (sk + 1) lb' ta' := by
  have hl := ct_le (so_I a L) i
  refine ⟨by rw [h.1, ct_y hy, nI_1], fun g hg e he => ?_, fun j hj s f g hg => ?_⟩
  · have q := h1 g hg e he
    unfold tm_1 at q
    dsimp only at q ⊢
    rw [q]
    by_cases w : dg_d L.length i g = e
    · rw [if_pos w, ct_y (P := so_T a L g e) ⟨w, hy⟩]
    · rw [if_neg w, ct_x (P := so_T a L g e) (fun t => w t.1)]
  · by_cases z : ct_n (so_I a L) i = 0
    · have z' : sk = 0 := by rw [h.1, z]; rfl
      have : j = i := by
        apply Decidable.byContradiction
        intro t
        exact ct_z i z j (by omega) s
      subst this
      exact h2 z' g hg
    · have z' : ¬ sk = 0 := by rw [h.1]; exact nI_ne0 (by omega) (by omega)
      rw [h3 z']
      by_cases t : j = i
      · subst t
        exact absurd (ct_nz f) z
      · exact h.2.2 j (by omega) s f g hg
theorem xs_58 (post : SX → Prop) (a ic ne fe : Nat → Int32) (cb : Nat → Int64) (h7 : (is_l a 36).length ≤ 7) (hI : is_M (is_l a 36) ic) (L : List (Nat × Nat × Int64)) (hL : gp_ok a L) (hG : L.length ≤ 8) (hM : gp_M L ne fe cb)
    (hp : ∀ sk lb ta la lk, xf_K a L (3 ^ L.length) sk lb ta → post (nI (is_l a 36).length, nI L.length, sk, a, ic, ne, fe, cb, lb, ta, la, lk)) :
    ∀ e i : Nat, i + e = 3 ^ L.length → ∀ sk lb ta la lk, xf_K a L i sk lb ta → wX_findSolutions_58 post (nI (3 ^ L.length)) (e + 1) (nI i) (nI (is_l a 36).length) (nI L.length) sk a ic ne fe cb lb ta la lk := by
  have h3 := dg_8 hG
  intro e
  induction e with
  | zero =>
    intro i hi sk lb ta la lk hK
    obtain rfl : i = 3 ^ L.length := by omega
    exact pk_le (3 ^ L.length) (3 ^ L.length) (fun _ => hp sk lb ta la lk hK) (fun h => absurd h (by omega))
  | succ e ih =>
    intro i hi sk lb ta la lk hK
    have ih := ih (i + 1) (by omega)
    have no : ¬ so_I a L i → ∀ la lk, ∀ x2 : Int32, x2 = nI i + 1 → wX_findSolutions_58 post (nI (3 ^ L.length)) (e + 1) x2 (nI (is_l a 36).length) (nI L.length) sk a ic ne fe cb lb ta la lk :=
      fun w la lk => nm_r (nI_1 i) (ih sk lb ta la lk (xf_n hK w))
    refine pk_le (3 ^ L.length) i (fun h => absurd h (by omega)) (fun _ => ?_)
    refine xy_p _ (nI (is_l a 36).length) sk a ic ne fe cb lb ta la lk L.length i (by omega) (by omega) (fun la hb => ?_)
    refine xm_p _ sk a ic ne fe cb lb ta la lk h7 hI L hL (by omega) hM (dg_d L.length i) hb (fun s1 lk => br_f (by decide) ?_) (fun s1 lk => br_t rfl (no (fun t => s1 t.1) la lk))
    refine xn_p _ (nI (is_l a 36).length) sk a ic ne fe cb lb ta la lk L (by omega) hM (dg_d L.length i) (dg_lt L.length i) hb (fun s2 => br_f (by decide) ?_) (fun s2 => br_t rfl (no (fun t => s2 t.2.1) la lk))
    refine xj_p _ sk a ic ne fe cb lb ta la lk h7 hI L hL (by omega) hM (dg_d L.length i) (dg_lt L.length i) hb (fun s3 => br_f (by decide) ?_) (fun s3 => br_t rfl (no (fun t => s3 t.2.2) la lk))
    exact xc_p _ (nI (is_l a 36).length) sk a ic ne fe cb lb ta la lk L.length (by omega) (dg_d L.length i) (dg_lt L.length i) hb _ hK.2.1 (fun lb' ta' q1 q2 q3 => nm_r (nI_1 i) (ih (sk + 1) lb' ta' la lk (xf_y (by omega) hK ⟨s1, s2, s3⟩ q1 q2 q3)))
theorem xs_38 (post : SX → Prop) (ik sk : Int32) (a ic ne fe : Nat → Int32) (cb : Nat → Int64) (lb ta la lk : Nat → Int32) (G : Nat) (hG : G ≤ 8)
    (hp : ∃ n, wX_findSolutions_58 post (nI (3 ^ G)) n 0 ik (nI G) sk a ic ne fe cb lb ta la lk) :
    ∀ e g : Nat, g + e = G → wX_findSolutions_38 post ik (nI G) sk a ic ne fe cb lb ta la lk (e + 1) (nI (3 ^ g)) (nI g) := by
  intro e
  induction e with
  | zero =>
    intro g hg
    obtain rfl : g = G := by omega
    exact pk_le g g (fun _ => hp) (fun h => absurd h (by omega))
  | succ e ih =>
    intro g hg
    have em : nI (3 ^ g) * 3 = nI (3 ^ (g + 1)) := by rw [dg_ps]; exact pk_mul (3 ^ g) 3
    exact pk_le G g (fun h => absurd h (by omega)) (fun _ => nm_r em (nm_r (nI_1 g) (ih (g + 1) (by omega))))
/-- what refresh leaves -/
def xf_ok (a : Nat → Int32) (sk : Int32) (ne fe : Nat → Int32) (cb : Nat → Int64) (lb ta : Nat → Int32) : Prop :=
  gp_M (gp_l a (is_l a 36)) ne fe cb ∧ ((gp_l a (is_l a 36)).length ≤ 8 → xf_K a (gp_l a (is_l a 36)) (3 ^ (gp_l a (is_l a 36)).length) sk lb ta)
theorem xs_7 (post : SX → Prop) (a ic ne fe : Nat → Int32) (cb : Nat → Int64) (lb la lk : Nat → Int32) (h7 : (is_l a 36).length ≤ 7) (hI : is_M (is_l a 36) ic) (hM : gp_M (gp_l a (is_l a 36)) ne fe cb)
    (hp : ∀ sk lb ta la lk, xf_ok a sk ne fe cb lb ta → post (nI (is_l a 36).length, nI (gp_l a (is_l a 36)).length, sk, a, ic, ne, fe, cb, lb, ta, la, lk)) :
    ∀ e i : Nat, i + e = 42 → ∀ ta, (∀ j, j < i → ta j = 0) → wX_findSolutions_7 post (nI (is_l a 36).length) (nI (gp_l a (is_l a 36)).length) 0 (e + 1) (nI i) a ic ne fe cb lb ta la lk := by
  have hl := gp_len a (is_l a 36)
  have hL := gp_l_ok a 36 (Nat.le_refl _)
  unfold xf_ok at hp
  generalize gp_l a (is_l a 36) = L at *
  intro e
  induction e with
  | zero =>
    intro i hi ta h
    obtain rfl : i = 42 := by omega
    refine pk_le 42 42 (fun _ => ?_) (fun h => absurd h (by omega))
    unfold wpX_isCrowded
    dsimp only
    refine pk_le L.length 8 (fun w => br_t rfl ⟨_, xs_38 post (nI (is_l a 36).length) 0 a ic ne fe cb lb ta la lk L.length w ⟨_, xs_58 post a ic ne fe cb h7 hI L hL w hM (fun sk lb ta la lk hK => hp sk lb ta la lk ⟨hM, fun _ => hK⟩) (3 ^ L.length) 0 (by omega) 0 lb ta la lk ⟨rfl, fun g hg e he => ?_, fun j hj => absurd hj (Nat.not_lt_zero j)⟩⟩ L.length 0 (by omega)⟩) (fun w => br_f (by decide) (hp 0 lb ta la lk ⟨hM, fun t => absurd t (by omega)⟩))
    exact h (3 * g + e) (by omega)
  | succ e ih =>
    intro i hi ta h
    have ki : (nI i).toNatClampNeg = i := nI_clamp (by omega)
    refine pk_le 42 i (fun h => absurd h (by omega)) (fun _ => ⟨vp_in_nI (by omega) (by omega), nm_r (by rw [ki]) (nm_r (nI_1 i) (ih (i + 1) (by omega) (upd ta i 0) (fun j hj => ?_)))⟩)
    by_cases w : j = i
    · subst w; exact pk_us
    · rw [pk_un w]; exact h j (by omega)
theorem xf_p (post : SX → Prop) (ik gk sk : Int32) (a ic ne fe : Nat → Int32) (cb : Nat → Int64) (lb ta la lk : Nat → Int32) (h7 : (is_l a 36).length ≤ 7)
    (hp : ∀ sk ic ne fe cb lb ta la lk, xf_ok a sk ne fe cb lb ta → post (nI (is_l a 36).length, nI (gp_l a (is_l a 36)).length, sk, a, ic, ne, fe, cb, lb, ta, la, lk)) : wpX_refresh post (ik, gk, sk, a, ic, ne, fe, cb, lb, ta, la, lk) := by
  unfold wpX_refresh
  refine xl_p _ ik gk sk a ic ne fe cb lb ta la lk h7 (fun ic hI => ?_)
  refine xg_p _ gk sk a ic ne fe cb lb ta la lk h7 hI (fun ne fe cb hM => ?_)
  exact ⟨_, xs_7 _ a ic ne fe cb lb la lk h7 hI hM (fun sk lb ta la lk hK => hp sk ic ne fe cb lb ta la lk hK) 42 0 rfl ta (fun j h => absurd h (Nat.not_lt_zero j))⟩
end
section
/-- both hold the same board; X's lists, counts and tallies are those of the board -/
def i_Rel (k : Nat) (u : SX) (v : SY) : Prop :=
  ∃ (sk : Int32) (a ic ne fe : Nat → Int32) (cb : Nat → Int64) (lb ta la lk : Nat → Int32) (gy : Int32) (yn yf : Nat → Int32) (yb : Nat → Int64) (br re : Nat → Int32),
    u = (nI (is_l a 36).length, nI (gp_l a (is_l a 36)).length, sk, a, ic, ne, fe, cb, lb, ta, la, lk) ∧ v = (gy, a, yn, yf, yb, br, re) ∧ bd_ok a ∧ xf_ok a sk ne fe cb lb ta
theorem rl_mk {k : Nat} {sk : Int32} {a ic ne fe : Nat → Int32} {cb : Nat → Int64} {lb ta la lk : Nat → Int32} {gy : Int32} {yn yf : Nat → Int32} {yb : Nat → Int64} {br re : Nat → Int32} (h1 : bd_ok a) (h2 : xf_ok a sk ne fe cb lb ta) :
    i_Rel k (nI (is_l a 36).length, nI (gp_l a (is_l a 36)).length, sk, a, ic, ne, fe, cb, lb, ta, la, lk) (gy, a, yn, yf, yb, br, re) :=
  ⟨sk, a, ic, ne, fe, cb, lb, ta, la, lk, gy, yn, yf, yb, br, re, rfl, rfl, h1, h2⟩
theorem i_up {k : Nat} {u : SX} {v : SY} (h : i_Rel k u v) : i_Rel (k + 4) u v := h
theorem bd_0 : bd_ok (fun _ => 0) := ⟨fun _ _ => Int32.le_refl 0, by decide⟩
theorem i_vc0 : wpX_init (fun u => wpY_init (fun v => i_Rel 0 u v)) := by
  unfold wpX_init wpY_init
  exact xf_p _ 0 0 0 (fun _ => 0) (fun _ => 0) (fun _ => 0) (fun _ => 0) (fun _ => 0) (fun _ => 0) (fun _ => 0) (fun _ => 0) (fun _ => 0) bd_0.2 (fun sk ic ne fe cb lb ta la lk h => rl_mk bd_0 h)
theorem on_l (p0 p1 : Int32) : (∃ r c : Nat, r < 6 ∧ c < 6 ∧ p0 = nI r ∧ p1 = nI c ∧ (∀ post : Int32 → Prop, post 1 → wpX_isOnBoard post p0 p1) ∧ (∀ post : Int32 → Prop, post 0 → wpY_off post p0 p1)) ∨ ((∀ post : Int32 → Prop, post 0 → wpX_isOnBoard post p0 p1) ∧ (∀ post : Int32 → Prop, post 1 → wpY_off post p0 p1)) := by
  rcases pk_ix p0 (n := 6) (by decide) with h | h | ⟨r, hr, rfl⟩
  · exact Or.inr ⟨fun _ hp => br_t h hp, fun _ hp => br_t h hp⟩
  · have h6 : (6 : Int32) ≤ p0 := h
    have n0 : ¬ p0 < 0 := Int32.not_lt.mpr (Int32.le_trans (by decide) h6)
    have h5 : (5 : Int32) < p0 := Int32.lt_of_lt_of_le (by decide) h6
    exact Or.inr ⟨fun _ hp => br_f n0 (br_t h6 hp), fun _ hp => br_f n0 (br_t h5 hp)⟩
  · have a0 : ¬ nI r < 0 := nI_pos (by omega)
    have a6 : ¬ (6 : Int32) ≤ nI r := nI_ge (b := 6) hr (by decide)
    have a5 : ¬ (5 : Int32) < nI r := nI_nlt (a := 5) (by omega) (by decide)
    rcases pk_ix p1 (n := 6) (by decide) with h | h | ⟨c, hc, rfl⟩
    · exact Or.inr ⟨fun _ hp => br_f a0 (br_f a6 (br_t h hp)), fun _ hp => br_f a0 (br_f a5 (br_t h hp))⟩
    · have h6 : (6 : Int32) ≤ p1 := h
      have n0 : ¬ p1 < 0 := Int32.not_lt.mpr (Int32.le_trans (by decide) h6)
      have h5 : ¬ p1 ≤ 5 := Int32.not_le.mpr (Int32.lt_of_lt_of_le (by decide) h6)
      exact Or.inr ⟨fun _ hp => br_f a0 (br_f a6 (br_f n0 (br_t h6 hp))), fun _ hp => br_f a0 (br_f a5 (br_f n0 (br_f h5 hp)))⟩
    · have b0 : ¬ nI c < 0 := nI_pos (by omega)
      have b6 : ¬ (6 : Int32) ≤ nI c := nI_ge (b := 6) hc (by decide)
      have b5 : nI c ≤ (5 : Int32) := nI_le (b := 5) (by omega) (by decide)
      exact Or.inl ⟨r, c, hr, hc, rfl, rfl, fun _ hp => br_f a0 (br_f a6 (br_f b0 (br_f b6 hp))), fun _ hp => br_f a0 (br_f a5 (br_f b0 (br_t b5 hp)))⟩
theorem on_c (r c : Nat) : 6 * nI r + nI c = nI (6 * r + c) := by
  have : 6 * nI r = nI (6 * r) := pk_mul 6 r
  rw [this, nI_add]
/-- the board after a write -/
theorem bd_u {a : Nat → Int32} (h : bd_ok a) {c : Nat} {v : Int32} (hv : 0 ≤ v) (hl : ¬ a c = 0 ∨ (is_l a 36).length < 7) : bd_ok (upd a c v) := by
  refine ⟨fun j hj => ?_, ?_⟩
  · by_cases e : j = c
    · subst e; rw [pk_us]; exact hv
    · rw [pk_un e]; exact h.1 j hj
  · have q := is_ul a c v 36
    have h7 := h.2
    rcases hl with z | l
    · have := q.2.2 z; omega
    · have := q.1; omega
theorem i_vc_place {k : Nat} {u : SX} {v : SY} (I : i_Rel k u v) (hk : k + 4 ≤ 2048) (v1 : Int32) (v2 : Int32) (v3 : Int32) : wpX_place (fun r u' => wpY_place (fun r' v' => r' = r ∧ i_Rel (k + 4) u' v') v v1 v2 v3) u v1 v2 v3 := by
  have J := i_up I
  obtain ⟨sk, a, ic, ne, fe, cb, lb, ta, la, lk, gy, yn, yf, yb, br, re, rfl, rfl, hb, hx⟩ := I
  unfold wpX_place wpY_place
  dsimp only
  rcases on_l v1 v2 with ⟨r, c, hr, hc, rfl, rfl, hX, hY⟩ | ⟨hX, hY⟩
  · rw [on_c]
    have kc : (nI (6 * r + c)).toNatClampNeg = 6 * r + c := nI_clamp (by omega)
    have vc : vp_in (nI (6 * r + c)) 36 := vp_in_nI (by omega) (by omega)
    refine hX _ (br_f (by decide) ?_)
    by_cases h1 : v3 < 1
    · exact br_t h1 (hY _ (br_t rfl (br_t h1 ⟨rfl, J⟩)))
    · refine br_f h1 ?_
      by_cases h8 : v3 ≤ 8
      · have hv : 0 ≤ v3 := Int32.le_trans (by decide) (Int32.not_lt.mp h1)
        have goY : ∀ (P : Int32 → SY → Prop), bd_ok (upd a (6 * r + c) v3) → P (nI (is_l (upd a (6 * r + c) v3) 36).length) (gy, upd a (6 * r + c) v3, yn, yf, yb, br, re) → wY_place_46 P (nI r) (nI c) v3 gy a yn yf yb br re := by
          intro P hb' hP
          unfold wY_place_46
          rw [on_c, kc]
          exact ⟨vc, nm_e (yh_p _ gy _ yn yf yb br re hb' hP)⟩
        refine br_t h8 (nm_e ⟨vc, ?_⟩)
        rw [kc]
        by_cases z : a (6 * r + c) = 0
        · refine br_t z (pk_lt (is_l a 36).length 7 (fun w => ?_) (fun w => ?_) rfl rfl (by have := hb.2; omega) (by decide))
          · have hb' := bd_u hb hv (Or.inr w) (c := 6 * r + c)
            refine ⟨vc, nm_r (by rw [kc]) (xf_p _ _ _ _ _ _ _ _ _ _ _ _ _ hb'.2 (fun sk ic ne fe cb lb ta la lk h => hY _ (br_t rfl (br_f h1 (br_t h8 ⟨vc, br_t z (yh_p _ gy a yn yf yb br re hb (br_f (fun t => ?_) (goY _ hb' ⟨rfl, rl_mk hb' h⟩)))⟩)))))⟩
            have := (nI_eq (b := 7) (by omega) (by decide)).mp t
            omega
          · have e7 : (is_l a 36).length = 7 := by have := hb.2; omega
            exact hY _ (br_t rfl (br_f h1 (br_t h8 ⟨vc, br_t z (yh_p _ gy a yn yf yb br re hb (br_t (by rw [e7]; rfl) ⟨rfl, J⟩))⟩)))
        · have hb' := bd_u hb hv (Or.inl z)
          exact br_f z ⟨vc, nm_r (by rw [kc]) (xf_p _ _ _ _ _ _ _ _ _ _ _ _ _ hb'.2 (fun sk ic ne fe cb lb ta la lk h => hY _ (br_t rfl (br_f h1 (br_t h8 ⟨vc, br_f z (goY _ hb' ⟨rfl, rl_mk hb' h⟩)⟩)))))⟩
      · exact br_f h8 (hY _ (br_t rfl (br_f h1 (br_f h8 ⟨rfl, J⟩))))
  · exact hX _ (br_t rfl (hY _ (br_f (by decide) ⟨rfl, J⟩)))
theorem i_vc_remove {k : Nat} {u : SX} {v : SY} (I : i_Rel k u v) (hk : k + 4 ≤ 2048) (v1 : Int32) (v2 : Int32) : wpX_remove (fun r u' => wpY_remove (fun r' v' => r' = r ∧ i_Rel (k + 4) u' v') v v1 v2) u v1 v2 := by
  have J := i_up I
  obtain ⟨sk, a, ic, ne, fe, cb, lb, ta, la, lk, gy, yn, yf, yb, br, re, rfl, rfl, hb, hx⟩ := I
  unfold wpX_remove wpY_remove
  dsimp only
  rcases on_l v1 v2 with ⟨r, c, hr, hc, rfl, rfl, hX, hY⟩ | ⟨hX, hY⟩
  · rw [on_c]
    have kc : (nI (6 * r + c)).toNatClampNeg = 6 * r + c := nI_clamp (by omega)
    have vc : vp_in (nI (6 * r + c)) 36 := vp_in_nI (by omega) (by omega)
    refine hX _ (br_f (by decide) (nm_e ⟨vc, ?_⟩))
    rw [kc]
    by_cases z : a (6 * r + c) = 0
    · exact br_t z (hY _ (br_t rfl ⟨vc, br_t z ⟨rfl, J⟩⟩))
    · have hb' := bd_u hb (Int32.le_refl 0) (Or.inl z)
      exact br_f z ⟨vc, nm_e (xf_p _ _ _ _ _ _ _ _ _ _ _ _ _ hb'.2 (fun sk ic ne fe cb lb ta la lk h => hY _ (br_t rfl ⟨vc, br_f z ⟨vc, nm_e (yh_p _ gy _ yn yf yb br re hb' ⟨rfl, rl_mk hb' h⟩)⟩⟩)))⟩
  · exact hX _ (br_t rfl (hY _ (br_f (by decide) ⟨rfl, J⟩)))
theorem i_vc_island {k : Nat} {u : SX} {v : SY} (I : i_Rel k u v) (hk : k + 4 ≤ 2048) (v1 : Int32) (v2 : Int32) : wpX_island (fun r => wpY_island (fun r' => r' = r ∧ i_Rel (k + 4) u v) v v1 v2) u v1 v2 := by
  have J := i_up I
  obtain ⟨sk, a, ic, ne, fe, cb, lb, ta, la, lk, gy, yn, yf, yb, br, re, rfl, rfl, hb, hx⟩ := I
  unfold wpX_island wpY_island
  dsimp only
  rcases on_l v1 v2 with ⟨r, c, hr, hc, rfl, rfl, hX, hY⟩ | ⟨hX, hY⟩
  · rw [on_c]
    have vc : vp_in (nI (6 * r + c)) 36 := vp_in_nI (by omega) (by omega)
    exact hX _ (br_f (by decide) ⟨vc, hY _ (br_t rfl ⟨vc, rfl, J⟩)⟩)
  · exact hX _ (br_t rfl (hY _ (br_f (by decide) ⟨rfl, J⟩)))
theorem i_vc_gaps {k : Nat} {u : SX} {v : SY} (I : i_Rel k u v) (hk : k + 4 ≤ 2048) : wpX_gaps (fun r => wpY_gaps (fun r' v' => r' = r ∧ i_Rel (k + 4) u v') v) u := by
  obtain ⟨sk, a, ic, ne, fe, cb, lb, ta, la, lk, gy, yn, yf, yb, br, re, rfl, rfl, hb, hx⟩ := I
  unfold wpX_gaps wpY_gaps
  dsimp only
  exact ys_p _ gy a yn yf yb br re hb (fun yn yf yb hM => ⟨rfl, rl_mk hb hx⟩)
end
section
theorem ge_0 {v : Int32} {G : Nat} (hG : G < 2 ^ 31) (h : nI G ≤ v) : ¬ v < 0 := Int32.not_lt.mpr (Int32.le_trans (nI_pos' hG) h)
theorem rl_G {a : Nat → Int32} (hb : bd_ok a) : (gp_l a (is_l a 36)).length ≤ 14 := by
  have h1 := gp_len a (is_l a 36)
  have h2 := hb.2
  omega
theorem i_vc_end {k : Nat} {u : SX} {v : SY} (I : i_Rel k u v) (hk : k + 4 ≤ 2048) (v1 : Int32) (v2 : Int32) : wpX_end (fun r => wpY_end (fun r' v' => r' = r ∧ i_Rel (k + 4) u v') v v1 (lw_bz v2)) u v1 (lw_bz v2) := by
  obtain ⟨sk, a, ic, ne, fe, cb, lb, ta, la, lk, gy, yn, yf, yb, br, re, rfl, rfl, hb, hx⟩ := I
  have hG := rl_G hb
  unfold wpX_end wpY_end wpX_isGap
  dsimp only
  rcases pk_ix v1 (n := (gp_l a (is_l a 36)).length) (by omega) with h | h | ⟨g, hg, rfl⟩
  · exact br_t h (br_t rfl (ys_p _ gy a yn yf yb br re hb (fun yn yf yb hM => br_t h ⟨rfl, rl_mk hb hx⟩)))
  · have n0 := ge_0 (by omega) h
    exact br_f n0 (br_t h (br_t rfl (ys_p _ gy a yn yf yb br re hb (fun yn yf yb hM => br_f n0 (br_f (Int32.not_lt.mpr h) ⟨rfl, rl_mk hb hx⟩)))))
  · have n0 : ¬ nI g < 0 := nI_pos (by omega)
    have kg : (nI g).toNatClampNeg = g := nI_clamp (by omega)
    have v14 : vp_in (nI g) 14 := vp_in_nI (by omega) (by omega)
    have v16 : vp_in (nI g) 16 := vp_in_nI (by omega) (by omega)
    have hl : nI g < nI (gp_l a (is_l a 36)).length := nI_lt hg (by omega)
    have mx := hx.1 g hg
    refine br_f n0 (br_f (nI_ge hg (by omega)) (br_f (by decide) ?_))
    rw [kg]
    refine br_c (fun z => ⟨v14, ys_p _ gy a yn yf yb br re hb (fun yn yf yb hM => br_f n0 (br_t hl (br_t z ⟨v16, ?_, rl_mk hb hx⟩)))⟩) (fun z => ⟨v14, ys_p _ gy a yn yf yb br re hb (fun yn yf yb hM => br_f n0 (br_t hl (br_f z ⟨v16, ?_, rl_mk hb hx⟩)))⟩)
    · rw [mx.1]; exact (hM g hg).1
    · rw [mx.2.1]; exact (hM g hg).2.1
theorem i_vc_solutions {k : Nat} {u : SX} {v : SY} (I : i_Rel k u v) (hk : k + 4 ≤ 2048) : wpX_solutions (fun r => wpY_solutions (fun r' v' => r' = r ∧ i_Rel (k + 4) u v') v) u := by
  obtain ⟨sk, a, ic, ne, fe, cb, lb, ta, la, lk, gy, yn, yf, yb, br, re, rfl, rfl, hb, hx⟩ := I
  have hG := rl_G hb
  unfold wpX_solutions wpY_solutions wpX_isCrowded
  dsimp only
  refine pk_le (gp_l a (is_l a 36)).length 8 (fun w => br_t rfl ?_) (fun w => br_f (by decide) ?_)
  · have w' : nI (gp_l a (is_l a 36)).length ≤ 8 := nI_le (b := 8) w (by decide)
    exact ys_p _ gy a yn yf yb br re hb (fun yn yf yb hM => br_t w' (yt_a _ a yn yf yb br re hb _ (gp_l_ok a 36 (Nat.le_refl _)) w hM (fun br re => ⟨((hx.2 w).1).symm, rl_mk hb hx⟩)))
  · have w' : ¬ nI (gp_l a (is_l a 36)).length ≤ 8 := nI_ge (a := 8) w (by omega)
    exact ys_p _ gy a yn yf yb br re hb (fun yn yf yb hM => br_f w' ⟨rfl, rl_mk hb hx⟩)
theorem i_vc_least {k : Nat} {u : SX} {v : SY} (I : i_Rel k u v) (hk : k + 4 ≤ 2048) (v1 : Int32) : wpX_least (fun r => wpY_least (fun r' v' => r' = r ∧ i_Rel (k + 4) u v') v v1) u v1 := by
  obtain ⟨sk, a, ic, ne, fe, cb, lb, ta, la, lk, gy, yn, yf, yb, br, re, rfl, rfl, hb, hx⟩ := I
  have hG := rl_G hb
  unfold wpX_least wpY_least wpX_isCrowded wpX_isGap
  dsimp only
  refine pk_le (gp_l a (is_l a 36)).length 8 (fun w => br_t rfl ?_) (fun w => br_f (by decide) ?_)
  · have w' : nI (gp_l a (is_l a 36)).length ≤ 8 := nI_le (b := 8) w (by decide)
    have h3 := dg_8 w
    have hK := hx.2 w
    rcases pk_ix v1 (n := (gp_l a (is_l a 36)).length) (by omega) with h | h | ⟨g, hg, rfl⟩
    · exact br_t h (br_t rfl (ys_p _ gy a yn yf yb br re hb (fun yn yf yb hM => br_t w' (br_t h ⟨rfl, rl_mk hb hx⟩))))
    · have n0 := ge_0 (by omega) h
      exact br_f n0 (br_t h (br_t rfl (ys_p _ gy a yn yf yb br re hb (fun yn yf yb hM => br_t w' (br_f n0 (br_f (Int32.not_lt.mpr h) ⟨rfl, rl_mk hb hx⟩))))))
    · have n0 : ¬ nI g < 0 := nI_pos (by omega)
      have kg : (nI g).toNatClampNeg = g := nI_clamp (by omega)
      have v14 : vp_in (nI g) 14 := vp_in_nI (by omega) (by omega)
      have hl : nI g < nI (gp_l a (is_l a 36)).length := nI_lt hg (by omega)
      have cl := ct_le (so_I a (gp_l a (is_l a 36))) (3 ^ (gp_l a (is_l a 36)).length)
      have p3 := dg_p (gp_l a (is_l a 36)).length
      refine br_f n0 (br_f (nI_ge hg (by omega)) (br_f (by decide) ?_))
      rw [kg]
      refine pk_eq (ct_n (so_I a (gp_l a (is_l a 36))) (3 ^ (gp_l a (is_l a 36)).length)) 0 (fun z => ?_) (fun z => ⟨v14, ?_⟩) hK.1
      · refine ys_p _ gy a yn yf yb br re hb (fun yn yf yb hM => br_t w' (br_f n0 (br_t hl (yb_p _ _ a yn yf yb br re (fun br h0 => ⟨_, yl_38 _ a yn yf yb hb _ (gp_l_ok a 36 (Nat.le_refl _)) w hM g hg (fun i hi s _ br re => absurd s (ct_z _ z i hi)) (fun _ br re => ⟨rfl, rl_mk hb hx⟩) (3 ^ (gp_l a (is_l a 36)).length) 0 (by omega) (fun j hj => absurd hj (Nat.not_lt_zero j)) 1 br re (fun _ => ⟨by decide, fun g hg => ?_⟩) (fun t => absurd t (by omega))⟩)))))
        rw [h0 g (by omega), dg_0]
        rfl
      · refine ys_p _ gy a yn yf yb br re hb (fun yn yf yb hM => br_t w' (br_f n0 (br_t hl (yb_p _ _ a yn yf yb br re (fun br h0 => ⟨_, yl_38 _ a yn yf yb hb _ (gp_l_ok a 36 (Nat.le_refl _)) w hM g hg (fun i hi s f br re => ⟨(hK.2.2 i hi s f g hg).symm, rl_mk hb hx⟩) (fun t br re => absurd (ct_nz t) z) (3 ^ (gp_l a (is_l a 36)).length) 0 (by omega) (fun j hj => absurd hj (Nat.not_lt_zero j)) 1 br re (fun _ => ⟨by decide, fun g hg => ?_⟩) (fun t => absurd t (by omega))⟩)))))
        rw [h0 g (by omega), dg_0]
        rfl
  · have w' : ¬ nI (gp_l a (is_l a 36)).length ≤ 8 := nI_ge (a := 8) w (by omega)
    exact ys_p _ gy a yn yf yb br re hb (fun yn yf yb hM => br_f w' ⟨rfl, rl_mk hb hx⟩)
theorem i_vc_with {k : Nat} {u : SX} {v : SY} (I : i_Rel k u v) (hk : k + 4 ≤ 2048) (v1 : Int32) (v2 : Int32) : wpX_with (fun r => wpY_with (fun r' v' => r' = r ∧ i_Rel (k + 4) u v') v v1 v2) u v1 v2 := by
  obtain ⟨sk, a, ic, ne, fe, cb, lb, ta, la, lk, gy, yn, yf, yb, br, re, rfl, rfl, hb, hx⟩ := I
  have hG := rl_G hb
  unfold wpX_with wpY_with wpX_isCrowded wpX_isGap
  dsimp only
  refine pk_le (gp_l a (is_l a 36)).length 8 (fun w => br_t rfl ?_) (fun w => br_f (by decide) ?_)
  · have w' : nI (gp_l a (is_l a 36)).length ≤ 8 := nI_le (b := 8) w (by decide)
    have hK := hx.2 w
    rcases pk_ix v1 (n := (gp_l a (is_l a 36)).length) (by omega) with h | h | ⟨g, hg, rfl⟩
    · exact br_t h (br_t rfl (ys_p _ gy a yn yf yb br re hb (fun yn yf yb hM => br_t w' (br_t h ⟨rfl, rl_mk hb hx⟩))))
    · have n0 := ge_0 (by omega) h
      exact br_f n0 (br_t h (br_t rfl (ys_p _ gy a yn yf yb br re hb (fun yn yf yb hM => br_t w' (br_f n0 (br_t h ⟨rfl, rl_mk hb hx⟩))))))
    · have n0 : ¬ nI g < 0 := nI_pos (by omega)
      have hl : ¬ nI (gp_l a (is_l a 36)).length ≤ nI g := nI_ge hg (by omega)
      refine br_f n0 (br_f hl (br_f (by decide) ?_))
      rcases pk_ix v2 (n := 3) (by decide) with h | h | ⟨e, he, rfl⟩
      · exact br_t h (ys_p _ gy a yn yf yb br re hb (fun yn yf yb hM => br_t w' (br_f n0 (br_f hl (br_t h ⟨rfl, rl_mk hb hx⟩)))))
      · have m0 := ge_0 (by decide) h
        have m2 : ¬ v2 ≤ 2 := Int32.not_le.mpr (Int32.lt_of_lt_of_le (by decide) h)
        exact br_f m0 (br_f m2 (ys_p _ gy a yn yf yb br re hb (fun yn yf yb hM => br_t w' (br_f n0 (br_f hl (br_f m0 (br_f m2 ⟨rfl, rl_mk hb hx⟩)))))))
      · have m0 : ¬ nI e < 0 := nI_pos (by omega)
        have m2 : nI e ≤ 2 := nI_le (b := 2) (by omega) (by decide)
        have ei : 3 * nI g + nI e = nI (3 * g + e) := by
          have : 3 * nI g = nI (3 * g) := pk_mul 3 g
          rw [this, nI_add]
        rw [ei, nI_clamp (show 3 * g + e < 2 ^ 31 by omega)]
        refine br_f m0 (br_t m2 ⟨vp_in_nI (by omega) (by omega), ys_p _ gy a yn yf yb br re hb (fun yn yf yb hM => br_t w' (br_f n0 (br_f hl (br_f m0 (br_t m2 (yt_g _ a yn yf yb br re hb _ (gp_l_ok a 36 (Nat.le_refl _)) w hM g e hg he (fun br re => ⟨?_, rl_mk hb hx⟩)))))))⟩)
        exact (hK.2.1 g hg e he).symm
  · have w' : ¬ nI (gp_l a (is_l a 36)).length ≤ 8 := nI_ge (a := 8) w (by omega)
    exact ys_p _ gy a yn yf yb br re hb (fun yn yf yb hM => br_f w' ⟨rfl, rl_mk hb hx⟩)
end
section
theorem ya_b (post : Int32 → SY → Prop) (gy : Int32) (a yn yf : Nat → Int32) (yb : Nat → Int64) (br re : Nat → Int32) (c0 c1 c2 : Nat) (b0 : c0 ≤ 6561) (b1 : c1 ≤ 6561) (b2 : c2 ≤ 6561)
    (h0 : 0 < c0 → c1 + c2 = 0 → post 0 (gy, a, yn, yf, yb, br, re)) (h1 : 0 < c1 → c0 + c2 = 0 → post 1 (gy, a, yn, yf, yb, br, re)) (h2 : 0 < c2 → c0 + c1 = 0 → post 2 (gy, a, yn, yf, yb, br, re))
    (hn : ¬ (0 < c0 ∧ c1 + c2 = 0) → ¬ (0 < c1 ∧ c0 + c2 = 0) → ¬ (0 < c2 ∧ c0 + c1 = 0) → post (-1) (gy, a, yn, yf, yb, br, re)) :
    (nI c0 ≤ 0 → wY_always_65 post (nI c0) (nI c1) (nI c2) gy a yn yf yb br re) ∧ (¬ nI c0 ≤ 0 → ((nI c1 + nI c2 = 0 → post 0 (gy, a, yn, yf, yb, br, re)) ∧ (¬ nI c1 + nI c2 = 0 → wY_always_65 post (nI c0) (nI c1) (nI c2) gy a yn yf yb br re))) := by
  have k78 : ¬ (0 < c0 ∧ c1 + c2 = 0) → ¬ (0 < c1 ∧ c0 + c2 = 0) → wY_always_78 post (nI c0) (nI c1) (nI c2) gy a yn yf yb br re := fun n0 n1 =>
    pk_le c2 0 (fun w => hn n0 n1 (by omega)) (fun w => pk_eq (c0 + c1) 0 (fun q => h2 w q) (fun q => hn n0 n1 (by omega)) (nI_add c0 c1))
  have k65 : ¬ (0 < c0 ∧ c1 + c2 = 0) → wY_always_65 post (nI c0) (nI c1) (nI c2) gy a yn yf yb br re := fun n0 =>
    pk_le c1 0 (fun w => k78 n0 (by omega)) (fun w => pk_eq (c0 + c2) 0 (fun q => h1 w q) (fun q => k78 n0 (by omega)) (nI_add c0 c2))
  exact pk_le c0 0 (fun w => k65 (by omega)) (fun w => pk_eq (c1 + c2) 0 (fun q => h0 w q) (fun q => k65 (by omega)) (nI_add c1 c2))
theorem ya_p (post : Int32 → SY → Prop) (gy : Int32) (a yn yf : Nat → Int32) (yb : Nat → Int64) (br re : Nat → Int32) (hb : bd_ok a) (g : Nat) (hg : g < (gp_l a (is_l a 36)).length) (w : (gp_l a (is_l a 36)).length ≤ 8) (c : Nat → Nat) (hc : ∀ e, c e = ct_n (so_T a (gp_l a (is_l a 36)) g e) (3 ^ (gp_l a (is_l a 36)).length))
    (h0 : 0 < c 0 → c 1 + c 2 = 0 → ∀ gy yn yf yb br re, post 0 (gy, a, yn, yf, yb, br, re)) (h1 : 0 < c 1 → c 0 + c 2 = 0 → ∀ gy yn yf yb br re, post 1 (gy, a, yn, yf, yb, br, re)) (h2 : 0 < c 2 → c 0 + c 1 = 0 → ∀ gy yn yf yb br re, post 2 (gy, a, yn, yf, yb, br, re))
    (hn : ¬ (0 < c 0 ∧ c 1 + c 2 = 0) → ¬ (0 < c 1 ∧ c 0 + c 2 = 0) → ¬ (0 < c 2 ∧ c 0 + c 1 = 0) → ∀ gy yn yf yb br re, post (-1) (gy, a, yn, yf, yb, br, re)) : wpY_always post (gy, a, yn, yf, yb, br, re) (nI g) := by
  have h3 := dg_8 w
  have hL := gp_l_ok a 36 (Nat.le_refl _)
  have cl : ∀ e, c e ≤ 6561 := fun e => by
    rw [hc e]
    exact Nat.le_trans (ct_le _ _) h3
  unfold wpY_always
  dsimp only
  have w' : nI (gp_l a (is_l a 36)).length ≤ 8 := nI_le (b := 8) w (by decide)
  refine ys_p _ gy a yn yf yb br re hb (fun yn yf yb hM => br_t w' (br_f (nI_pos (by omega)) (br_t (nI_lt hg (by omega)) ?_)))
  refine yt_g _ a yn yf yb br re hb _ hL w hM g 0 hg (by decide) (fun br re => ?_)
  refine yt_g _ a yn yf yb br re hb _ hL w hM g 1 hg (by decide) (fun br re => ?_)
  refine yt_g _ a yn yf yb br re hb _ hL w hM g 2 hg (by decide) (fun br re => ?_)
  rw [← hc 0, ← hc 1, ← hc 2]
  exact ya_b post _ a yn yf yb br re (c 0) (c 1) (c 2) (cl 0) (cl 1) (cl 2) (fun p q => h0 p q _ _ _ _ _ _) (fun p q => h1 p q _ _ _ _ _ _) (fun p q => h2 p q _ _ _ _ _ _) (fun p q r => hn p q r _ _ _ _ _ _)
theorem i_vc_always {k : Nat} {u : SX} {v : SY} (I : i_Rel k u v) (hk : k + 4 ≤ 2048) (v1 : Int32) : wpX_always (fun r => wpY_always (fun r' v' => r' = r ∧ i_Rel (k + 4) u v') v v1) u v1 := by
  obtain ⟨sk, a, ic, ne, fe, cb, lb, ta, la, lk, gy, yn, yf, yb, br, re, rfl, rfl, hb, hx⟩ := I
  have hG := rl_G hb
  unfold wpX_always wpX_isCrowded wpX_isGap
  dsimp only
  refine pk_le (gp_l a (is_l a 36)).length 8 (fun w => br_t rfl ?_) (fun w => br_f (by decide) ?_)
  · have w' : nI (gp_l a (is_l a 36)).length ≤ 8 := nI_le (b := 8) w (by decide)
    have h3 := dg_8 w
    have hK := hx.2 w
    rcases pk_ix v1 (n := (gp_l a (is_l a 36)).length) (by omega) with h | h | ⟨g, hg, rfl⟩
    · exact br_t h (br_t rfl (ys_p _ gy a yn yf yb br re hb (fun yn yf yb hM => br_t w' (br_t h ⟨rfl, rl_mk hb hx⟩))))
    · have n0 := ge_0 (by omega) h
      exact br_f n0 (br_t h (br_t rfl (ys_p _ gy a yn yf yb br re hb (fun yn yf yb hM => br_t w' (br_f n0 (br_f (Int32.not_lt.mpr h) ⟨rfl, rl_mk hb hx⟩))))))
    · have n0 : ¬ nI g < 0 := nI_pos (by omega)
      have kg : (nI g).toNatClampNeg = g := nI_clamp (by omega)
      have v14 : vp_in (nI g) 14 := vp_in_nI (by omega) (by omega)
      have cl := ct_le (so_I a (gp_l a (is_l a 36))) (3 ^ (gp_l a (is_l a 36)).length)
      have s3 := ct_3 (so_I a (gp_l a (is_l a 36))) (fun i => dg_d (gp_l a (is_l a 36)).length i g) (fun i => dg_lt _ i g) (3 ^ (gp_l a (is_l a 36)).length)
      obtain ⟨c, hc⟩ : ∃ c : Nat → Nat, ∀ e, c e = ct_n (so_T a (gp_l a (is_l a 36)) g e) (3 ^ (gp_l a (is_l a 36)).length) := ⟨_, fun _ => rfl⟩
      have s3 : c 0 + c 1 + c 2 = ct_n (so_I a (gp_l a (is_l a 36))) (3 ^ (gp_l a (is_l a 36)).length) := by
        rw [hc 0, hc 1, hc 2]
        exact s3
      have go := fun (r : Int32) => ya_p (fun r' v' => r' = r ∧ i_Rel (k + 4) (nI (is_l a 36).length, nI (gp_l a (is_l a 36)).length, sk, a, ic, ne, fe, cb, lb, ta, la, lk) v') gy a yn yf yb br re hb g hg w c hc
      refine br_f n0 (br_f (nI_ge hg (by omega)) (br_f (by decide) ?_))
      rw [kg]
      refine pk_eq (ct_n (so_I a (gp_l a (is_l a 36))) (3 ^ (gp_l a (is_l a 36)).length)) 0 (fun z => ?_) (fun z => ⟨v14, ?_⟩) hK.1
      · exact go (-1) (fun p _ => absurd p (by omega)) (fun p _ => absurd p (by omega)) (fun p _ => absurd p (by omega)) (fun _ _ _ _ _ _ _ _ _ => ⟨rfl, rl_mk hb hx⟩)
      · have ex : ∃ j, j < 3 ^ (gp_l a (is_l a 36)).length ∧ so_I a (gp_l a (is_l a 36)) j := by
          apply Classical.byContradiction
          intro t
          exact z (ct_nz (fun i hi s => t ⟨i, hi, s⟩))
        obtain ⟨j, ⟨hj, sj⟩, fj⟩ := pk_least _ ex
        have el := hK.2.2 j hj sj (fun i hi s => fj i hi ⟨by omega, s⟩) g hg
        have dl := dg_lt (gp_l a (is_l a 36)).length j g
        generalize he : dg_d (gp_l a (is_l a 36)).length j g = e at el dl
        have pe : 0 < c e := by
          rw [hc e]
          exact ct_pos hj ⟨he, sj⟩
        have et := hK.2.1 g hg e dl
        dsimp only at et
        rw [← hc e] at et
        have ei : 3 * nI g + nI e = nI (3 * g + e) := by
          have : 3 * nI g = nI (3 * g) := pk_mul 3 g
          rw [this, nI_add]
        have ce : c e ≤ ct_n (so_I a (gp_l a (is_l a 36))) (3 ^ (gp_l a (is_l a 36)).length) := by
          obtain rfl | rfl | rfl : e = 0 ∨ e = 1 ∨ e = 2 := by omega
          · omega
          · omega
          · omega
        refine nm_r el ?_
        rw [ei, nI_clamp (show 3 * g + e < 2 ^ 31 by omega)]
        refine ⟨vp_in_nI (by omega) (by omega), ?_⟩
        refine pk_eq (c e) (ct_n (so_I a (gp_l a (is_l a 36))) (3 ^ (gp_l a (is_l a 36)).length)) (fun q => ?_) (fun q => ?_) et hK.1
        · obtain rfl | rfl | rfl : e = 0 ∨ e = 1 ∨ e = 2 := by omega
          · exact go (nI 0) (fun _ _ _ _ _ _ _ _ => ⟨rfl, rl_mk hb hx⟩) (fun p _ => absurd p (by omega)) (fun p _ => absurd p (by omega)) (fun t _ _ => absurd ⟨pe, by omega⟩ t)
          · exact go (nI 1) (fun p _ => absurd p (by omega)) (fun _ _ _ _ _ _ _ _ => ⟨rfl, rl_mk hb hx⟩) (fun p _ => absurd p (by omega)) (fun _ t _ => absurd ⟨pe, by omega⟩ t)
          · exact go (nI 2) (fun p _ => absurd p (by omega)) (fun p _ => absurd p (by omega)) (fun _ _ _ _ _ _ _ _ => ⟨rfl, rl_mk hb hx⟩) (fun _ _ t => absurd ⟨pe, by omega⟩ t)
        · obtain rfl | rfl | rfl : e = 0 ∨ e = 1 ∨ e = 2 := by omega
          · exact go (-1) (fun _ t => absurd t (by omega)) (fun p t => absurd p (by omega)) (fun p t => absurd p (by omega)) (fun _ _ _ _ _ _ _ _ _ => ⟨rfl, rl_mk hb hx⟩)
          · exact go (-1) (fun p t => absurd p (by omega)) (fun _ t => absurd t (by omega)) (fun p t => absurd p (by omega)) (fun _ _ _ _ _ _ _ _ _ => ⟨rfl, rl_mk hb hx⟩)
          · exact go (-1) (fun p t => absurd p (by omega)) (fun p t => absurd p (by omega)) (fun _ t => absurd t (by omega)) (fun _ _ _ _ _ _ _ _ _ => ⟨rfl, rl_mk hb hx⟩)
  · have w' : ¬ nI (gp_l a (is_l a 36)).length ≤ 8 := nI_ge (a := 8) w (by omega)
    unfold wpY_always
    exact ys_p _ gy a yn yf yb br re hb (fun yn yf yb hM => br_f w' ⟨rfl, rl_mk hb hx⟩)
end
