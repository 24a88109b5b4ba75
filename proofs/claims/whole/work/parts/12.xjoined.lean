/-- a set as the bits of a long -/
def rb_M (s : Nat → Bool) (w : Int64) : Prop := ∀ j, j < 64 → bl_t w j = s j
theorem rb_two {n f : Nat} (hn : n < 36) (hf : f < 36) {j : Nat} (hj : j < 64) : bl_t (sh_b n ||| sh_b f) j = (decide (j = n) || decide (j = f)) := by
  rw [bl_or, bl_sh (by omega) hj, bl_sh (by omega) hj]
theorem rb_u {s : Nat → Bool} {w : Int64} (h : rb_M s w) {n f : Nat} (hn : n < 36) (hf : f < 36) : rb_M (fun c => s c || decide (c = n) || decide (c = f)) (w ||| (sh_b n ||| sh_b f)) := by
  intro j hj
  rw [bl_or, rb_two hn hf hj, h j hj]
  exact (Bool.or_assoc _ _ _).symm
theorem rb_z {s : Nat → Bool} {w : Int64} (h : rb_M s w) {n f : Nat} (hn : n < 36) (hf : f < 36) : w &&& (sh_b n ||| sh_b f) = 0 ↔ ¬ (s n = true ∨ s f = true) := by
  rw [bl_z]
  constructor
  · intro q t
    rcases t with t | t
    · have := q n (by omega)
      rw [bl_and, rb_two hn hf (by omega), h n (by omega), t, decide_eq_true (show n = n from rfl), Bool.true_or] at this
      exact absurd this (by decide)
    · have := q f (by omega)
      rw [bl_and, rb_two hn hf (by omega), h f (by omega), t, decide_eq_true (show f = f from rfl), Bool.or_true] at this
      exact absurd this (by decide)
  · intro q j hj
    rw [bl_and, rb_two hn hf hj, h j hj]
    by_cases e1 : j = n
    · subst e1
      have : s j = false := Bool.eq_false_iff.mpr (fun t => q (Or.inl t))
      rw [this, Bool.false_and]
    · by_cases e2 : j = f
      · subst e2
        have : s j = false := Bool.eq_false_iff.mpr (fun t => q (Or.inr t))
        rw [this, Bool.false_and]
      · rw [decide_eq_false e1, decide_eq_false e2, Bool.or_false, Bool.and_false]
theorem xr_5 (post : Int64 → Prop) (ik sk : Int32) (a ic ne fe : Nat → Int32) (cb : Nat → Int64) (lb ta la lk : Nat → Int32) (L : List (Nat × Nat × Int64)) (hL : gp_ok a L) (hG : L.length ≤ 14) (hM : gp_M L ne fe cb) (d : Nat → Nat) (hd : ∀ g, d g < 3) (hb : dm_M la d L.length) (s : Nat → Bool)
    (hp : ∀ w, rb_M (jn_r L d s L.length) w → post w) :
    ∀ e g : Nat, g + e = L.length → ∀ w, rb_M (jn_r L d s g) w → wX_reachFurther_5 post ik (nI L.length) sk a ic ne fe cb lb ta la lk (e + 1) w (nI g) := by
  intro e
  induction e with
  | zero =>
    intro g hg w hw
    obtain rfl : g = L.length := by omega
    exact pk_le L.length L.length (fun _ => hp w hw) (fun h => absurd h (by omega))
  | succ e ih =>
    intro g hg w hw
    have kg : (nI g).toNatClampNeg = g := nI_clamp (by omega)
    have vg : vp_in (nI g) 14 := vp_in_nI (by omega) (by omega)
    have m := hM g (by omega)
    have o := gp_at hL (show g < L.length by omega)
    have en : ne (nI g).toNatClampNeg = nI (gp_n L g) := by rw [kg]; exact m.1
    have ef : fe (nI g).toNatClampNeg = nI (gp_f L g) := by rw [kg]; exact m.2.1
    have eb : la (nI g).toNatClampNeg = nI (d g) := by rw [kg]; exact hb g (by omega)
    have ee : ((1 : Int64) <<< ((ne (nI g).toNatClampNeg).toInt64 &&& 63)) ||| ((1 : Int64) <<< ((fe (nI g).toNatClampNeg).toInt64 &&& 63)) = sh_b (gp_n L g) ||| sh_b (gp_f L g) := by
      rw [en, ef]
      rfl
    have hz := rb_z hw (show gp_n L g < 36 by omega) o.2.1
    have d1 := hd g
    have ih := ih (g + 1) (by omega)
    have stay : ¬ (0 < d g ∧ (jn_r L d s g (gp_n L g) = true ∨ jn_r L d s g (gp_f L g) = true)) → wX_reachFurther_5 post ik (nI L.length) sk a ic ne fe cb lb ta la lk (e + 1) w (nI (g + 1)) := by
      intro t
      rw [jn_s0 t] at ih
      exact ih w hw
    refine pk_le L.length g (fun h => absurd h (by omega)) (fun _ => ⟨vg, vg, nm_r ee ⟨vg, ?_⟩⟩)
    refine pk_le (d g) 0 (fun w => nm_r (nI_1 g) (stay (fun t => absurd t.1 (by omega)))) (fun p => ?_) eb
    refine br_c (fun q => nm_r (nI_1 g) (stay (fun t => hz.mp q t.2))) (fun q => nm_e (nm_r (nI_1 g) ?_))
    have t : jn_r L d s g (gp_n L g) = true ∨ jn_r L d s g (gp_f L g) = true := Decidable.byContradiction (fun t => q (hz.mpr t))
    rw [jn_s1 p t] at ih
    exact ih _ (rb_u hw (by omega) o.2.1)
theorem xr_p (post : Int64 → Prop) (ik sk : Int32) (a ic ne fe : Nat → Int32) (cb : Nat → Int64) (lb ta la lk : Nat → Int32) (L : List (Nat × Nat × Int64)) (hL : gp_ok a L) (hG : L.length ≤ 14) (hM : gp_M L ne fe cb) (d : Nat → Nat) (hd : ∀ g, d g < 3) (hb : dm_M la d L.length) (s : Nat → Bool) (w : Int64) (hw : rb_M s w)
    (hp : ∀ w, rb_M (jn_r L d s L.length) w → post w) : wpX_reachFurther post (ik, nI L.length, sk, a, ic, ne, fe, cb, lb, ta, la, lk) w :=
  ⟨_, xr_5 post ik sk a ic ne fe cb lb ta la lk L hL hG hM d hd hb s hp L.length 0 (by omega) w hw⟩
theorem xj_50 (post : Int32 → Prop) (sk : Int32) (a ic ne fe : Nat → Int32) (cb : Nat → Int64) (lb ta la lk : Nat → Int32) (h7 : (is_l a 36).length ≤ 7) (L : List (Nat × Nat × Int64)) (hL : gp_ok a L) (hG : L.length ≤ 14) (hM : gp_M L ne fe cb) (d : Nat → Nat) (hd : ∀ g, d g < 3) (hb : dm_M la d L.length) (x1 : Int64) (h1 : rb_M (jn_p a) x1)
    (hy : so_J a L d → post 1) (hn : ¬ so_J a L d → post 0) :
    ∀ e r : Nat, r + 1 + e = (is_l a 36).length → ∀ w, rb_M (jn_i L d (jn_0 a) r) w → wX_allIslandsAreJoined_50 post x1 (nI (is_l a 36).length) (nI L.length) sk a ic ne fe cb lb ta la lk (e + 1) w (nI (r + 1)) := by
  intro e
  induction e with
  | zero =>
    intro r hr w hw
    have e7 := jn_7 hL d (k := r) (by omega) (by omega)
    refine pk_le (is_l a 36).length (r + 1) (fun _ => br_c (fun q => hy (fun c hc z => ?_)) (fun q => hn (fun s => q (bl_ext (fun j hj => ?_))))) (fun h => absurd h (by omega))
    · rw [e7, ← hw c (by omega), q, h1 c (by omega)]
      exact decide_eq_true ⟨hc, z⟩
    · rw [hw j hj, h1 j hj]
      cases t : jn_i L d (jn_0 a) r j with
      | true => exact (jn_sub hL d r j t).symm
      | false =>
        cases u : jn_p a j with
        | false => rfl
        | true =>
          have u := of_decide_eq_true u
          have := s j u.1 u.2
          rw [e7, t] at this
          exact absurd this (by decide)
  | succ e ih =>
    intro r hr w hw
    exact pk_le (is_l a 36).length (r + 1) (fun h => absurd h (by omega)) (fun _ => xr_p _ (nI (is_l a 36).length) sk a ic ne fe cb lb ta la lk L hL hG hM d hd hb _ w hw (fun w hw => nm_r (nI_1 (r + 1)) (ih (r + 1) (by omega) w hw)))
theorem xj_13 (post : Int32 → Prop) (sk : Int32) (a ic ne fe : Nat → Int32) (cb : Nat → Int64) (lb ta la lk : Nat → Int32) (h7 : (is_l a 36).length ≤ 7) (h0 : 0 < (is_l a 36).length) (hI : is_M (is_l a 36) ic) (L : List (Nat × Nat × Int64)) (hL : gp_ok a L) (hG : L.length ≤ 14) (hM : gp_M L ne fe cb) (d : Nat → Nat) (hd : ∀ g, d g < 3) (hb : dm_M la d L.length)
    (hy : so_J a L d → post 1) (hn : ¬ so_J a L d → post 0) :
    ∀ e i : Nat, i + e = (is_l a 36).length → ∀ x1 : Int64, (∀ j, j < 64 → (bl_t x1 j = true ↔ j ∈ (is_l a 36).take i)) → wX_allIslandsAreJoined_13 post (nI (is_l a 36).length) (nI L.length) sk a ic ne fe cb lb ta la lk (e + 1) x1 (nI i) := by
  intro e
  induction e with
  | zero =>
    intro i hi x1 hx
    rw [List.take_of_length_le (by omega)] at hx
    have hc := is_c36 a h0
    have e0 : (1 : Int64) <<< ((ic 0).toInt64 &&& 63) = sh_b (is_c (is_l a 36) 0) := by
      rw [hI 0 h0]
      rfl
    refine pk_le (is_l a 36).length i (fun _ => nm_r e0 ⟨_, xj_50 post sk a ic ne fe cb lb ta la lk h7 L hL hG hM d hd hb x1 (fun j hj => ?_) hy hn ((is_l a 36).length - 1) 0 (by omega) _ (fun j hj => ?_)⟩) (fun h => absurd h (by omega))
    · have q := (hx j hj).trans (is_mem a j 36)
      by_cases t : j < 36 ∧ ¬ a j = 0
      · rw [q.mpr t]
        exact (decide_eq_true t).symm
      · have f : bl_t x1 j = false := Bool.eq_false_iff.mpr (fun w => t (q.mp w))
        rw [f]
        exact (decide_eq_false t).symm
    · rw [bl_sh (by omega) hj]
      exact decide_eq_decide.mpr ⟨fun t => ⟨h0, t⟩, fun t => t.2⟩
  | succ e ih =>
    intro i hi x1 hx
    have hc := is_c36 a (show i < (is_l a 36).length by omega)
    have ki : (nI i).toNatClampNeg = i := nI_clamp (by omega)
    have ec : ic (nI i).toNatClampNeg = nI (is_c (is_l a 36) i) := by rw [ki]; exact hI i (by omega)
    have ee : x1 ||| ((1 : Int64) <<< ((ic (nI i).toNatClampNeg).toInt64 &&& 63)) = x1 ||| sh_b (is_c (is_l a 36) i) := by
      rw [ec]
      rfl
    refine pk_le (is_l a 36).length i (fun h => absurd h (by omega)) (fun _ => ⟨vp_in_nI (by omega) (by omega), nm_r ee (nm_r (nI_1 i) (ih (i + 1) (by omega) _ (fun j hj => ?_)))⟩)
    rw [bl_or, Bool.or_eq_true, hx j hj, bl_sh (by omega) hj, decide_eq_true_eq, is_tk (is_l a 36) (show i < (is_l a 36).length by omega), List.mem_append, List.mem_singleton]
theorem xj_p (post : Int32 → Prop) (sk : Int32) (a ic ne fe : Nat → Int32) (cb : Nat → Int64) (lb ta la lk : Nat → Int32) (h7 : (is_l a 36).length ≤ 7) (hI : is_M (is_l a 36) ic) (L : List (Nat × Nat × Int64)) (hL : gp_ok a L) (hG : L.length ≤ 14) (hM : gp_M L ne fe cb) (d : Nat → Nat) (hd : ∀ g, d g < 3) (hb : dm_M la d L.length)
    (hy : so_J a L d → post 1) (hn : ¬ so_J a L d → post 0) : wpX_allIslandsAreJoined post (nI (is_l a 36).length, nI L.length, sk, a, ic, ne, fe, cb, lb, ta, la, lk) := by
  refine pk_eq (is_l a 36).length 0 (fun h => hy (fun c hc z => ?_)) (fun h => ⟨_, xj_13 post sk a ic ne fe cb lb ta la lk h7 (by omega) hI L hL hG hM d hd hb hy hn (is_l a 36).length 0 (by omega) 0 (fun j hj => ?_)⟩)
  · have q := (is_mem a c 36).mpr ⟨hc, z⟩
    rw [List.eq_nil_of_length_eq_zero h] at q
    exact absurd q List.not_mem_nil
  · rw [bl_0]
    exact ⟨fun t => absurd t (by decide), fun t => absurd t List.not_mem_nil⟩
