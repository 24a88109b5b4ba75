/-- a set as an array of booleans -/
def rm_M (s : Nat → Bool) (re : Nat → Int32) : Prop := ∀ c, c < 36 → re c = if s c = true then 1 else 0
theorem rm_z {s : Nat → Bool} {re : Nat → Int32} (h : rm_M s re) {c : Nat} (hc : c < 36) : re c = 0 ↔ ¬ s c = true := by
  rw [h c hc]
  by_cases q : s c = true
  · rw [if_pos q]
    exact ⟨fun w => absurd w (by decide), fun w => absurd q w⟩
  · rw [if_neg q]
    exact ⟨fun _ => q, fun _ => rfl⟩
theorem rm_u {s : Nat → Bool} {re : Nat → Int32} (h : rm_M s re) (n f : Nat) : rm_M (fun c => s c || decide (c = n) || decide (c = f)) (upd (upd re n 1) f 1) := by
  intro c hc
  show upd (upd re n 1) f 1 c = if (s c || decide (c = n) || decide (c = f)) = true then 1 else 0
  by_cases e1 : c = f
  · subst e1
    rw [pk_us, if_pos]
    rw [decide_eq_true rfl, Bool.or_true]
  · rw [pk_un e1]
    by_cases e2 : c = n
    · subst e2
      rw [pk_us, if_pos]
      rw [decide_eq_true rfl, Bool.or_true, Bool.true_or]
    · rw [pk_un e2, h c hc, decide_eq_false e1, decide_eq_false e2, Bool.or_false, Bool.or_false]
theorem vb_0 : vp_nar .boolean 0 = 0 := by decide
theorem vb_1 : vp_nar .boolean 1 = 1 := by decide
theorem jn_s1 {L : List (Nat × Nat × Int64)} {d : Nat → Nat} {s : Nat → Bool} {g : Nat} (p : 0 < d g) (h : jn_r L d s g (gp_n L g) = true ∨ jn_r L d s g (gp_f L g) = true) : jn_r L d s (g + 1) = (fun c => jn_r L d s g c || decide (c = gp_n L g) || decide (c = gp_f L g)) := if_pos ⟨p, h⟩
theorem jn_s0 {L : List (Nat × Nat × Int64)} {d : Nat → Nat} {s : Nat → Bool} {g : Nat} (h : ¬ (0 < d g ∧ (jn_r L d s g (gp_n L g) = true ∨ jn_r L d s g (gp_f L g) = true))) : jn_r L d s (g + 1) = jn_r L d s g := if_neg h
theorem yj_144 (post : Int32 → SY → Prop) (a yn yf : Nat → Int32) (yb : Nat → Int64) (br re : Nat → Int32) (gy : Int32) (ha : bd_ok a) (s : Nat → Bool) (hr : rm_M s re)
    (hy : (∀ c, c < 36 → ¬ a c = 0 → s c = true) → post 1 (gy, a, yn, yf, yb, br, re)) (hn : ¬ (∀ c, c < 36 → ¬ a c = 0 → s c = true) → post 0 (gy, a, yn, yf, yb, br, re)) :
    ∀ e c : Nat, c + e = 36 → (∀ j, j < c → ¬ a j = 0 → s j = true) → wY_joined_144 post gy a yn yf yb br re (e + 1) (nI c) := by
  intro e
  induction e with
  | zero =>
    intro c hc h
    obtain rfl : c = 36 := by omega
    exact pk_le 36 36 (fun _ => hy h) (fun h => absurd h (by omega))
  | succ e ih =>
    intro c hc h
    have ih := ih (c + 1) (by omega)
    have kc : (nI c).toNatClampNeg = c := nI_clamp (by omega)
    have vc : vp_in (nI c) 36 := vp_in_nI (by omega) (by omega)
    have q := bd_z (ha.1 c (by omega))
    have hz := rm_z hr (show c < 36 by omega)
    refine pk_le 36 c (fun h => absurd h (by omega)) (fun _ => ⟨vc, ?_⟩)
    rw [kc]
    by_cases z : a c = 0
    · refine br_t (q.mpr z) (nm_r (nI_1 c) (ih (fun j hj zj => ?_)))
      have : j ≠ c := fun e => zj (e ▸ z)
      exact h j (by omega) zj
    · refine br_f (fun w => z (q.mp w)) ⟨vc, br_c (fun w => hn (fun t => hz.mp w (t c (by omega) z))) (fun w => nm_r (nI_1 c) (ih (fun j hj zj => ?_)))⟩
      by_cases e : j = c
      · subst e
        exact Decidable.byContradiction (fun t => w (hz.mpr t))
      · exact h j (by omega) zj
theorem yj_61 (post : Int32 → SY → Prop) (J53 : Int32 → (Nat → Int32) → (Nat → Int32) → (Nat → Int32) → (Nat → Int64) → (Nat → Int32) → (Nat → Int32) → Prop) (a yn yf : Nat → Int32) (yb : Nat → Int64) (br : Nat → Int32) (L : List (Nat × Nat × Int64)) (hL : gp_ok a L) (hG : L.length < 16) (hM : gp_M L yn yf yb) (d : Nat → Nat) (hd : ∀ g, d g < 3) (hb : dm_M br d L.length) (s : Nat → Bool) (r : Nat)
    (hJ : ∀ re, rm_M (jn_r L d s L.length) re → J53 (nI (r + 1)) a yn yf yb br re) :
    ∀ e g : Nat, g + e = L.length → ∀ re, rm_M (jn_r L d s g) re → wY_joined_61 post J53 (nI r) (nI L.length) (e + 1) (nI g) a yn yf yb br re := by
  intro e
  induction e with
  | zero =>
    intro g hg re hr
    obtain rfl : g = L.length := by omega
    exact pk_le L.length L.length (fun _ => nm_r (nI_1 r) (hJ re hr)) (fun h => absurd h (by omega))
  | succ e ih =>
    intro g hg re hr
    have ih := ih (g + 1) (by omega)
    have kg : (nI g).toNatClampNeg = g := nI_clamp (by omega)
    have vg : vp_in (nI g) 16 := vp_in_nI (by omega) (by omega)
    have m := hM g (by omega)
    have o := gp_at hL (show g < L.length by omega)
    have kn : (nI (gp_n L g)).toNatClampNeg = gp_n L g := nI_clamp (by omega)
    have kf : (nI (gp_f L g)).toNatClampNeg = gp_f L g := nI_clamp (by omega)
    have en : yn (nI g).toNatClampNeg = nI (gp_n L g) := by rw [kg]; exact m.1
    have ef : yf (nI g).toNatClampNeg = nI (gp_f L g) := by rw [kg]; exact m.2.1
    have eb : br (nI g).toNatClampNeg = nI (d g) := by rw [kg]; exact hb g (by omega)
    have vn : vp_in (yn (nI g).toNatClampNeg) 36 := by rw [en]; exact vp_in_nI (by omega) (by omega)
    have vf : vp_in (yf (nI g).toNatClampNeg) 36 := by rw [ef]; exact vp_in_nI (by omega) (by omega)
    have zn : re (yn (nI g).toNatClampNeg).toNatClampNeg = 0 ↔ ¬ jn_r L d s g (gp_n L g) = true := by rw [en, kn]; exact rm_z hr (by omega)
    have zf : re (yf (nI g).toNatClampNeg).toNatClampNeg = 0 ↔ ¬ jn_r L d s g (gp_f L g) = true := by rw [ef, kf]; exact rm_z hr (by omega)
    have d1 := hd g
    have add : 0 < d g → (jn_r L d s g (gp_n L g) = true ∨ jn_r L d s g (gp_f L g) = true) → wY_joined_106 post J53 (wY_joined_61 post J53 (nI r) (nI L.length) (e + 1)) (nI r) (nI g) (nI L.length) a yn yf yb br re := by
      intro p w
      rw [jn_s1 p w] at ih
      exact ⟨vg, vn, nm_r (by rw [en, kn, vb_1]) ⟨vg, vf, nm_r (by rw [ef, kf, vb_1]) (nm_r (nI_1 g) (ih _ (rm_u hr _ _)))⟩⟩
    have stay : ¬ (0 < d g ∧ (jn_r L d s g (gp_n L g) = true ∨ jn_r L d s g (gp_f L g) = true)) → wY_joined_61 post J53 (nI r) (nI L.length) (e + 1) (nI (g + 1)) a yn yf yb br re := by
      intro w
      rw [jn_s0 w] at ih
      exact ih re hr
    refine pk_le L.length g (fun h => absurd h (by omega)) (fun _ => ⟨vg, ?_⟩)
    refine pk_le (d g) 0 (fun w => nm_r (nI_1 g) (stay (fun t => absurd t.1 (by omega)))) (fun p => ⟨vg, vn, ?_⟩) eb
    refine br_c (fun w1 => ⟨vg, vf, br_c (fun w2 => nm_r (nI_1 g) (stay (fun t => t.2.elim (zn.mp w1) (zf.mp w2)))) (fun w2 => add p (Or.inr ?_))⟩) (fun w1 => add p (Or.inl ?_))
    · exact Decidable.byContradiction (fun t => w2 (zf.mpr t))
    · exact Decidable.byContradiction (fun t => w1 (zn.mpr t))
theorem yj_53 (post : Int32 → SY → Prop) (a yn yf : Nat → Int32) (yb : Nat → Int64) (br : Nat → Int32) (ha : bd_ok a) (L : List (Nat × Nat × Int64)) (hL : gp_ok a L) (hG : L.length < 16) (hM : gp_M L yn yf yb) (d : Nat → Nat) (hd : ∀ g, d g < 3) (hb : dm_M br d L.length)
    (hy : so_J a L d → ∀ re, post 1 (nI L.length, a, yn, yf, yb, br, re)) (hn : ¬ so_J a L d → ∀ re, post 0 (nI L.length, a, yn, yf, yb, br, re)) :
    ∀ e r : Nat, r + e = 7 → ∀ re, rm_M (jn_i L d (jn_0 a) r) re → wY_joined_53 post (nI L.length) (e + 1) (nI r) a yn yf yb br re := by
  intro e
  induction e with
  | zero =>
    intro r hr re hs
    obtain rfl : r = 7 := by omega
    exact pk_le 7 7 (fun _ => ⟨37, yj_144 post a yn yf yb br re (nI L.length) ha _ hs (fun t => hy t re) (fun t => hn t re) 36 0 rfl (fun j h => absurd h (Nat.not_lt_zero j))⟩) (fun h => absurd h (by omega))
  | succ e ih =>
    intro r hr re hs
    exact pk_le 7 r (fun h => absurd h (by omega)) (fun _ => ⟨_, yj_61 post _ a yn yf yb br L hL hG hM d hd hb (jn_i L d (jn_0 a) r) r (fun re hs => ih (r + 1) (by omega) re hs) L.length 0 (by omega) re hs⟩)
theorem yj_4 (post : Int32 → SY → Prop) (a yn yf : Nat → Int32) (yb : Nat → Int64) (br : Nat → Int32) (ha : bd_ok a) (L : List (Nat × Nat × Int64)) (hL : gp_ok a L) (hG : L.length < 16) (hM : gp_M L yn yf yb) (d : Nat → Nat) (hd : ∀ g, d g < 3) (hb : dm_M br d L.length)
    (hy : so_J a L d → ∀ re, post 1 (nI L.length, a, yn, yf, yb, br, re)) (hn : ¬ so_J a L d → ∀ re, post 0 (nI L.length, a, yn, yf, yb, br, re)) :
    ∀ e c : Nat, c + e = 36 → ∀ (x1 : Int32) re, (x1 = 0 ↔ is_l a c = []) → (∀ j, j < c → re j = if jn_0 a j = true then 1 else 0) → wY_joined_4 post (nI L.length) (e + 1) x1 (nI c) a yn yf yb br re := by
  intro e
  induction e with
  | zero =>
    intro c hc x1 re _ hs
    obtain rfl : c = 36 := by omega
    exact pk_le 36 36 (fun _ => ⟨_, yj_53 post a yn yf yb br ha L hL hG hM d hd hb hy hn 7 0 rfl re hs⟩) (fun h => absurd h (by omega))
  | succ e ih =>
    intro c hc x1 re hx hs
    have ih := ih (c + 1) (by omega)
    have kc : (nI c).toNatClampNeg = c := nI_clamp (by omega)
    have vc : vp_in (nI c) 36 := vp_in_nI (by omega) (by omega)
    have q := bd_z (ha.1 c (by omega))
    have up : ∀ v : Int32, v = (if jn_0 a c = true then 1 else 0) → ∀ j, j < c + 1 → upd re c v j = if jn_0 a j = true then 1 else 0 := by
      intro v hv j hj
      by_cases e : j = c
      · subst e; rw [pk_us]; exact hv
      · rw [pk_un e]; exact hs j (by omega)
    refine pk_le 36 c (fun h => absurd h (by omega)) (fun _ => ⟨vc, ?_⟩)
    by_cases z : a c = 0
    · have z' : a (nI c).toNatClampNeg ≤ 0 := by rw [kc]; exact q.mpr z
      have n0 : ¬ jn_0 a c = true := fun t => by
        have t := of_decide_eq_true t
        exact (is_c36 a t.1).2 (t.2 ▸ z)
      exact br_t z' ⟨vc, nm_r (by rw [kc, vb_0]) ⟨vc, br_t z' (nm_r (nI_1 c) (ih x1 _ (by rw [is_s0 z]; exact hx) (up 0 (by rw [if_neg n0]))))⟩⟩
    · have z' : ¬ a (nI c).toNatClampNeg ≤ 0 := by rw [kc]; exact fun w => z (q.mp w)
      have one : (1 : Int32) = 0 ↔ is_l a (c + 1) = [] := by
        rw [is_s1 z]
        exact ⟨fun w => absurd w (by decide), fun w => absurd (congrArg List.length w) (by rw [List.length_append]; exact Nat.succ_ne_zero _)⟩
      refine br_f z' (br_c (fun w => ?_) (fun w => ?_))
      · have f := is_fst a (show c < 36 by omega) z (hx.mp w)
        exact ⟨vc, nm_r (by rw [kc, vb_1]) ⟨vc, br_f z' (nm_r (nI_1 c) (ih 1 _ one (up 1 (by rw [if_pos]; exact decide_eq_true ⟨f.1, f.2.symm⟩))))⟩⟩
      · have f := is_nfst a (show c ≤ 36 by omega) (fun t => w (hx.mpr t))
        have n0 : ¬ jn_0 a c = true := fun t => by
          have t := of_decide_eq_true t
          omega
        exact ⟨vc, nm_r (by rw [kc, vb_0]) ⟨vc, br_f z' (nm_r (nI_1 c) (ih 1 _ one (up 0 (by rw [if_neg n0]))))⟩⟩
theorem yj_p (post : Int32 → SY → Prop) (a yn yf : Nat → Int32) (yb : Nat → Int64) (br re : Nat → Int32) (ha : bd_ok a) (L : List (Nat × Nat × Int64)) (hL : gp_ok a L) (hG : L.length < 16) (hM : gp_M L yn yf yb) (d : Nat → Nat) (hd : ∀ g, d g < 3) (hb : dm_M br d L.length)
    (hy : so_J a L d → ∀ re, post 1 (nI L.length, a, yn, yf, yb, br, re)) (hn : ¬ so_J a L d → ∀ re, post 0 (nI L.length, a, yn, yf, yb, br, re)) : wpY_joined post (nI L.length, a, yn, yf, yb, br, re) :=
  ⟨37, yj_4 post a yn yf yb br ha L hL hG hM d hd hb hy hn 36 0 rfl 0 re ⟨fun _ => rfl, fun _ => rfl⟩ (fun j h => absurd h (Nat.not_lt_zero j))⟩
theorem yv_p (post : Int32 → SY → Prop) (a yn yf : Nat → Int32) (yb : Nat → Int64) (br re : Nat → Int32) (ha : bd_ok a) (L : List (Nat × Nat × Int64)) (hL : gp_ok a L) (hG : L.length < 16) (hM : gp_M L yn yf yb) (d : Nat → Nat) (hd : ∀ g, d g < 3) (hb : dm_M br d L.length)
    (hy : so_S a L d → ∀ re, post 1 (nI L.length, a, yn, yf, yb, br, re)) (hn : ¬ so_S a L d → ∀ re, post 0 (nI L.length, a, yn, yf, yb, br, re)) : wpY_solves post (nI L.length, a, yn, yf, yb, br, re) := by
  unfold wpY_solves
  refine yc_p _ a yn yf yb br re ha L hL hG hM d hb (fun h1 => br_f (by decide) ?_) (fun h1 => br_t rfl (hn (fun t => h1 t.1) re))
  refine yp_p _ a yn yf yb br re L hG hM d hd hb (fun h2 => br_f (by decide) ?_) (fun h2 => br_t rfl (hn (fun t => h2 t.2.1) re))
  exact yj_p _ a yn yf yb br re ha L hL hG hM d hd hb (fun h3 re => br_f (by decide) (hy ⟨h1, h2, h3⟩ re)) (fun h3 re => br_t rfl (hn (fun t => h3 t.2.2) re))
