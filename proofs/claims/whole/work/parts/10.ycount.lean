theorem yb_2 (post : SY → Prop) (gy : Int32) (a yn yf : Nat → Int32) (yb : Nat → Int64) (re : Nat → Int32) (hp : ∀ br, (∀ g, g < 16 → br g = 0) → post (gy, a, yn, yf, yb, br, re)) :
    ∀ e g : Nat, g + e = 16 → ∀ br, (∀ j, j < g → br j = 0) → wY_begin_2 post gy (e + 1) (nI g) a yn yf yb br re := by
  intro e
  induction e with
  | zero =>
    intro g hg br h
    obtain rfl : g = 16 := by omega
    exact pk_le 16 16 (fun _ => hp br h) (fun h => absurd h (by omega))
  | succ e ih =>
    intro g hg br h
    have kg : (nI g).toNatClampNeg = g := nI_clamp (by omega)
    refine pk_le 16 g (fun h => absurd h (by omega)) (fun _ => ⟨vp_in_nI (by omega) (by omega), nm_r (by rw [kg]) (nm_r (nI_1 g) (ih (g + 1) (by omega) (upd br g 0) (fun j hj => ?_)))⟩)
    by_cases e : j = g
    · subst e; exact pk_us
    · rw [pk_un e]; exact h j (by omega)
theorem yb_p (post : SY → Prop) (gy : Int32) (a yn yf : Nat → Int32) (yb : Nat → Int64) (br re : Nat → Int32) (hp : ∀ br, (∀ g, g < 16 → br g = 0) → post (gy, a, yn, yf, yb, br, re)) : wpY_begin post (gy, a, yn, yf, yb, br, re) :=
  ⟨17, yb_2 post gy a yn yf yb re hp 16 0 rfl br (fun j h => absurd h (Nat.not_lt_zero j))⟩
theorem yx_7 (post : Int32 → SY → Prop) (a yn yf : Nat → Int32) (yb : Nat → Int64) (re : Nat → Int32) (G i : Nat) (hG : G < 16) (hi : i < 3 ^ G)
    (hy : i + 1 < 3 ^ G → ∀ br, dm_M br (dg_d G (i + 1)) G → post 1 (nI G, a, yn, yf, yb, br, re)) (hn : i + 1 = 3 ^ G → ∀ br, post 0 (nI G, a, yn, yf, yb, br, re)) :
    ∀ g : Nat, g ≤ G → ∀ br, dg_c i (G - g) → (∀ h, h < g → br h = nI (dg_d G i h)) → (∀ h, g ≤ h → h < G → br h = 0) → wY_next_7 post (nI G) (g + 1) (nI g + (-1)) a yn yf yb br re := by
  intro g
  induction g with
  | zero =>
    intro _ br hc _ _
    exact br_t (by decide) (hn (dg_end hc hi) br)
  | succ g ih =>
    intro hg br hc h1 h2
    have kg : (nI g).toNatClampNeg = g := nI_clamp (by omega)
    have vg : vp_in (nI g) 16 := vp_in_nI (by omega) (by omega)
    have ed : br (nI g).toNatClampNeg = nI (dg_d G i g) := by rw [kg]; exact h1 g (by omega)
    have dl := dg_lt G i g
    rw [show G - (g + 1) = G - 1 - g by omega] at hc
    rw [pk_m1]
    refine br_f (nI_pos (by omega)) ⟨vg, ?_⟩
    refine pk_le 2 (dg_d G i g) (fun w => ⟨vg, nm_r (by rw [kg]) (nm_e (ih (by omega) (upd br g 0) ?_ (fun h hh => ?_) (fun h hh1 hh2 => ?_)))⟩) (fun w => ⟨vg, vg, nm_r (by rw [ed, kg, nI_1]) (hy (dg_le hc w (by omega) hi) _ (fun h hh => ?_))⟩) rfl ed
    · have d2 : dg_d G i g = 2 := by omega
      have := dg_cs hc d2
      rw [show G - 1 - g + 1 = G - g by omega] at this
      exact this
    · rw [pk_un (by omega)]
      exact h1 h (by omega)
    · by_cases e : h = g
      · subst e; exact pk_us
      · rw [pk_un e]; exact h2 h (by omega) hh2
    · by_cases e : h = g
      · subst e
        rw [pk_us]
        exact congrArg nI (dg_n1 hc w).symm
      · rw [pk_un e]
        by_cases l : h < g
        · rw [h1 h (by omega)]
          exact congrArg (fun t => nI (t % 3)) (dg_n2 hc w (show G - 1 - g < G - 1 - h by omega)).symm
        · rw [h2 h (by omega) hh]
          exact (congrArg nI (dg_n0 hc (show G - 1 - h < G - 1 - g by omega))).symm
theorem yx_p (post : Int32 → SY → Prop) (a yn yf : Nat → Int32) (yb : Nat → Int64) (br re : Nat → Int32) (G i : Nat) (hG : G < 16) (hi : i < 3 ^ G) (hb : dm_M br (dg_d G i) G)
    (hy : i + 1 < 3 ^ G → ∀ br, dm_M br (dg_d G (i + 1)) G → post 1 (nI G, a, yn, yf, yb, br, re)) (hn : i + 1 = 3 ^ G → ∀ br, post 0 (nI G, a, yn, yf, yb, br, re)) : wpY_next post (nI G, a, yn, yf, yb, br, re) :=
  nm_r (Int32.sub_eq_add_neg (nI G) 1) ⟨_, yx_7 post a yn yf yb re G i hG hi hy hn G (Nat.le_refl _) br (by rw [Nat.sub_self]; exact dg_c0 i) hb (fun h h1 h2 => absurd h1 (by omega))⟩
theorem yt_12 (post : Int32 → SY → Prop) (x1 x2 : Int32) (Q : Nat → Prop) (a yn yf : Nat → Int32) (yb : Nat → Int64) (ha : bd_ok a) (L : List (Nat × Nat × Int64)) (hL : gp_ok a L) (hG : L.length ≤ 8) (hM : gp_M L yn yf yb)
    (hq : ∀ (i : Nat) (br : Nat → Int32) (A B : Prop), dm_M br (dg_d L.length i) L.length → (Q i → A) → (¬ Q i → B) → (x1 < 0 → A) ∧ (¬ x1 < 0 → (vp_in x1 16 ∧ ((br x1.toNatClampNeg = x2 → A) ∧ (¬ br x1.toNatClampNeg = x2 → B)))))
    (hp : ∀ br re, post (nI (ct_n (fun i => Q i ∧ so_I a L i) (3 ^ L.length))) (nI L.length, a, yn, yf, yb, br, re)) :
    ∀ e i : Nat, i + e = 3 ^ L.length → ∀ (x4 : Int32) br re, (i < 3 ^ L.length → ¬ x4 = 0 ∧ dm_M br (dg_d L.length i) L.length) → (i = 3 ^ L.length → x4 = 0) → wY_count_12 post x1 x2 (e + 1) (nI (ct_n (fun i => Q i ∧ so_I a L i) i)) x4 (nI i) (nI L.length) a yn yf yb br re := by
  have h3 := dg_8 hG
  intro e
  induction e with
  | zero =>
    intro i hi x4 br re _ hx
    obtain rfl : i = 3 ^ L.length := by omega
    exact pk_le 6561 (3 ^ L.length) (fun _ => hp br re) (fun _ => br_t (hx rfl) (hp br re))
  | succ e ih =>
    intro i hi x4 br re hx _
    obtain ⟨hx, hb⟩ := hx (by omega)
    have ih := ih (i + 1) (by omega)
    have nx : ∀ (c : Nat) (br re : Nat → Int32), c = ct_n (fun i => Q i ∧ so_I a L i) (i + 1) → dm_M br (dg_d L.length i) L.length → wY_count_49 post (wY_count_12 post x1 x2 (e + 1)) x1 x2 (nI c) (nI i) (nI L.length) a yn yf yb br re := by
      intro c br re hc hb
      subst hc
      unfold wY_count_49
      exact yx_p _ a yn yf yb br re L.length i (by omega) (by omega) hb (fun w br hb => nm_r (nI_1 i) (ih 1 br re (fun _ => ⟨by decide, hb⟩) (fun t => absurd t (by omega)))) (fun w br => nm_r (nI_1 i) (ih 0 br re (fun t => absurd t (by omega)) (fun _ => rfl)))
    refine pk_le 6561 i (fun h => absurd h (by omega)) (fun _ => br_f hx (hq i br _ _ hb (fun w => ?_) (fun w => nx _ br re (ct_x (fun t => w t.1)).symm hb)))
    unfold wY_count_39
    exact yv_p _ a yn yf yb br re ha L hL (by omega) hM _ (dg_lt L.length i) hb (fun s re => br_f (by decide) (nm_r (nI_1 _) (nx _ br re (ct_y (P := fun i => Q i ∧ so_I a L i) ⟨w, s⟩).symm hb))) (fun s re => br_t rfl (nx _ br re (ct_x (fun t => s t.2)).symm hb))
theorem yt_p (post : Int32 → SY → Prop) (x1 x2 : Int32) (Q : Nat → Prop) (a yn yf : Nat → Int32) (yb : Nat → Int64) (br re : Nat → Int32) (ha : bd_ok a) (L : List (Nat × Nat × Int64)) (hL : gp_ok a L) (hG : L.length ≤ 8) (hM : gp_M L yn yf yb)
    (hq : ∀ (i : Nat) (br : Nat → Int32) (A B : Prop), dm_M br (dg_d L.length i) L.length → (Q i → A) → (¬ Q i → B) → (x1 < 0 → A) ∧ (¬ x1 < 0 → (vp_in x1 16 ∧ ((br x1.toNatClampNeg = x2 → A) ∧ (¬ br x1.toNatClampNeg = x2 → B)))))
    (hp : ∀ br re, post (nI (ct_n (fun i => Q i ∧ so_I a L i) (3 ^ L.length))) (nI L.length, a, yn, yf, yb, br, re)) : wpY_count post (nI L.length, a, yn, yf, yb, br, re) x1 x2 := by
  unfold wpY_count
  refine yb_p _ (nI L.length) a yn yf yb br re (fun br hb => ⟨_, yt_12 post x1 x2 Q a yn yf yb ha L hL hG hM hq hp (3 ^ L.length) 0 (by omega) 1 br re (fun _ => ⟨by decide, fun g hg => ?_⟩) (fun t => ?_)⟩)
  · rw [hb g (by omega), dg_0]
    rfl
  · have := dg_p L.length
    omega
/-- all solutions -/
theorem yt_a (post : Int32 → SY → Prop) (a yn yf : Nat → Int32) (yb : Nat → Int64) (br re : Nat → Int32) (ha : bd_ok a) (L : List (Nat × Nat × Int64)) (hL : gp_ok a L) (hG : L.length ≤ 8) (hM : gp_M L yn yf yb)
    (hp : ∀ br re, post (nI (ct_n (so_I a L) (3 ^ L.length))) (nI L.length, a, yn, yf, yb, br, re)) : wpY_count post (nI L.length, a, yn, yf, yb, br, re) (-1) 0 := by
  refine yt_p post (-1) 0 (fun _ => True) a yn yf yb br re ha L hL hG hM (fun i br A B _ w _ => br_t (by decide) (w trivial)) ?_
  rw [ct_iff (P := fun i => True ∧ so_I a L i) (Q := so_I a L) (fun i _ => ⟨fun t => t.2, fun t => ⟨trivial, t⟩⟩)]
  exact hp
/-- those that give gap g e bridges -/
theorem yt_g (post : Int32 → SY → Prop) (a yn yf : Nat → Int32) (yb : Nat → Int64) (br re : Nat → Int32) (ha : bd_ok a) (L : List (Nat × Nat × Int64)) (hL : gp_ok a L) (hG : L.length ≤ 8) (hM : gp_M L yn yf yb) (g e : Nat) (hg : g < L.length) (he : e < 3)
    (hp : ∀ br re, post (nI (ct_n (so_T a L g e) (3 ^ L.length))) (nI L.length, a, yn, yf, yb, br, re)) : wpY_count post (nI L.length, a, yn, yf, yb, br, re) (nI g) (nI e) := by
  refine yt_p post (nI g) (nI e) (fun i => dg_d L.length i g = e) a yn yf yb br re ha L hL hG hM (fun i br A B hb w1 w2 => br_f (nI_pos (by omega)) ⟨vp_in_nI (by omega) (by omega), ?_⟩) hp
  have dl := dg_lt L.length i g
  exact pk_eq (dg_d L.length i g) e w1 w2 (by rw [nI_clamp (by omega)]; exact hb g hg) rfl
theorem yl_38 (post : Int32 → SY → Prop) (a yn yf : Nat → Int32) (yb : Nat → Int64) (ha : bd_ok a) (L : List (Nat × Nat × Int64)) (hL : gp_ok a L) (hG : L.length ≤ 8) (hM : gp_M L yn yf yb) (g : Nat) (hg : g < L.length)
    (hy : ∀ i, i < 3 ^ L.length → so_I a L i → (∀ j, j < i → ¬ so_I a L j) → ∀ br re, post (nI (dg_d L.length i g)) (nI L.length, a, yn, yf, yb, br, re))
    (hn : (∀ i, i < 3 ^ L.length → ¬ so_I a L i) → ∀ br re, post (-1) (nI L.length, a, yn, yf, yb, br, re)) :
    ∀ e i : Nat, i + e = 3 ^ L.length → (∀ j, j < i → ¬ so_I a L j) → ∀ (x2 : Int32) br re, (i < 3 ^ L.length → ¬ x2 = 0 ∧ dm_M br (dg_d L.length i) L.length) → (i = 3 ^ L.length → x2 = 0) → wY_least_38 post (nI g) (e + 1) x2 (nI i) (nI L.length) a yn yf yb br re := by
  have h3 := dg_8 hG
  intro e
  induction e with
  | zero =>
    intro i hi h x4 br re _ hx
    obtain rfl : i = 3 ^ L.length := by omega
    exact pk_le 6561 (3 ^ L.length) (fun _ => hn h br re) (fun _ => br_t (hx rfl) (hn h br re))
  | succ e ih =>
    intro i hi h x4 br re hx _
    obtain ⟨hx, hb⟩ := hx (by omega)
    have ih := ih (i + 1) (by omega)
    refine pk_le 6561 i (fun h => absurd h (by omega)) (fun _ => br_f hx ?_)
    refine yv_p _ a yn yf yb br re ha L hL (by omega) hM _ (dg_lt L.length i) hb (fun s re => br_f (by decide) ⟨vp_in_nI (by omega) (by omega), ?_⟩) (fun s re => br_t rfl ?_)
    · rw [nI_clamp (by omega), hb g hg]
      exact hy i (by omega) s h br re
    · have h' : ∀ j, j < i + 1 → ¬ so_I a L j := fun j hj => by
        by_cases e : j = i
        · subst e; exact s
        · exact h j (by omega)
      exact yx_p _ a yn yf yb br re L.length i (by omega) (by omega) hb (fun w br hb => nm_r (nI_1 i) (ih h' 1 br re (fun _ => ⟨by decide, hb⟩) (fun t => absurd t (by omega)))) (fun w br => nm_r (nI_1 i) (ih h' 0 br re (fun t => absurd t (by omega)) (fun _ => rfl)))
