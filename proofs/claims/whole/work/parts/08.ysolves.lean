/-- bridges as an array -/
def dm_M (b : Nat → Int32) (d : Nat → Nat) (n : Nat) : Prop := ∀ g, g < n → b g = nI (d g)
theorem sm_y {L : List (Nat × Nat × Int64)} {d : Nat → Nat} {c g : Nat} (h : gp_n L g = c ∨ gp_f L g = c) : sm_m L d c (g + 1) = sm_m L d c g + nI (d g) := if_pos h
theorem sm_x {L : List (Nat × Nat × Int64)} {d : Nat → Nat} {c g : Nat} (h : ¬ (gp_n L g = c ∨ gp_f L g = c)) : sm_m L d c (g + 1) = sm_m L d c g := if_neg h
theorem yc_12 (post : Int32 → Prop) (J2 : Int32 → Prop) (a yn yf : Nat → Int32) (yb : Nat → Int64) (br re : Nat → Int32) (ha : bd_ok a) (L : List (Nat × Nat × Int64)) (hL : gp_ok a L) (hG : L.length < 16) (hM : gp_M L yn yf yb) (d : Nat → Nat) (hb : dm_M br d L.length) (c : Nat) (hc : c < 36) (z : ¬ a c = 0)
    (h : wY_summed_64 post J2 (nI c) (sm_m L d c L.length) (nI L.length) a yn yf yb br re) :
    ∀ e g : Nat, g + e = L.length → wY_summed_12 post J2 (nI c) (nI L.length) a yn yf yb br re (e + 1) (sm_m L d c g) (nI g) := by
  intro e
  induction e with
  | zero =>
    intro g hg
    obtain rfl : g = L.length := by omega
    exact pk_le L.length L.length (fun _ => h) (fun h => absurd h (by omega))
  | succ e ih =>
    intro g hg
    have ih := ih (g + 1) (by omega)
    have kc : (nI c).toNatClampNeg = c := nI_clamp (by omega)
    have kg : (nI g).toNatClampNeg = g := nI_clamp (by omega)
    have vg : vp_in (nI g) 16 := vp_in_nI (by omega) (by omega)
    have m := hM g (by omega)
    have o := gp_at hL (show g < L.length by omega)
    have q := bd_z (ha.1 c hc)
    have en : yn (nI g).toNatClampNeg = nI (gp_n L g) := by rw [kg]; exact m.1
    have ef : yf (nI g).toNatClampNeg = nI (gp_f L g) := by rw [kg]; exact m.2.1
    have eb : br (nI g).toNatClampNeg = nI (d g) := by rw [kg]; exact hb g (by omega)
    have add : (gp_n L g = c ∨ gp_f L g = c) → wY_summed_49 post J2 (wY_summed_12 post J2 (nI c) (nI L.length) a yn yf yb br re (e + 1)) (nI c) (sm_m L d c g) (nI g) (nI L.length) a yn yf yb br re := by
      intro w
      rw [sm_y w] at ih
      exact ⟨vg, nm_r (by rw [eb]) (nm_r (nI_1 g) ih)⟩
    refine pk_le L.length g (fun h => absurd h (by omega)) (fun _ => ⟨vp_in_nI hc (by omega), br_f (by rw [kc]; exact fun w => z (q.mp w)) ⟨vg, ?_⟩⟩)
    refine pk_eq (gp_n L g) c (fun w => add (Or.inl w)) (fun w1 => ⟨vg, ?_⟩) en
    refine pk_eq (gp_f L g) c (fun w => add (Or.inr w)) (fun w2 => ?_) ef
    rw [sm_x (fun w => w.elim w1 w2)] at ih
    exact nm_r (nI_1 g) ih
theorem yc_2 (post : Int32 → Prop) (a yn yf : Nat → Int32) (yb : Nat → Int64) (br re : Nat → Int32) (ha : bd_ok a) (L : List (Nat × Nat × Int64)) (hL : gp_ok a L) (hG : L.length < 16) (hM : gp_M L yn yf yb) (d : Nat → Nat) (hb : dm_M br d L.length)
    (hy : so_M a L d → post 1) (hn : ¬ so_M a L d → post 0) :
    ∀ e c : Nat, c + e = 36 → (∀ j, j < c → ¬ a j = 0 → sm_m L d j L.length = a j) → wY_summed_2 post (nI L.length) a yn yf yb br re (e + 1) (nI c) := by
  intro e
  induction e with
  | zero =>
    intro c hc h
    obtain rfl : c = 36 := by omega
    exact pk_le 36 36 (fun _ => hy h) (fun h => absurd h (by omega))
  | succ e ih =>
    intro c hc h
    have ih := ih (c + 1) (by omega)
    have kc : (nI c).toNatClampNeg = c := nI_clamp (by omega)
    have vc : vp_in (nI c) 36 := vp_in_nI (by omega) (by omega)
    have q := bd_z (ha.1 c (by omega))
    refine pk_le 36 c (fun h => absurd h (by omega)) (fun _ => ?_)
    by_cases z : a c = 0
    · have go : wY_summed_64 post (wY_summed_2 post (nI L.length) a yn yf yb br re (e + 1)) (nI c) 0 (nI L.length) a yn yf yb br re := by
        refine ⟨vc, br_t (by rw [kc, z]) (nm_r (nI_1 c) (ih (fun j hj zj => ?_)))⟩
        have : j ≠ c := fun e => zj (e ▸ z)
        exact h j (by omega) zj
      exact ⟨1, pk_le L.length 0 (fun _ => go) (fun _ => ⟨vc, br_t (by rw [kc]; exact q.mpr z) go⟩)⟩
    · refine ⟨_, yc_12 post _ a yn yf yb br re ha L hL hG hM d hb c (by omega) z ⟨vc, br_c (fun w => ?_) (fun w => hn ?_)⟩ L.length 0 (by omega)⟩
      · rw [kc] at w
        refine nm_r (nI_1 c) (ih (fun j hj zj => ?_))
        by_cases e : j = c
        · exact e ▸ w
        · exact h j (by omega) zj
      · rw [kc] at w
        exact fun s => w (s c (by omega) z)
theorem yc_p (post : Int32 → Prop) (a yn yf : Nat → Int32) (yb : Nat → Int64) (br re : Nat → Int32) (ha : bd_ok a) (L : List (Nat × Nat × Int64)) (hL : gp_ok a L) (hG : L.length < 16) (hM : gp_M L yn yf yb) (d : Nat → Nat) (hb : dm_M br d L.length)
    (hy : so_M a L d → post 1) (hn : ¬ so_M a L d → post 0) : wpY_summed post (nI L.length, a, yn, yf, yb, br, re) :=
  ⟨37, yc_2 post a yn yf yb br re ha L hL hG hM d hb hy hn 36 0 rfl (fun j h => absurd h (Nat.not_lt_zero j))⟩
theorem yp_12 (post : Int32 → Prop) (J2 : Int32 → Prop) (a yn yf : Nat → Int32) (yb : Nat → Int64) (br re : Nat → Int32) (L : List (Nat × Nat × Int64)) (hG : L.length < 16) (hM : gp_M L yn yf yb) (d : Nat → Nat) (hd : ∀ g, d g < 3) (hb : dm_M br d L.length) (g : Nat) (hg : g < L.length)
    (hn : ∀ h, h < g → 0 < d g → 0 < d h → ¬ gp_b L g &&& gp_b L h = 0 → post 0) (hy : (∀ h, h < g → 0 < d g → 0 < d h → gp_b L g &&& gp_b L h = 0) → J2 (nI (g + 1))) :
    ∀ e h : Nat, h + e = g → (∀ j, j < h → 0 < d g → 0 < d j → gp_b L g &&& gp_b L j = 0) → wY_apart_12 post J2 (nI g) (nI L.length) a yn yf yb br re (e + 1) (nI h) := by
  intro e
  induction e with
  | zero =>
    intro h hh q
    obtain rfl : h = g := by omega
    exact pk_le h h (fun _ => nm_r (nI_1 h) (hy q)) (fun h => absurd h (by omega))
  | succ e ih =>
    intro h hh q
    have kg : (nI g).toNatClampNeg = g := nI_clamp (by omega)
    have kh : (nI h).toNatClampNeg = h := nI_clamp (by omega)
    have vg : vp_in (nI g) 16 := vp_in_nI (by omega) (by omega)
    have vh : vp_in (nI h) 16 := vp_in_nI (by omega) (by omega)
    have bg : yb (nI g).toNatClampNeg = gp_b L g := by rw [kg]; exact (hM g hg).2.2
    have bh : yb (nI h).toNatClampNeg = gp_b L h := by rw [kh]; exact (hM h (by omega)).2.2
    have eg : br (nI g).toNatClampNeg = nI (d g) := by rw [kg]; exact hb g hg
    have eh : br (nI h).toNatClampNeg = nI (d h) := by rw [kh]; exact hb h (by omega)
    have d1 := hd g
    have d2 := hd h
    have ih := ih (h + 1) (by omega)
    have go : (0 < d g → 0 < d h → gp_b L g &&& gp_b L h = 0) → wY_apart_12 post J2 (nI g) (nI L.length) a yn yf yb br re (e + 1) (nI (h + 1)) := by
      intro w
      refine ih (fun j hj p1 p2 => ?_)
      by_cases e : j = h
      · subst e; exact w p1 p2
      · exact q j (by omega) p1 p2
    refine pk_le g h (fun h => absurd h (by omega)) (fun _ => ⟨vg, vh, ?_⟩)
    rw [bg, bh]
    refine br_c (fun w => nm_r (nI_1 h) (go (fun _ _ => w))) (fun w => ⟨vg, ?_⟩)
    refine pk_le (d g) 0 (fun w1 => nm_r (nI_1 h) (go (fun p => absurd p (by omega)))) (fun w1 => ⟨vh, ?_⟩) eg
    exact pk_le (d h) 0 (fun w2 => nm_r (nI_1 h) (go (fun _ p => absurd p (by omega)))) (fun w2 => hn h (by omega) w1 w2 w) eh
theorem yp_2 (post : Int32 → Prop) (a yn yf : Nat → Int32) (yb : Nat → Int64) (br re : Nat → Int32) (L : List (Nat × Nat × Int64)) (hG : L.length < 16) (hM : gp_M L yn yf yb) (d : Nat → Nat) (hd : ∀ g, d g < 3) (hb : dm_M br d L.length)
    (hy : so_A L d L.length → post 1) (hn : ¬ so_A L d L.length → post 0) :
    ∀ e g : Nat, g + e = L.length → so_A L d g → wY_apart_2 post (nI L.length) a yn yf yb br re (e + 1) (nI g) := by
  intro e
  induction e with
  | zero =>
    intro g hg h
    obtain rfl : g = L.length := by omega
    exact pk_le L.length L.length (fun _ => hy h) (fun h => absurd h (by omega))
  | succ e ih =>
    intro g hg h
    refine pk_le L.length g (fun h => absurd h (by omega)) (fun _ => ⟨_, yp_12 post _ a yn yf yb br re L hG hM d hd hb g (by omega) (fun j hj p1 p2 w => hn (fun s => w (s g (by omega) j hj p1 p2))) (fun w => ih (g + 1) (by omega) ?_) g 0 (by omega) (fun j h => absurd h (Nat.not_lt_zero j))⟩)
    intro i hi j hj p1 p2
    by_cases e : i = g
    · subst e; exact w j hj p1 p2
    · exact h i (by omega) j hj p1 p2
theorem yp_p (post : Int32 → Prop) (a yn yf : Nat → Int32) (yb : Nat → Int64) (br re : Nat → Int32) (L : List (Nat × Nat × Int64)) (hG : L.length < 16) (hM : gp_M L yn yf yb) (d : Nat → Nat) (hd : ∀ g, d g < 3) (hb : dm_M br d L.length)
    (hy : so_A L d L.length → post 1) (hn : ¬ so_A L d L.length → post 0) : wpY_apart post (nI L.length, a, yn, yf, yb, br, re) :=
  ⟨_, yp_2 post a yn yf yb br re L hG hM d hd hb hy hn L.length 0 (by omega) (so_A0 L d)⟩
