theorem xy_9 (post : SX → Prop) (ik sk : Int32) (a ic ne fe : Nat → Int32) (cb : Nat → Int64) (lb ta lk : Nat → Int32) (G i : Nat) (hG : G ≤ 14) (hi : i < 6561)
    (hp : ∀ la, dm_M la (dg_d G i) G → post (ik, nI G, sk, a, ic, ne, fe, cb, lb, ta, la, lk)) :
    ∀ g : Nat, g ≤ G → ∀ la, (∀ h, g ≤ h → h < G → la h = nI (dg_d G i h)) → wX_layBridges_9 post ik (nI G) sk (g + 1) (nI (i / 3 ^ (G - g))) (nI g + (-1)) a ic ne fe cb lb ta la lk := by
  intro g
  induction g with
  | zero =>
    intro _ la h
    exact br_t (by decide) (hp la (fun g hg => h g (Nat.zero_le _) hg))
  | succ g ih =>
    intro hg la h
    have kg : (nI g).toNatClampNeg = g := nI_clamp (by omega)
    have vg : vp_in (nI g) 14 := vp_in_nI (by omega) (by omega)
    have hd : i / 3 ^ (G - 1 - g) ≤ i := Nat.div_le_self _ _
    have e1 : nI (i / 3 ^ (G - 1 - g)) - nI (i / 3 ^ (G - 1 - g)) / 3 * 3 = nI (dg_d G i g) := pk_rem (d := 3) (by omega) (by omega) (by omega)
    have e2 : nI (i / 3 ^ (G - 1 - g)) / 3 = nI (i / 3 ^ (G - g)) := by
      have := pk_div (a := i / 3 ^ (G - 1 - g)) (d := 3) (by omega) (by omega) (by omega)
      rw [Nat.div_div_eq_div_mul, ← dg_ps, show G - 1 - g + 1 = G - g by omega] at this
      exact this
    rw [pk_m1, show G - (g + 1) = G - 1 - g by omega]
    refine br_f (nI_pos (by omega)) ⟨by decide, vg, nm_r (by rw [kg, e1]) ⟨by decide, nm_r e2 (nm_e (ih (by omega) (upd la g (nI (dg_d G i g))) (fun j h1 h2 => ?_)))⟩⟩
    by_cases e : j = g
    · subst e; exact pk_us
    · rw [pk_un e]; exact h j (by omega) h2
theorem xy_p (post : SX → Prop) (ik sk : Int32) (a ic ne fe : Nat → Int32) (cb : Nat → Int64) (lb ta la lk : Nat → Int32) (G i : Nat) (hG : G ≤ 14) (hi : i < 6561)
    (hp : ∀ la, dm_M la (dg_d G i) G → post (ik, nI G, sk, a, ic, ne, fe, cb, lb, ta, la, lk)) : wpX_layBridges post (ik, nI G, sk, a, ic, ne, fe, cb, lb, ta, la, lk) (nI i) := by
  refine nm_r (Int32.sub_eq_add_neg (nI G) 1) ⟨G + 1, ?_⟩
  have h := xy_9 post ik sk a ic ne fe cb lb ta lk G i hG hi hp G (Nat.le_refl _) la (fun h h1 h2 => absurd h1 (by omega))
  rw [Nat.sub_self, Nat.pow_zero, Nat.div_one] at h
  exact h
theorem xm_93 (post : Int32 → SX → Prop) (gk sk : Int32) (a ic ne fe : Nat → Int32) (cb : Nat → Int64) (lb ta la lk : Nat → Int32) (h7 : (is_l a 36).length ≤ 7) (hI : is_M (is_l a 36) ic) (L : List (Nat × Nat × Int64)) (d : Nat → Nat)
    (hl : ∀ c, c < 36 → ¬ a c = 0 → lk c = a c - sm_m L d c L.length)
    (hy : so_M a L d → post 1 (nI (is_l a 36).length, gk, sk, a, ic, ne, fe, cb, lb, ta, la, lk)) (hn : ¬ so_M a L d → post 0 (nI (is_l a 36).length, gk, sk, a, ic, ne, fe, cb, lb, ta, la, lk)) :
    ∀ e i : Nat, i + e = (is_l a 36).length → (∀ j, j < i → lk (is_c (is_l a 36) j) = 0) → wX_numbersAreMet_93 post (nI (is_l a 36).length) gk sk a ic ne fe cb lb ta la lk (e + 1) (nI i) := by
  have sub0 : ∀ x y : Int32, x - y = 0 ↔ y = x := by
    intro x y
    constructor
    · intro h
      have h2 : x - y + y = 0 + y := by rw [h]
      rw [Int32.sub_add_cancel, Int32.zero_add] at h2
      exact h2.symm
    · intro h
      rw [h, Int32.sub_self]
  intro e
  induction e with
  | zero =>
    intro i hi h
    refine pk_le (is_l a 36).length i (fun _ => hy (fun c hc z => ?_)) (fun h => absurd h (by omega))
    obtain ⟨j, hj, rfl⟩ := is_ex (is_l a 36) ((is_mem a c 36).mpr ⟨hc, z⟩)
    have q := h j (by omega)
    rw [hl _ hc z] at q
    exact (sub0 _ _).mp q
  | succ e ih =>
    intro i hi h
    have hc := is_c36 a (show i < (is_l a 36).length by omega)
    have ki : (nI i).toNatClampNeg = i := nI_clamp (by omega)
    have ec : ic (nI i).toNatClampNeg = nI (is_c (is_l a 36) i) := by rw [ki]; exact hI i (by omega)
    have kc : (nI (is_c (is_l a 36) i)).toNatClampNeg = is_c (is_l a 36) i := nI_clamp (by omega)
    refine pk_le (is_l a 36).length i (fun h => absurd h (by omega)) (fun _ => ⟨vp_in_nI (by omega) (by omega), ?_⟩)
    rw [ec, kc]
    refine ⟨vp_in_nI hc.1 (by omega), br_c (fun w => nm_r (nI_1 i) (ih (i + 1) (by omega) (fun j hj => ?_))) (fun w => hn (fun s => w ?_))⟩
    · by_cases e : j = i
      · subst e; exact w
      · exact h j (by omega)
    · rw [hl _ hc.1 hc.2]
      exact (sub0 _ _).mpr (s _ hc.1 hc.2)
theorem xm_37 (post : Int32 → SX → Prop) (sk : Int32) (a ic ne fe : Nat → Int32) (cb : Nat → Int64) (lb ta la : Nat → Int32) (h7 : (is_l a 36).length ≤ 7) (hI : is_M (is_l a 36) ic) (L : List (Nat × Nat × Int64)) (hL : gp_ok a L) (hG : L.length ≤ 14) (hM : gp_M L ne fe cb) (d : Nat → Nat) (hb : dm_M la d L.length)
    (hy : so_M a L d → ∀ lk, post 1 (nI (is_l a 36).length, nI L.length, sk, a, ic, ne, fe, cb, lb, ta, la, lk)) (hn : ¬ so_M a L d → ∀ lk, post 0 (nI (is_l a 36).length, nI L.length, sk, a, ic, ne, fe, cb, lb, ta, la, lk)) :
    ∀ e g : Nat, g + e = L.length → ∀ lk, (∀ c, c < 36 → ¬ a c = 0 → lk c = a c - sm_m L d c g) → wX_numbersAreMet_37 post (nI (is_l a 36).length) (nI L.length) sk (e + 1) (nI g) a ic ne fe cb lb ta la lk := by
  have sub2 : ∀ x y z : Int32, x - y - z = x - (y + z) := by
    intro x y z
    rw [Int32.sub_eq_add_neg, Int32.sub_eq_add_neg, Int32.sub_eq_add_neg, Int32.neg_add, Int32.sub_eq_add_neg, Int32.add_assoc]
  intro e
  induction e with
  | zero =>
    intro g hg lk hl
    obtain rfl : g = L.length := by omega
    exact pk_le L.length L.length (fun _ => ⟨_, xm_93 post (nI L.length) sk a ic ne fe cb lb ta la lk h7 hI L d hl (fun t => hy t lk) (fun t => hn t lk) (is_l a 36).length 0 (by omega) (fun j h => absurd h (Nat.not_lt_zero j))⟩) (fun h => absurd h (by omega))
  | succ e ih =>
    intro g hg lk hl
    have kg : (nI g).toNatClampNeg = g := nI_clamp (by omega)
    have vg : vp_in (nI g) 14 := vp_in_nI (by omega) (by omega)
    have m := hM g (by omega)
    have o := gp_at hL (show g < L.length by omega)
    have kn : (nI (gp_n L g)).toNatClampNeg = gp_n L g := nI_clamp (by omega)
    have kf : (nI (gp_f L g)).toNatClampNeg = gp_f L g := nI_clamp (by omega)
    have en : ne (nI g).toNatClampNeg = nI (gp_n L g) := by rw [kg]; exact m.1
    have ef : fe (nI g).toNatClampNeg = nI (gp_f L g) := by rw [kg]; exact m.2.1
    have eb : la (nI g).toNatClampNeg = nI (d g) := by rw [kg]; exact hb g (by omega)
    have vn : vp_in (nI (gp_n L g)) 36 := vp_in_nI (by omega) (by omega)
    have vf : vp_in (nI (gp_f L g)) 36 := vp_in_nI (by omega) (by omega)
    have ih := ih (g + 1) (by omega) (upd (upd lk (gp_n L g) (lk (gp_n L g) - nI (d g))) (gp_f L g) (lk (gp_f L g) - nI (d g))) (fun c hc z => by
      have q := hl c hc z
      by_cases e1 : c = gp_f L g
      · rw [sm_y (Or.inr e1.symm), e1, pk_us, ← e1, q, sub2]
      · rw [pk_un e1]
        by_cases e2 : c = gp_n L g
        · rw [sm_y (Or.inl e2.symm), e2, pk_us, ← e2, q, sub2]
        · rw [pk_un e2, sm_x (fun w => w.elim (fun t => e2 t.symm) (fun t => e1 t.symm)), q])
    refine pk_le L.length g (fun h => absurd h (by omega)) (fun _ => ⟨vg, ?_⟩)
    rw [en, ef, eb, kn, kf]
    exact ⟨vn, vg, vn, nm_e ⟨vg, vf, vg, vf, nm_r (by rw [pk_un (show gp_f L g ≠ gp_n L g by omega)]) (nm_r (nI_1 g) ih)⟩⟩
theorem xm_2 (post : Int32 → SX → Prop) (sk : Int32) (a ic ne fe : Nat → Int32) (cb : Nat → Int64) (lb ta la : Nat → Int32) (h7 : (is_l a 36).length ≤ 7) (hI : is_M (is_l a 36) ic) (L : List (Nat × Nat × Int64)) (hL : gp_ok a L) (hG : L.length ≤ 14) (hM : gp_M L ne fe cb) (d : Nat → Nat) (hb : dm_M la d L.length)
    (hy : so_M a L d → ∀ lk, post 1 (nI (is_l a 36).length, nI L.length, sk, a, ic, ne, fe, cb, lb, ta, la, lk)) (hn : ¬ so_M a L d → ∀ lk, post 0 (nI (is_l a 36).length, nI L.length, sk, a, ic, ne, fe, cb, lb, ta, la, lk)) :
    ∀ e i : Nat, i + e = (is_l a 36).length → ∀ lk, (∀ j, j < i → lk (is_c (is_l a 36) j) = a (is_c (is_l a 36) j)) → wX_numbersAreMet_2 post (nI (is_l a 36).length) (nI L.length) sk (e + 1) (nI i) a ic ne fe cb lb ta la lk := by
  intro e
  induction e with
  | zero =>
    intro i hi lk h
    refine pk_le (is_l a 36).length i (fun _ => ⟨_, xm_37 post sk a ic ne fe cb lb ta la h7 hI L hL hG hM d hb hy hn L.length 0 (by omega) lk (fun c hc z => ?_)⟩) (fun h => absurd h (by omega))
    obtain ⟨j, hj, rfl⟩ := is_ex (is_l a 36) ((is_mem a c 36).mpr ⟨hc, z⟩)
    rw [h j (by omega)]
    exact (Int32.sub_zero _).symm
  | succ e ih =>
    intro i hi lk h
    have hc := is_c36 a (show i < (is_l a 36).length by omega)
    have ki : (nI i).toNatClampNeg = i := nI_clamp (by omega)
    have ec : ic (nI i).toNatClampNeg = nI (is_c (is_l a 36) i) := by rw [ki]; exact hI i (by omega)
    have kc : (nI (is_c (is_l a 36) i)).toNatClampNeg = is_c (is_l a 36) i := nI_clamp (by omega)
    have vc : vp_in (nI (is_c (is_l a 36) i)) 36 := vp_in_nI hc.1 (by omega)
    refine pk_le (is_l a 36).length i (fun h => absurd h (by omega)) (fun _ => ⟨vp_in_nI (by omega) (by omega), nm_r ec ⟨vc, vc, nm_r (by rw [kc]) (nm_r (nI_1 i) (ih (i + 1) (by omega) (upd lk (is_c (is_l a 36) i) (a (is_c (is_l a 36) i))) (fun j hj => ?_)))⟩⟩)
    by_cases e : is_c (is_l a 36) j = is_c (is_l a 36) i
    · rw [e, pk_us]
    · rw [pk_un e]
      exact h j (by
        have : j ≠ i := fun t => e (by rw [t])
        omega)
theorem xm_p (post : Int32 → SX → Prop) (sk : Int32) (a ic ne fe : Nat → Int32) (cb : Nat → Int64) (lb ta la lk : Nat → Int32) (h7 : (is_l a 36).length ≤ 7) (hI : is_M (is_l a 36) ic) (L : List (Nat × Nat × Int64)) (hL : gp_ok a L) (hG : L.length ≤ 14) (hM : gp_M L ne fe cb) (d : Nat → Nat) (hb : dm_M la d L.length)
    (hy : so_M a L d → ∀ lk, post 1 (nI (is_l a 36).length, nI L.length, sk, a, ic, ne, fe, cb, lb, ta, la, lk)) (hn : ¬ so_M a L d → ∀ lk, post 0 (nI (is_l a 36).length, nI L.length, sk, a, ic, ne, fe, cb, lb, ta, la, lk)) : wpX_numbersAreMet post (nI (is_l a 36).length, nI L.length, sk, a, ic, ne, fe, cb, lb, ta, la, lk) :=
  ⟨_, xm_2 post sk a ic ne fe cb lb ta la h7 hI L hL hG hM d hb hy hn (is_l a 36).length 0 (by omega) lk (fun j h => absurd h (Nat.not_lt_zero j))⟩
theorem xn_4 (post : Int32 → Prop) (ik sk : Int32) (a ic ne fe : Nat → Int32) (cb : Nat → Int64) (lb ta la lk : Nat → Int32) (L : List (Nat × Nat × Int64)) (hG : L.length ≤ 14) (hM : gp_M L ne fe cb) (d : Nat → Nat) (hd : ∀ g, d g < 3) (hb : dm_M la d L.length)
    (hy : so_A L d L.length → post 1) (hn : ¬ so_A L d L.length → post 0) :
    ∀ e g : Nat, g + e = L.length → so_A L d g → wX_noBridgesCross_4 post ik (nI L.length) sk a ic ne fe cb lb ta la lk (e + 1) (cv_c L d g) (nI g) := by
  intro e
  induction e with
  | zero =>
    intro g hg h
    obtain rfl : g = L.length := by omega
    exact pk_le L.length L.length (fun _ => hy h) (fun h => absurd h (by omega))
  | succ e ih =>
    intro g hg h
    have kg : (nI g).toNatClampNeg = g := nI_clamp (by omega)
    have vg : vp_in (nI g) 14 := vp_in_nI (by omega) (by omega)
    have ec : cb (nI g).toNatClampNeg = gp_b L g := by rw [kg]; exact (hM g (by omega)).2.2
    have eb : la (nI g).toNatClampNeg = nI (d g) := by rw [kg]; exact hb g (by omega)
    have d1 := hd g
    have ih := ih (g + 1) (by omega)
    refine pk_le L.length g (fun h => absurd h (by omega)) (fun _ => ⟨vg, ?_⟩)
    rw [ec]
    refine pk_le (d g) 0 (fun w => ?_) (fun w => ⟨vg, br_c (fun q => ⟨vg, ?_⟩) (fun q => hn (so_An (by omega) w q))⟩) eb
    · have e0 : cv_c L d (g + 1) = cv_c L d g := if_neg (by omega)
      rw [e0] at ih
      exact nm_r (nI_1 g) (ih (so_As h (fun p => absurd p (by omega))))
    · have e1 : cv_c L d (g + 1) = cv_c L d g ||| gp_b L g := if_pos w
      rw [e1] at ih
      exact nm_e (nm_r (nI_1 g) (ih (so_As h (fun _ => q))))
theorem xn_p (post : Int32 → Prop) (ik sk : Int32) (a ic ne fe : Nat → Int32) (cb : Nat → Int64) (lb ta la lk : Nat → Int32) (L : List (Nat × Nat × Int64)) (hG : L.length ≤ 14) (hM : gp_M L ne fe cb) (d : Nat → Nat) (hd : ∀ g, d g < 3) (hb : dm_M la d L.length)
    (hy : so_A L d L.length → post 1) (hn : ¬ so_A L d L.length → post 0) : wpX_noBridgesCross post (ik, nI L.length, sk, a, ic, ne, fe, cb, lb, ta, la, lk) :=
  ⟨_, xn_4 post ik sk a ic ne fe cb lb ta la lk L hG hM d hd hb hy hn L.length 0 (by omega) (so_A0 L d)⟩
