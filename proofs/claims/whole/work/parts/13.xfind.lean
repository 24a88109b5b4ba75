/-- the tally holds the counts T -/
def tm_M (ta : Nat → Int32) (T : Nat → Nat → Nat) (G : Nat) : Prop := ∀ g, g < G → ∀ e, e < 3 → ta (3 * g + e) = nI (T g e)
def tm_1 (T : Nat → Nat → Nat) (d : Nat → Nat) : Nat → Nat → Nat := fun g e => if d g = e then T g e + 1 else T g e
theorem xc_2 (post : SX → Prop) (ik sk : Int32) (a ic ne fe : Nat → Int32) (cb : Nat → Int64) (lb0 la lk : Nat → Int32) (G : Nat) (hG : G ≤ 14) (d : Nat → Nat) (hd : ∀ g, d g < 3) (hb : dm_M la d G) (T : Nat → Nat → Nat)
    (hp : ∀ lb ta, tm_M ta (tm_1 T d) G → (sk = 0 → ∀ g, g < G → lb g = nI (d g)) → (¬ sk = 0 → lb = lb0) → post (ik, nI G, sk + 1, a, ic, ne, fe, cb, lb, ta, la, lk)) :
    ∀ e g : Nat, g + e = G → ∀ lb ta, tm_M ta (fun h e => if h < g then tm_1 T d h e else T h e) G → (sk = 0 → ∀ h, h < g → lb h = nI (d h)) → (¬ sk = 0 → lb = lb0) → wX_countSolution_2 post ik (nI G) sk (e + 1) (nI g) a ic ne fe cb lb ta la lk := by
  intro e
  induction e with
  | zero =>
    intro g hg lb ta ht h1 h2
    obtain rfl : g = G := by omega
    refine pk_le g g (fun _ => nm_e (hp lb ta (fun h hh e he => ?_) h1 h2)) (fun h => absurd h (by omega))
    have q := ht h hh e he
    dsimp only at q
    rw [if_pos hh] at q
    exact q
  | succ e ih =>
    intro g hg lb ta ht h1 h2
    have kg : (nI g).toNatClampNeg = g := nI_clamp (by omega)
    have vg : vp_in (nI g) 14 := vp_in_nI (by omega) (by omega)
    have d1 := hd g
    have eb : la (nI g).toNatClampNeg = nI (d g) := by rw [kg]; exact hb g (by omega)
    have ei : 3 * nI g + nI (d g) = nI (3 * g + d g) := by
      have : 3 * nI g = nI (3 * g) := pk_mul 3 g
      rw [this, nI_add]
    have ki : (nI (3 * g + d g)).toNatClampNeg = 3 * g + d g := nI_clamp (by omega)
    have vi : vp_in (nI (3 * g + d g)) 42 := vp_in_nI (by omega) (by omega)
    have ih := ih (g + 1) (by omega)
    have go : ∀ lb, (sk = 0 → ∀ h, h < g + 1 → lb h = nI (d h)) → (¬ sk = 0 → lb = lb0) → wX_countSolution_29 post (wX_countSolution_2 post ik (nI G) sk (e + 1)) (nI g) ik (nI G) sk a ic ne fe cb lb ta la lk := by
      intro lb h1 h2
      unfold wX_countSolution_29
      rw [eb, ei, ki]
      refine ⟨vg, vi, vi, nm_e (nm_r (nI_1 g) (ih lb _ (fun h hh e he => ?_) h1 h2))⟩
      have q := ht h hh e he
      dsimp only at q ⊢
      by_cases l : h < g
      · rw [if_pos l] at q
        rw [if_pos (by omega), pk_un (by omega)]
        exact q
      · rw [if_neg l] at q
        by_cases w : h = g
        · subst w
          rw [if_pos (by omega)]
          unfold tm_1
          by_cases w2 : d h = e
          · subst w2
            rw [if_pos rfl, pk_us, q, nI_1]
          · rw [if_neg w2, pk_un (by omega)]
            exact q
        · rw [if_neg (by omega), pk_un (by omega)]
          exact q
    refine pk_le G g (fun h => absurd h (by omega)) (fun _ => br_c (fun z => ⟨vg, vg, nm_r (by rw [eb, kg]) (go (upd lb g (nI (d g))) (fun _ h hh => ?_) (fun t => absurd z t))⟩) (fun z => go lb (fun t => absurd t z) h2))
    by_cases w : h = g
    · subst w; exact pk_us
    · rw [pk_un w]; exact h1 z h (by omega)
theorem xc_p (post : SX → Prop) (ik sk : Int32) (a ic ne fe : Nat → Int32) (cb : Nat → Int64) (lb0 ta la lk : Nat → Int32) (G : Nat) (hG : G ≤ 14) (d : Nat → Nat) (hd : ∀ g, d g < 3) (hb : dm_M la d G) (T : Nat → Nat → Nat) (ht : tm_M ta T G)
    (hp : ∀ lb ta, tm_M ta (tm_1 T d) G → (sk = 0 → ∀ g, g < G → lb g = nI (d g)) → (¬ sk = 0 → lb = lb0) → post (ik, nI G, sk + 1, a, ic, ne, fe, cb, lb, ta, la, lk)) : wpX_countSolution post (ik, nI G, sk, a, ic, ne, fe, cb, lb0, ta, la, lk) := by
  refine ⟨_, xc_2 post ik sk a ic ne fe cb lb0 la lk G hG d hd hb T hp G 0 (by omega) lb0 ta (fun h hh e he => ?_) (fun _ h hh => absurd hh (Nat.not_lt_zero h)) (fun _ => rfl)⟩
  dsimp only
  rw [if_neg (Nat.not_lt_zero h)]
  exact ht h hh e he
/-- what the search knows after the candidates below i -/
def xf_K (a : Nat → Int32) (L : List (Nat × Nat × Int64)) (i : Nat) (sk : Int32) (lb ta : Nat → Int32) : Prop :=
  sk = nI (ct_n (so_I a L) i) ∧ tm_M ta (fun g e => ct_n (so_T a L g e) i) L.length ∧ (∀ j, j < i → so_I a L j → (∀ h, h < j → ¬ so_I a L h) → ∀ g, g < L.length → lb g = nI (dg_d L.length j g))
theorem xf_n {a : Nat → Int32} {L : List (Nat × Nat × Int64)} {i : Nat} {sk : Int32} {lb ta : Nat → Int32} (h : xf_K a L i sk lb ta) (hn : ¬ so_I a L i) : xf_K a L (i + 1) sk lb ta := by
  refine ⟨h.1.trans (by rw [ct_x hn]), fun g hg e he => ?_, fun j hj s f g hg => ?_⟩
  · have q := h.2.1 g hg e he
    dsimp only at q ⊢
    rw [q, ct_x (P := so_T a L g e) (fun t => hn t.2)]
  · have : j ≠ i := fun t => hn (t ▸ s)
    exact h.2.2 j (by omega) s f g hg
theorem xf_y {a : Nat → Int32} {L : List (Nat × Nat × Int64)} {i : Nat} (hi : i < 6561) {sk : Int32} {lb ta lb' ta' : Nat → Int32} (h : xf_K a L i sk lb ta) (hy : so_I a L i)
    (h1 : tm_M ta' (tm_1 (fun g e => ct_n (so_T a L g e) i) (dg_d L.length i)) L.length) (h2 : sk = 0 → ∀ g, g < L.length → lb' g = nI (dg_d L.length i g)) (h3 : ¬ sk = 0 → lb' = lb) : xf_K a L (i + 1) (sk + 1) lb' ta' := by
  have hl := ct_le (so_I a L) i
  refine ⟨by rw [h.1, ct_y hy, nI_1], fun g hg e he => ?_, fun j hj s f g hg => ?_⟩
  · have q := h1 g hg e he
    unfold tm_1 at q
    dsimp only at q ⊢
    rw [q]
    by_cases w : dg_d L.length i g = e
    · rw [if_pos w, ct_y (P := so_T a L g e) ⟨w, hy⟩]
    · rw [if_neg w, ct_x (P := so_T a L g e) (fun t => w t.1)]
  · by_cases z : ct_n (so_I a L) i = 0
    · have z' : sk = 0 := by rw [h.1, z]; rfl
      have : j = i := by
        apply Decidable.byContradiction
        intro t
        exact ct_z i z j (by omega) s
      subst this
      exact h2 z' g hg
    · have z' : ¬ sk = 0 := by rw [h.1]; exact nI_ne0 (by omega) (by omega)
      rw [h3 z']
      by_cases t : j = i
      · subst t
        exact absurd (ct_nz f) z
      · exact h.2.2 j (by omega) s f g hg
theorem xs_58 (post : SX → Prop) (a ic ne fe : Nat → Int32) (cb : Nat → Int64) (h7 : (is_l a 36).length ≤ 7) (hI : is_M (is_l a 36) ic) (L : List (Nat × Nat × Int64)) (hL : gp_ok a L) (hG : L.length ≤ 8) (hM : gp_M L ne fe cb)
    (hp : ∀ sk lb ta la lk, xf_K a L (3 ^ L.length) sk lb ta → post (nI (is_l a 36).length, nI L.length, sk, a, ic, ne, fe, cb, lb, ta, la, lk)) :
    ∀ e i : Nat, i + e = 3 ^ L.length → ∀ sk lb ta la lk, xf_K a L i sk lb ta → wX_findSolutions_58 post (nI (3 ^ L.length)) (e + 1) (nI i) (nI (is_l a 36).length) (nI L.length) sk a ic ne fe cb lb ta la lk := by
  have h3 := dg_8 hG
  intro e
  induction e with
  | zero =>
    intro i hi sk lb ta la lk hK
    obtain rfl : i = 3 ^ L.length := by omega
    exact pk_le (3 ^ L.length) (3 ^ L.length) (fun _ => hp sk lb ta la lk hK) (fun h => absurd h (by omega))
  | succ e ih =>
    intro i hi sk lb ta la lk hK
    have ih := ih (i + 1) (by omega)
    have no : ¬ so_I a L i → ∀ la lk, ∀ x2 : Int32, x2 = nI i + 1 → wX_findSolutions_58 post (nI (3 ^ L.length)) (e + 1) x2 (nI (is_l a 36).length) (nI L.length) sk a ic ne fe cb lb ta la lk :=
      fun w la lk => nm_r (nI_1 i) (ih sk lb ta la lk (xf_n hK w))
    refine pk_le (3 ^ L.length) i (fun h => absurd h (by omega)) (fun _ => ?_)
    refine xy_p _ (nI (is_l a 36).length) sk a ic ne fe cb lb ta la lk L.length i (by omega) (by omega) (fun la hb => ?_)
    refine xm_p _ sk a ic ne fe cb lb ta la lk h7 hI L hL (by omega) hM (dg_d L.length i) hb (fun s1 lk => br_f (by decide) ?_) (fun s1 lk => br_t rfl (no (fun t => s1 t.1) la lk))
    refine xn_p _ (nI (is_l a 36).length) sk a ic ne fe cb lb ta la lk L (by omega) hM (dg_d L.length i) (dg_lt L.length i) hb (fun s2 => br_f (by decide) ?_) (fun s2 => br_t rfl (no (fun t => s2 t.2.1) la lk))
    refine xj_p _ sk a ic ne fe cb lb ta la lk h7 hI L hL (by omega) hM (dg_d L.length i) (dg_lt L.length i) hb (fun s3 => br_f (by decide) ?_) (fun s3 => br_t rfl (no (fun t => s3 t.2.2) la lk))
    exact xc_p _ (nI (is_l a 36).length) sk a ic ne fe cb lb ta la lk L.length (by omega) (dg_d L.length i) (dg_lt L.length i) hb _ hK.2.1 (fun lb' ta' q1 q2 q3 => nm_r (nI_1 i) (ih (sk + 1) lb' ta' la lk (xf_y (by omega) hK ⟨s1, s2, s3⟩ q1 q2 q3)))
theorem xs_38 (post : SX → Prop) (ik sk : Int32) (a ic ne fe : Nat → Int32) (cb : Nat → Int64) (lb ta la lk : Nat → Int32) (G : Nat) (hG : G ≤ 8)
    (hp : ∃ n, wX_findSolutions_58 post (nI (3 ^ G)) n 0 ik (nI G) sk a ic ne fe cb lb ta la lk) :
    ∀ e g : Nat, g + e = G → wX_findSolutions_38 post ik (nI G) sk a ic ne fe cb lb ta la lk (e + 1) (nI (3 ^ g)) (nI g) := by
  intro e
  induction e with
  | zero =>
    intro g hg
    obtain rfl : g = G := by omega
    exact pk_le g g (fun _ => hp) (fun h => absurd h (by omega))
  | succ e ih =>
    intro g hg
    have em : nI (3 ^ g) * 3 = nI (3 ^ (g + 1)) := by rw [dg_ps]; exact pk_mul (3 ^ g) 3
    exact pk_le G g (fun h => absurd h (by omega)) (fun _ => nm_r em (nm_r (nI_1 g) (ih (g + 1) (by omega))))
/-- what refresh leaves -/
def xf_ok (a : Nat → Int32) (sk : Int32) (ne fe : Nat → Int32) (cb : Nat → Int64) (lb ta : Nat → Int32) : Prop :=
  gp_M (gp_l a (is_l a 36)) ne fe cb ∧ ((gp_l a (is_l a 36)).length ≤ 8 → xf_K a (gp_l a (is_l a 36)) (3 ^ (gp_l a (is_l a 36)).length) sk lb ta)
theorem xs_7 (post : SX → Prop) (a ic ne fe : Nat → Int32) (cb : Nat → Int64) (lb la lk : Nat → Int32) (h7 : (is_l a 36).length ≤ 7) (hI : is_M (is_l a 36) ic) (hM : gp_M (gp_l a (is_l a 36)) ne fe cb)
    (hp : ∀ sk lb ta la lk, xf_ok a sk ne fe cb lb ta → post (nI (is_l a 36).length, nI (gp_l a (is_l a 36)).length, sk, a, ic, ne, fe, cb, lb, ta, la, lk)) :
    ∀ e i : Nat, i + e = 42 → ∀ ta, (∀ j, j < i → ta j = 0) → wX_findSolutions_7 post (nI (is_l a 36).length) (nI (gp_l a (is_l a 36)).length) 0 (e + 1) (nI i) a ic ne fe cb lb ta la lk := by
  have hl := gp_len a (is_l a 36)
  have hL := gp_l_ok a 36 (Nat.le_refl _)
  unfold xf_ok at hp
  generalize gp_l a (is_l a 36) = L at *
  intro e
  induction e with
  | zero =>
    intro i hi ta h
    obtain rfl : i = 42 := by omega
    refine pk_le 42 42 (fun _ => ?_) (fun h => absurd h (by omega))
    unfold wpX_isCrowded
    dsimp only
    refine pk_le L.length 8 (fun w => br_t rfl ⟨_, xs_38 post (nI (is_l a 36).length) 0 a ic ne fe cb lb ta la lk L.length w ⟨_, xs_58 post a ic ne fe cb h7 hI L hL w hM (fun sk lb ta la lk hK => hp sk lb ta la lk ⟨hM, fun _ => hK⟩) (3 ^ L.length) 0 (by omega) 0 lb ta la lk ⟨rfl, fun g hg e he => ?_, fun j hj => absurd hj (Nat.not_lt_zero j)⟩⟩ L.length 0 (by omega)⟩) (fun w => br_f (by decide) (hp 0 lb ta la lk ⟨hM, fun t => absurd t (by omega)⟩))
    exact h (3 * g + e) (by omega)
  | succ e ih =>
    intro i hi ta h
    have ki : (nI i).toNatClampNeg = i := nI_clamp (by omega)
    refine pk_le 42 i (fun h => absurd h (by omega)) (fun _ => ⟨vp_in_nI (by omega) (by omega), nm_r (by rw [ki]) (nm_r (nI_1 i) (ih (i + 1) (by omega) (upd ta i 0) (fun j hj => ?_)))⟩)
    by_cases w : j = i
    · subst w; exact pk_us
    · rw [pk_un w]; exact h j (by omega)
theorem xf_p (post : SX → Prop) (ik gk sk : Int32) (a ic ne fe : Nat → Int32) (cb : Nat → Int64) (lb ta la lk : Nat → Int32) (h7 : (is_l a 36).length ≤ 7)
    (hp : ∀ sk ic ne fe cb lb ta la lk, xf_ok a sk ne fe cb lb ta → post (nI (is_l a 36).length, nI (gp_l a (is_l a 36)).length, sk, a, ic, ne, fe, cb, lb, ta, la, lk)) : wpX_refresh post (ik, gk, sk, a, ic, ne, fe, cb, lb, ta, la, lk) := by
  unfold wpX_refresh
  refine xl_p _ ik gk sk a ic ne fe cb lb ta la lk h7 (fun ic hI => ?_)
  refine xg_p _ gk sk a ic ne fe cb lb ta la lk h7 hI (fun ne fe cb hM => ?_)
  exact ⟨_, xs_7 _ a ic ne fe cb lb la lk h7 hI hM (fun sk lb ta la lk hK => hp sk ic ne fe cb lb ta la lk hK) 42 0 rfl ta (fun j h => absurd h (Nat.not_lt_zero j))⟩
