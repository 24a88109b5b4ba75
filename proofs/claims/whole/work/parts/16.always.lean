theorem ya_b (post : Int32 → SY → Prop) (gy : Int32) (a yn yf : Nat → Int32) (yb : Nat → Int64) (br re : Nat → Int32) (c0 c1 c2 : Nat) (b0 : c0 ≤ 6561) (b1 : c1 ≤ 6561) (b2 : c2 ≤ 6561)
    (h0 : 0 < c0 → c1 + c2 = 0 → post 0 (gy, a, yn, yf, yb, br, re)) (h1 : 0 < c1 → c0 + c2 = 0 → post 1 (gy, a, yn, yf, yb, br, re)) (h2 : 0 < c2 → c0 + c1 = 0 → post 2 (gy, a, yn, yf, yb, br, re))
    (hn : ¬ (0 < c0 ∧ c1 + c2 = 0) → ¬ (0 < c1 ∧ c0 + c2 = 0) → ¬ (0 < c2 ∧ c0 + c1 = 0) → post (-1) (gy, a, yn, yf, yb, br, re)) :
    (nI c0 ≤ 0 → wY_always_65 post (nI c0) (nI c1) (nI c2) gy a yn yf yb br re) ∧ (¬ nI c0 ≤ 0 → ((nI c1 + nI c2 = 0 → post 0 (gy, a, yn, yf, yb, br, re)) ∧ (¬ nI c1 + nI c2 = 0 → wY_always_65 post (nI c0) (nI c1) (nI c2) gy a yn yf yb br re))) := by
  have k78 : ¬ (0 < c0 ∧ c1 + c2 = 0) → ¬ (0 < c1 ∧ c0 + c2 = 0) → wY_always_78 post (nI c0) (nI c1) (nI c2) gy a yn yf yb br re := fun n0 n1 =>
    pk_le c2 0 (fun w => hn n0 n1 (by omega)) (fun w => pk_eq (c0 + c1) 0 (fun q => h2 w q) (fun q => hn n0 n1 (by omega)) (nI_add c0 c1))
  have k65 : ¬ (0 < c0 ∧ c1 + c2 = 0) → wY_always_65 post (nI c0) (nI c1) (nI c2) gy a yn yf yb br re := fun n0 =>
    pk_le c1 0 (fun w => k78 n0 (by omega)) (fun w => pk_eq (c0 + c2) 0 (fun q => h1 w q) (fun q => k78 n0 (by omega)) (nI_add c0 c2))
  exact pk_le c0 0 (fun w => k65 (by omega)) (fun w => pk_eq (c1 + c2) 0 (fun q => h0 w q) (fun q => k65 (by omega)) (nI_add c1 c2))
theorem ya_p (post : Int32 → SY → Prop) (gy : Int32) (a yn yf : Nat → Int32) (yb : Nat → Int64) (br re : Nat → Int32) (hb : bd_ok a) (g : Nat) (hg : g < (gp_l a (is_l a 36)).length) (w : (gp_l a (is_l a 36)).length ≤ 8) (c : Nat → Nat) (hc : ∀ e, c e = ct_n (so_T a (gp_l a (is_l a 36)) g e) (3 ^ (gp_l a (is_l a 36)).length))
    (h0 : 0 < c 0 → c 1 + c 2 = 0 → ∀ gy yn yf yb br re, post 0 (gy, a, yn, yf, yb, br, re)) (h1 : 0 < c 1 → c 0 + c 2 = 0 → ∀ gy yn yf yb br re, post 1 (gy, a, yn, yf, yb, br, re)) (h2 : 0 < c 2 → c 0 + c 1 = 0 → ∀ gy yn yf yb br re, post 2 (gy, a, yn, yf, yb, br, re))
    (hn : ¬ (0 < c 0 ∧ c 1 + c 2 = 0) → ¬ (0 < c 1 ∧ c 0 + c 2 = 0) → ¬ (0 < c 2 ∧ c 0 + c 1 = 0) → ∀ gy yn yf yb br re, post (-1) (gy, a, yn, yf, yb, br, re)) : wpY_always post (gy, a, yn, yf, yb, br, re) (nI g) := by
  have h3 := dg_8 w
  have hL := gp_l_ok a 36 (Nat.le_refl _)
  have cl : ∀ e, c e ≤ 6561 := fun e => by
    rw [hc e]
    exact Nat.le_trans (ct_le _ _) h3
  unfold wpY_always
  dsimp only
  have w' : nI (gp_l a (is_l a 36)).length ≤ 8 := nI_le (b := 8) w (by decide)
  refine ys_p _ gy a yn yf yb br re hb (fun yn yf yb hM => br_t w' (br_f (nI_pos (by omega)) (br_t (nI_lt hg (by omega)) ?_)))
  refine yt_g _ a yn yf yb br re hb _ hL w hM g 0 hg (by decide) (fun br re => ?_)
  refine yt_g _ a yn yf yb br re hb _ hL w hM g 1 hg (by decide) (fun br re => ?_)
  refine yt_g _ a yn yf yb br re hb _ hL w hM g 2 hg (by decide) (fun br re => ?_)
  rw [← hc 0, ← hc 1, ← hc 2]
  exact ya_b post _ a yn yf yb br re (c 0) (c 1) (c 2) (cl 0) (cl 1) (cl 2) (fun p q => h0 p q _ _ _ _ _ _) (fun p q => h1 p q _ _ _ _ _ _) (fun p q => h2 p q _ _ _ _ _ _) (fun p q r => hn p q r _ _ _ _ _ _)
theorem i_vc_always {k : Nat} {u : SX} {v : SY} (I : i_Rel k u v) (hk : k + 4 ≤ 2048) (v1 : Int32) : wpX_always (fun r => wpY_always (fun r' v' => r' = r ∧ i_Rel (k + 4) u v') v v1) u v1 := by
  obtain ⟨sk, a, ic, ne, fe, cb, lb, ta, la, lk, gy, yn, yf, yb, br, re, rfl, rfl, hb, hx⟩ := I
  have hG := rl_G hb
  unfold wpX_always wpX_isCrowded wpX_isGap
  dsimp only
  refine pk_le (gp_l a (is_l a 36)).length 8 (fun w => br_t rfl ?_) (fun w => br_f (by decide) ?_)
  · have w' : nI (gp_l a (is_l a 36)).length ≤ 8 := nI_le (b := 8) w (by decide)
    have h3 := dg_8 w
    have hK := hx.2 w
    rcases pk_ix v1 (n := (gp_l a (is_l a 36)).length) (by omega) with h | h | ⟨g, hg, rfl⟩
    · exact br_t h (br_t rfl (ys_p _ gy a yn yf yb br re hb (fun yn yf yb hM => br_t w' (br_t h ⟨rfl, rl_mk hb hx⟩))))
    · have n0 := ge_0 (by omega) h
      exact br_f n0 (br_t h (br_t rfl (ys_p _ gy a yn yf yb br re hb (fun yn yf yb hM => br_t w' (br_f n0 (br_f (Int32.not_lt.mpr h) ⟨rfl, rl_mk hb hx⟩))))))
    · have n0 : ¬ nI g < 0 := nI_pos (by omega)
      have kg : (nI g).toNatClampNeg = g := nI_clamp (by omega)
      have v14 : vp_in (nI g) 14 := vp_in_nI (by omega) (by omega)
      have cl := ct_le (so_I a (gp_l a (is_l a 36))) (3 ^ (gp_l a (is_l a 36)).length)
      have s3 := ct_3 (so_I a (gp_l a (is_l a 36))) (fun i => dg_d (gp_l a (is_l a 36)).length i g) (fun i => dg_lt _ i g) (3 ^ (gp_l a (is_l a 36)).length)
      obtain ⟨c, hc⟩ : ∃ c : Nat → Nat, ∀ e, c e = ct_n (so_T a (gp_l a (is_l a 36)) g e) (3 ^ (gp_l a (is_l a 36)).length) := ⟨_, fun _ => rfl⟩
      have s3 : c 0 + c 1 + c 2 = ct_n (so_I a (gp_l a (is_l a 36))) (3 ^ (gp_l a (is_l a 36)).length) := by
        rw [hc 0, hc 1, hc 2]
        exact s3
      have go := fun (r : Int32) => ya_p (fun r' v' => r' = r ∧ i_Rel (k + 4) (nI (is_l a 36).length, nI (gp_l a (is_l a 36)).length, sk, a, ic, ne, fe, cb, lb, ta, la, lk) v') gy a yn yf yb br re hb g hg w c hc
      refine br_f n0 (br_f (nI_ge hg (by omega)) (br_f (by decide) ?_))
      rw [kg]
      refine pk_eq (ct_n (so_I a (gp_l a (is_l a 36))) (3 ^ (gp_l a (is_l a 36)).length)) 0 (fun z => ?_) (fun z => ⟨v14, ?_⟩) hK.1
      · exact go (-1) (fun p _ => absurd p (by omega)) (fun p _ => absurd p (by omega)) (fun p _ => absurd p (by omega)) (fun _ _ _ _ _ _ _ _ _ => ⟨rfl, rl_mk hb hx⟩)
      · have ex : ∃ j, j < 3 ^ (gp_l a (is_l a 36)).length ∧ so_I a (gp_l a (is_l a 36)) j := by
          apply Classical.byContradiction
          intro t
          exact z (ct_nz (fun i hi s => t ⟨i, hi, s⟩))
        obtain ⟨j, ⟨hj, sj⟩, fj⟩ := pk_least _ ex
        have el := hK.2.2 j hj sj (fun i hi s => fj i hi ⟨by omega, s⟩) g hg
        have dl := dg_lt (gp_l a (is_l a 36)).length j g
        generalize he : dg_d (gp_l a (is_l a 36)).length j g = e at el dl
        have pe : 0 < c e := by
          rw [hc e]
          exact ct_pos hj ⟨he, sj⟩
        have et := hK.2.1 g hg e dl
        dsimp only at et
        rw [← hc e] at et
        have ei : 3 * nI g + nI e = nI (3 * g + e) := by
          have : 3 * nI g = nI (3 * g) := pk_mul 3 g
          rw [this, nI_add]
        have ce : c e ≤ ct_n (so_I a (gp_l a (is_l a 36))) (3 ^ (gp_l a (is_l a 36)).length) := by
          obtain rfl | rfl | rfl : e = 0 ∨ e = 1 ∨ e = 2 := by omega
          · omega
          · omega
          · omega
        refine nm_r el ?_
        rw [ei, nI_clamp (show 3 * g + e < 2 ^ 31 by omega)]
        refine ⟨vp_in_nI (by omega) (by omega), ?_⟩
        refine pk_eq (c e) (ct_n (so_I a (gp_l a (is_l a 36))) (3 ^ (gp_l a (is_l a 36)).length)) (fun q => ?_) (fun q => ?_) et hK.1
        · obtain rfl | rfl | rfl : e = 0 ∨ e = 1 ∨ e = 2 := by omega
          · exact go (nI 0) (fun _ _ _ _ _ _ _ _ => ⟨rfl, rl_mk hb hx⟩) (fun p _ => absurd p (by omega)) (fun p _ => absurd p (by omega)) (fun t _ _ => absurd ⟨pe, by omega⟩ t)
          · exact go (nI 1) (fun p _ => absurd p (by omega)) (fun _ _ _ _ _ _ _ _ => ⟨rfl, rl_mk hb hx⟩) (fun p _ => absurd p (by omega)) (fun _ t _ => absurd ⟨pe, by omega⟩ t)
          · exact go (nI 2) (fun p _ => absurd p (by omega)) (fun p _ => absurd p (by omega)) (fun _ _ _ _ _ _ _ _ => ⟨rfl, rl_mk hb hx⟩) (fun _ _ t => absurd ⟨pe, by omega⟩ t)
        · obtain rfl | rfl | rfl : e = 0 ∨ e = 1 ∨ e = 2 := by omega
          · exact go (-1) (fun _ t => absurd t (by omega)) (fun p t => absurd p (by omega)) (fun p t => absurd p (by omega)) (fun _ _ _ _ _ _ _ _ _ => ⟨rfl, rl_mk hb hx⟩)
          · exact go (-1) (fun p t => absurd p (by omega)) (fun _ t => absurd t (by omega)) (fun p t => absurd p (by omega)) (fun _ _ _ _ _ _ _ _ _ => ⟨rfl, rl_mk hb hx⟩)
          · exact go (-1) (fun p t => absurd p (by omega)) (fun p t => absurd p (by omega)) (fun _ t => absurd t (by omega)) (fun _ _ _ _ _ _ _ _ _ => ⟨rfl, rl_mk hb hx⟩)
  · have w' : ¬ nI (gp_l a (is_l a 36)).length ≤ 8 := nI_ge (a := 8) w (by omega)
    unfold wpY_always
    exact ys_p _ gy a yn yf yb br re hb (fun yn yf yb hM => br_f w' ⟨rfl, rl_mk hb hx⟩)
