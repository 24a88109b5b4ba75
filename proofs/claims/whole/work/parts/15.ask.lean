theorem ge_0 {v : Int32} {G : Nat} (hG : G < 2 ^ 31) (h : nI G ≤ v) : ¬ v < 0 := Int32.not_lt.mpr (Int32.le_trans (nI_pos' hG) h)
theorem rl_G {a : Nat → Int32} (hb : bd_ok a) : (gp_l a (is_l a 36)).length ≤ 14 := by
  have h1 := gp_len a (is_l a 36)
  have h2 := hb.2
  omega
theorem i_vc_end {k : Nat} {u : SX} {v : SY} (I : i_Rel k u v) (hk : k + 4 ≤ 2048) (v1 : Int32) (v2 : Int32) : wpX_end (fun r => wpY_end (fun r' v' => r' = r ∧ i_Rel (k + 4) u v') v v1 (lw_bz v2)) u v1 (lw_bz v2) := by
  obtain ⟨sk, a, ic, ne, fe, cb, lb, ta, la, lk, gy, yn, yf, yb, br, re, rfl, rfl, hb, hx⟩ := I
  have hG := rl_G hb
  unfold wpX_end wpY_end wpX_isGap
  dsimp only
  rcases pk_ix v1 (n := (gp_l a (is_l a 36)).length) (by omega) with h | h | ⟨g, hg, rfl⟩
  · exact br_t h (br_t rfl (ys_p _ gy a yn yf yb br re hb (fun yn yf yb hM => br_t h ⟨rfl, rl_mk hb hx⟩)))
  · have n0 := ge_0 (by omega) h
    exact br_f n0 (br_t h (br_t rfl (ys_p _ gy a yn yf yb br re hb (fun yn yf yb hM => br_f n0 (br_f (Int32.not_lt.mpr h) ⟨rfl, rl_mk hb hx⟩)))))
  · have n0 : ¬ nI g < 0 := nI_pos (by omega)
    have kg : (nI g).toNatClampNeg = g := nI_clamp (by omega)
    have v14 : vp_in (nI g) 14 := vp_in_nI (by omega) (by omega)
    have v16 : vp_in (nI g) 16 := vp_in_nI (by omega) (by omega)
    have hl : nI g < nI (gp_l a (is_l a 36)).length := nI_lt hg (by omega)
    have mx := hx.1 g hg
    refine br_f n0 (br_f (nI_ge hg (by omega)) (br_f (by decide) ?_))
    rw [kg]
    refine br_c (fun z => ⟨v14, ys_p _ gy a yn yf yb br re hb (fun yn yf yb hM => br_f n0 (br_t hl (br_t z ⟨v16, ?_, rl_mk hb hx⟩)))⟩) (fun z => ⟨v14, ys_p _ gy a yn yf yb br re hb (fun yn yf yb hM => br_f n0 (br_t hl (br_f z ⟨v16, ?_, rl_mk hb hx⟩)))⟩)
    · rw [mx.1]; exact (hM g hg).1
    · rw [mx.2.1]; exact (hM g hg).2.1
theorem i_vc_solutions {k : Nat} {u : SX} {v : SY} (I : i_Rel k u v) (hk : k + 4 ≤ 2048) : wpX_solutions (fun r => wpY_solutions (fun r' v' => r' = r ∧ i_Rel (k + 4) u v') v) u := by
  obtain ⟨sk, a, ic, ne, fe, cb, lb, ta, la, lk, gy, yn, yf, yb, br, re, rfl, rfl, hb, hx⟩ := I
  have hG := rl_G hb
  unfold wpX_solutions wpY_solutions wpX_isCrowded
  dsimp only
  refine pk_le (gp_l a (is_l a 36)).length 8 (fun w => br_t rfl ?_) (fun w => br_f (by decide) ?_)
  · have w' : nI (gp_l a (is_l a 36)).length ≤ 8 := nI_le (b := 8) w (by decide)
    exact ys_p _ gy a yn yf yb br re hb (fun yn yf yb hM => br_t w' (yt_a _ a yn yf yb br re hb _ (gp_l_ok a 36 (Nat.le_refl _)) w hM (fun br re => ⟨((hx.2 w).1).symm, rl_mk hb hx⟩)))
  · have w' : ¬ nI (gp_l a (is_l a 36)).length ≤ 8 := nI_ge (a := 8) w (by omega)
    exact ys_p _ gy a yn yf yb br re hb (fun yn yf yb hM => br_f w' ⟨rfl, rl_mk hb hx⟩)
theorem i_vc_least {k : Nat} {u : SX} {v : SY} (I : i_Rel k u v) (hk : k + 4 ≤ 2048) (v1 : Int32) : wpX_least (fun r => wpY_least (fun r' v' => r' = r ∧ i_Rel (k + 4) u v') v v1) u v1 := by
  obtain ⟨sk, a, ic, ne, fe, cb, lb, ta, la, lk, gy, yn, yf, yb, br, re, rfl, rfl, hb, hx⟩ := I
  have hG := rl_G hb
  unfold wpX_least wpY_least wpX_isCrowded wpX_isGap
  dsimp only
  refine pk_le (gp_l a (is_l a 36)).length 8 (fun w => br_t rfl ?_) (fun w => br_f (by decide) ?_)
  · have w' : nI (gp_l a (is_l a 36)).length ≤ 8 := nI_le (b := 8) w (by decide)
    have h3 := dg_8 w
    have hK := hx.2 w
    rcases pk_ix v1 (n := (gp_l a (is_l a 36)).length) (by omega) with h | h | ⟨g, hg, rfl⟩
    · exact br_t h (br_t rfl (ys_p _ gy a yn yf yb br re hb (fun yn yf yb hM => br_t w' (br_t h ⟨rfl, rl_mk hb hx⟩))))
    · have n0 := ge_0 (by omega) h
      exact br_f n0 (br_t h (br_t rfl (ys_p _ gy a yn yf yb br re hb (fun yn yf yb hM => br_t w' (br_f n0 (br_f (Int32.not_lt.mpr h) ⟨rfl, rl_mk hb hx⟩))))))
    · have n0 : ¬ nI g < 0 := nI_pos (by omega)
      have kg : (nI g).toNatClampNeg = g := nI_clamp (by omega)
      have v14 : vp_in (nI g) 14 := vp_in_nI (by omega) (by omega)
      have hl : nI g < nI (gp_l a (is_l a 36)).length := nI_lt hg (by omega)
      have cl := ct_le (so_I a (gp_l a (is_l a 36))) (3 ^ (gp_l a (is_l a 36)).length)
      have p3 := dg_p (gp_l a (is_l a 36)).length
      refine br_f n0 (br_f (nI_ge hg (by omega)) (br_f (by decide) ?_))
      rw [kg]
      refine pk_eq (ct_n (so_I a (gp_l a (is_l a 36))) (3 ^ (gp_l a (is_l a 36)).length)) 0 (fun z => ?_) (fun z => ⟨v14, ?_⟩) hK.1
      · refine ys_p _ gy a yn yf yb br re hb (fun yn yf yb hM => br_t w' (br_f n0 (br_t hl (yb_p _ _ a yn yf yb br re (fun br h0 => ⟨_, yl_38 _ a yn yf yb hb _ (gp_l_ok a 36 (Nat.le_refl _)) w hM g hg (fun i hi s _ br re => absurd s (ct_z _ z i hi)) (fun _ br re => ⟨rfl, rl_mk hb hx⟩) (3 ^ (gp_l a (is_l a 36)).length) 0 (by omega) (fun j hj => absurd hj (Nat.not_lt_zero j)) 1 br re (fun _ => ⟨by decide, fun g hg => ?_⟩) (fun t => absurd t (by omega))⟩)))))
        rw [h0 g (by omega), dg_0]
        rfl
      · refine ys_p _ gy a yn yf yb br re hb (fun yn yf yb hM => br_t w' (br_f n0 (br_t hl (yb_p _ _ a yn yf yb br re (fun br h0 => ⟨_, yl_38 _ a yn yf yb hb _ (gp_l_ok a 36 (Nat.le_refl _)) w hM g hg (fun i hi s f br re => ⟨(hK.2.2 i hi s f g hg).symm, rl_mk hb hx⟩) (fun t br re => absurd (ct_nz t) z) (3 ^ (gp_l a (is_l a 36)).length) 0 (by omega) (fun j hj => absurd hj (Nat.not_lt_zero j)) 1 br re (fun _ => ⟨by decide, fun g hg => ?_⟩) (fun t => absurd t (by omega))⟩)))))
        rw [h0 g (by omega), dg_0]
        rfl
  · have w' : ¬ nI (gp_l a (is_l a 36)).length ≤ 8 := nI_ge (a := 8) w (by omega)
    exact ys_p _ gy a yn yf yb br re hb (fun yn yf yb hM => br_f w' ⟨rfl, rl_mk hb hx⟩)
theorem i_vc_with {k : Nat} {u : SX} {v : SY} (I : i_Rel k u v) (hk : k + 4 ≤ 2048) (v1 : Int32) (v2 : Int32) : wpX_with (fun r => wpY_with (fun r' v' => r' = r ∧ i_Rel (k + 4) u v') v v1 v2) u v1 v2 := by
  obtain ⟨sk, a, ic, ne, fe, cb, lb, ta, la, lk, gy, yn, yf, yb, br, re, rfl, rfl, hb, hx⟩ := I
  have hG := rl_G hb
  unfold wpX_with wpY_with wpX_isCrowded wpX_isGap
  dsimp only
  refine pk_le (gp_l a (is_l a 36)).length 8 (fun w => br_t rfl ?_) (fun w => br_f (by decide) ?_)
  · have w' : nI (gp_l a (is_l a 36)).length ≤ 8 := nI_le (b := 8) w (by decide)
    have hK := hx.2 w
    rcases pk_ix v1 (n := (gp_l a (is_l a 36)).length) (by omega) with h | h | ⟨g, hg, rfl⟩
    · exact br_t h (br_t rfl (ys_p _ gy a yn yf yb br re hb (fun yn yf yb hM => br_t w' (br_t h ⟨rfl, rl_mk hb hx⟩))))
    · have n0 := ge_0 (by omega) h
      exact br_f n0 (br_t h (br_t rfl (ys_p _ gy a yn yf yb br re hb (fun yn yf yb hM => br_t w' (br_f n0 (br_t h ⟨rfl, rl_mk hb hx⟩))))))
    · have n0 : ¬ nI g < 0 := nI_pos (by omega)
      have hl : ¬ nI (gp_l a (is_l a 36)).length ≤ nI g := nI_ge hg (by omega)
      refine br_f n0 (br_f hl (br_f (by decide) ?_))
      rcases pk_ix v2 (n := 3) (by decide) with h | h | ⟨e, he, rfl⟩
      · exact br_t h (ys_p _ gy a yn yf yb br re hb (fun yn yf yb hM => br_t w' (br_f n0 (br_f hl (br_t h ⟨rfl, rl_mk hb hx⟩)))))
      · have m0 := ge_0 (by decide) h
        have m2 : ¬ v2 ≤ 2 := Int32.not_le.mpr (Int32.lt_of_lt_of_le (by decide) h)
        exact br_f m0 (br_f m2 (ys_p _ gy a yn yf yb br re hb (fun yn yf yb hM => br_t w' (br_f n0 (br_f hl (br_f m0 (br_f m2 ⟨rfl, rl_mk hb hx⟩)))))))
      · have m0 : ¬ nI e < 0 := nI_pos (by omega)
        have m2 : nI e ≤ 2 := nI_le (b := 2) (by omega) (by decide)
        have ei : 3 * nI g + nI e = nI (3 * g + e) := by
          have : 3 * nI g = nI (3 * g) := pk_mul 3 g
          rw [this, nI_add]
        rw [ei, nI_clamp (show 3 * g + e < 2 ^ 31 by omega)]
        refine br_f m0 (br_t m2 ⟨vp_in_nI (by omega) (by omega), ys_p _ gy a yn yf yb br re hb (fun yn yf yb hM => br_t w' (br_f n0 (br_f hl (br_f m0 (br_t m2 (yt_g _ a yn yf yb br re hb _ (gp_l_ok a 36 (Nat.le_refl _)) w hM g e hg he (fun br re => ⟨?_, rl_mk hb hx⟩)))))))⟩)
        exact (hK.2.1 g hg e he).symm
  · have w' : ¬ nI (gp_l a (is_l a 36)).length ≤ 8 := nI_ge (a := 8) w (by omega)
    exact ys_p _ gy a yn yf yb br re hb (fun yn yf yb hM => br_f w' ⟨rfl, rl_mk hb hx⟩)
