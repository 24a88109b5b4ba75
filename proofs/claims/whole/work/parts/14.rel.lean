/-- both hold the same board; X's lists, counts and tallies are those of the board -/
def i_Rel (k : Nat) (u : SX) (v : SY) : Prop :=
  ∃ (sk : Int32) (a ic ne fe : Nat → Int32) (cb : Nat → Int64) (lb ta la lk : Nat → Int32) (gy : Int32) (yn yf : Nat → Int32) (yb : Nat → Int64) (br re : Nat → Int32),
    u = (nI (is_l a 36).length, nI (gp_l a (is_l a 36)).length, sk, a, ic, ne, fe, cb, lb, ta, la, lk) ∧ v = (gy, a, yn, yf, yb, br, re) ∧ bd_ok a ∧ xf_ok a sk ne fe cb lb ta
theorem rl_mk {k : Nat} {sk : Int32} {a ic ne fe : Nat → Int32} {cb : Nat → Int64} {lb ta la lk : Nat → Int32} {gy : Int32} {yn yf : Nat → Int32} {yb : Nat → Int64} {br re : Nat → Int32} (h1 : bd_ok a) (h2 : xf_ok a sk ne fe cb lb ta) :
    i_Rel k (nI (is_l a 36).length, nI (gp_l a (is_l a 36)).length, sk, a, ic, ne, fe, cb, lb, ta, la, lk) (gy, a, yn, yf, yb, br, re) :=
  ⟨sk, a, ic, ne, fe, cb, lb, ta, la, lk, gy, yn, yf, yb, br, re, rfl, rfl, h1, h2⟩
theorem i_up {k : Nat} {u : SX} {v : SY} (h : i_Rel k u v) : i_Rel (k + 4) u v := h
theorem bd_0 : bd_ok (fun _ => 0) := ⟨fun _ _ => Int32.le_refl 0, by decide⟩
theorem i_vc0 : wpX_init (fun u => wpY_init (fun v => i_Rel 0 u v)) := by
  unfold wpX_init wpY_init
  exact xf_p _ 0 0 0 (fun _ => 0) (fun _ => 0) (fun _ => 0) (fun _ => 0) (fun _ => 0) (fun _ => 0) (fun _ => 0) (fun _ => 0) (fun _ => 0) bd_0.2 (fun sk ic ne fe cb lb ta la lk h => rl_mk bd_0 h)
theorem on_l (p0 p1 : Int32) : (∃ r c : Nat, r < 6 ∧ c < 6 ∧ p0 = nI r ∧ p1 = nI c ∧ (∀ post : Int32 → Prop, post 1 → wpX_isOnBoard post p0 p1) ∧ (∀ post : Int32 → Prop, post 0 → wpY_off post p0 p1)) ∨ ((∀ post : Int32 → Prop, post 0 → wpX_isOnBoard post p0 p1) ∧ (∀ post : Int32 → Prop, post 1 → wpY_off post p0 p1)) := by
  rcases pk_ix p0 (n := 6) (by decide) with h | h | ⟨r, hr, rfl⟩
  · exact Or.inr ⟨fun _ hp => br_t h hp, fun _ hp => br_t h hp⟩
  · have h6 : (6 : Int32) ≤ p0 := h
    have n0 : ¬ p0 < 0 := Int32.not_lt.mpr (Int32.le_trans (by decide) h6)
    have h5 : (5 : Int32) < p0 := Int32.lt_of_lt_of_le (by decide) h6
    exact Or.inr ⟨fun _ hp => br_f n0 (br_t h6 hp), fun _ hp => br_f n0 (br_t h5 hp)⟩
  · have a0 : ¬ nI r < 0 := nI_pos (by omega)
    have a6 : ¬ (6 : Int32) ≤ nI r := nI_ge (b := 6) hr (by decide)
    have a5 : ¬ (5 : Int32) < nI r := nI_nlt (a := 5) (by omega) (by decide)
    rcases pk_ix p1 (n := 6) (by decide) with h | h | ⟨c, hc, rfl⟩
    · exact Or.inr ⟨fun _ hp => br_f a0 (br_f a6 (br_t h hp)), fun _ hp => br_f a0 (br_f a5 (br_t h hp))⟩
    · have h6 : (6 : Int32) ≤ p1 := h
      have n0 : ¬ p1 < 0 := Int32.not_lt.mpr (Int32.le_trans (by decide) h6)
      have h5 : ¬ p1 ≤ 5 := Int32.not_le.mpr (Int32.lt_of_lt_of_le (by decide) h6)
      exact Or.inr ⟨fun _ hp => br_f a0 (br_f a6 (br_f n0 (br_t h6 hp))), fun _ hp => br_f a0 (br_f a5 (br_f n0 (br_f h5 hp)))⟩
    · have b0 : ¬ nI c < 0 := nI_pos (by omega)
      have b6 : ¬ (6 : Int32) ≤ nI c := nI_ge (b := 6) hc (by decide)
      have b5 : nI c ≤ (5 : Int32) := nI_le (b := 5) (by omega) (by decide)
      exact Or.inl ⟨r, c, hr, hc, rfl, rfl, fun _ hp => br_f a0 (br_f a6 (br_f b0 (br_f b6 hp))), fun _ hp => br_f a0 (br_f a5 (br_f b0 (br_t b5 hp)))⟩
theorem on_c (r c : Nat) : 6 * nI r + nI c = nI (6 * r + c) := by
  have : 6 * nI r = nI (6 * r) := pk_mul 6 r
  rw [this, nI_add]
/-- the board after a write -/
theorem bd_u {a : Nat → Int32} (h : bd_ok a) {c : Nat} {v : Int32} (hv : 0 ≤ v) (hl : ¬ a c = 0 ∨ (is_l a 36).length < 7) : bd_ok (upd a c v) := by
  refine ⟨fun j hj => ?_, ?_⟩
  · by_cases e : j = c
    · subst e; rw [pk_us]; exact hv
    · rw [pk_un e]; exact h.1 j hj
  · have q := is_ul a c v 36
    have h7 := h.2
    rcases hl with z | l
    · have := q.2.2 z; omega
    · have := q.1; omega
theorem i_vc_place {k : Nat} {u : SX} {v : SY} (I : i_Rel k u v) (hk : k + 4 ≤ 2048) (v1 : Int32) (v2 : Int32) (v3 : Int32) : wpX_place (fun r u' => wpY_place (fun r' v' => r' = r ∧ i_Rel (k + 4) u' v') v v1 v2 v3) u v1 v2 v3 := by
  have J := i_up I
  obtain ⟨sk, a, ic, ne, fe, cb, lb, ta, la, lk, gy, yn, yf, yb, br, re, rfl, rfl, hb, hx⟩ := I
  unfold wpX_place wpY_place
  dsimp only
  rcases on_l v1 v2 with ⟨r, c, hr, hc, rfl, rfl, hX, hY⟩ | ⟨hX, hY⟩
  · rw [on_c]
    have kc : (nI (6 * r + c)).toNatClampNeg = 6 * r + c := nI_clamp (by omega)
    have vc : vp_in (nI (6 * r + c)) 36 := vp_in_nI (by omega) (by omega)
    refine hX _ (br_f (by decide) ?_)
    by_cases h1 : v3 < 1
    · exact br_t h1 (hY _ (br_t rfl (br_t h1 ⟨rfl, J⟩)))
    · refine br_f h1 ?_
      by_cases h8 : v3 ≤ 8
      · have hv : 0 ≤ v3 := Int32.le_trans (by decide) (Int32.not_lt.mp h1)
        have goY : ∀ (P : Int32 → SY → Prop), bd_ok (upd a (6 * r + c) v3) → P (nI (is_l (upd a (6 * r + c) v3) 36).length) (gy, upd a (6 * r + c) v3, yn, yf, yb, br, re) → wY_place_46 P (nI r) (nI c) v3 gy a yn yf yb br re := by
          intro P hb' hP
          unfold wY_place_46
          rw [on_c, kc]
          exact ⟨vc, nm_e (yh_p _ gy _ yn yf yb br re hb' hP)⟩
        refine br_t h8 (nm_e ⟨vc, ?_⟩)
        rw [kc]
        by_cases z : a (6 * r + c) = 0
        · refine br_t z (pk_lt (is_l a 36).length 7 (fun w => ?_) (fun w => ?_) rfl rfl (by have := hb.2; omega) (by decide))
          · have hb' := bd_u hb hv (Or.inr w) (c := 6 * r + c)
            refine ⟨vc, nm_r (by rw [kc]) (xf_p _ _ _ _ _ _ _ _ _ _ _ _ _ hb'.2 (fun sk ic ne fe cb lb ta la lk h => hY _ (br_t rfl (br_f h1 (br_t h8 ⟨vc, br_t z (yh_p _ gy a yn yf yb br re hb (br_f (fun t => ?_) (goY _ hb' ⟨rfl, rl_mk hb' h⟩)))⟩)))))⟩
            have := (nI_eq (b := 7) (by omega) (by decide)).mp t
            omega
          · have e7 : (is_l a 36).length = 7 := by have := hb.2; omega
            exact hY _ (br_t rfl (br_f h1 (br_t h8 ⟨vc, br_t z (yh_p _ gy a yn yf yb br re hb (br_t (by rw [e7]; rfl) ⟨rfl, J⟩))⟩)))
        · have hb' := bd_u hb hv (Or.inl z)
          exact br_f z ⟨vc, nm_r (by rw [kc]) (xf_p _ _ _ _ _ _ _ _ _ _ _ _ _ hb'.2 (fun sk ic ne fe cb lb ta la lk h => hY _ (br_t rfl (br_f h1 (br_t h8 ⟨vc, br_f z (goY _ hb' ⟨rfl, rl_mk hb' h⟩)⟩)))))⟩
      · exact br_f h8 (hY _ (br_t rfl (br_f h1 (br_f h8 ⟨rfl, J⟩))))
  · exact hX _ (br_t rfl (hY _ (br_f (by decide) ⟨rfl, J⟩)))
theorem i_vc_remove {k : Nat} {u : SX} {v : SY} (I : i_Rel k u v) (hk : k + 4 ≤ 2048) (v1 : Int32) (v2 : Int32) : wpX_remove (fun r u' => wpY_remove (fun r' v' => r' = r ∧ i_Rel (k + 4) u' v') v v1 v2) u v1 v2 := by
  have J := i_up I
  obtain ⟨sk, a, ic, ne, fe, cb, lb, ta, la, lk, gy, yn, yf, yb, br, re, rfl, rfl, hb, hx⟩ := I
  unfold wpX_remove wpY_remove
  dsimp only
  rcases on_l v1 v2 with ⟨r, c, hr, hc, rfl, rfl, hX, hY⟩ | ⟨hX, hY⟩
  · rw [on_c]
    have kc : (nI (6 * r + c)).toNatClampNeg = 6 * r + c := nI_clamp (by omega)
    have vc : vp_in (nI (6 * r + c)) 36 := vp_in_nI (by omega) (by omega)
    refine hX _ (br_f (by decide) (nm_e ⟨vc, ?_⟩))
    rw [kc]
    by_cases z : a (6 * r + c) = 0
    · exact br_t z (hY _ (br_t rfl ⟨vc, br_t z ⟨rfl, J⟩⟩))
    · have hb' := bd_u hb (Int32.le_refl 0) (Or.inl z)
      exact br_f z ⟨vc, nm_e (xf_p _ _ _ _ _ _ _ _ _ _ _ _ _ hb'.2 (fun sk ic ne fe cb lb ta la lk h => hY _ (br_t rfl ⟨vc, br_f z ⟨vc, nm_e (yh_p _ gy _ yn yf yb br re hb' ⟨rfl, rl_mk hb' h⟩)⟩⟩)))⟩
  · exact hX _ (br_t rfl (hY _ (br_f (by decide) ⟨rfl, J⟩)))
theorem i_vc_island {k : Nat} {u : SX} {v : SY} (I : i_Rel k u v) (hk : k + 4 ≤ 2048) (v1 : Int32) (v2 : Int32) : wpX_island (fun r => wpY_island (fun r' => r' = r ∧ i_Rel (k + 4) u v) v v1 v2) u v1 v2 := by
  have J := i_up I
  obtain ⟨sk, a, ic, ne, fe, cb, lb, ta, la, lk, gy, yn, yf, yb, br, re, rfl, rfl, hb, hx⟩ := I
  unfold wpX_island wpY_island
  dsimp only
  rcases on_l v1 v2 with ⟨r, c, hr, hc, rfl, rfl, hX, hY⟩ | ⟨hX, hY⟩
  · rw [on_c]
    have vc : vp_in (nI (6 * r + c)) 36 := vp_in_nI (by omega) (by omega)
    exact hX _ (br_f (by decide) ⟨vc, hY _ (br_t rfl ⟨vc, rfl, J⟩)⟩)
  · exact hX _ (br_t rfl (hY _ (br_f (by decide) ⟨rfl, J⟩)))
theorem i_vc_gaps {k : Nat} {u : SX} {v : SY} (I : i_Rel k u v) (hk : k + 4 ≤ 2048) : wpX_gaps (fun r => wpY_gaps (fun r' v' => r' = r ∧ i_Rel (k + 4) u v') v) u := by
  obtain ⟨sk, a, ic, ne, fe, cb, lb, ta, la, lk, gy, yn, yf, yb, br, re, rfl, rfl, hb, hx⟩ := I
  unfold wpX_gaps wpY_gaps
  dsimp only
  exact ys_p _ gy a yn yf yb br re hb (fun yn yf yb hM => ⟨rfl, rl_mk hb hx⟩)
