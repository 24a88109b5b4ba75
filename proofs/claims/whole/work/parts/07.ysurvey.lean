theorem bd_z {x : Int32} (h : 0 ≤ x) : x ≤ 0 ↔ x = 0 := ⟨fun q => Int32.le_antisymm q h, fun q => q ▸ Int32.le_refl _⟩
/-- the board: no number below 0, at most seven islands -/
def bd_ok (a : Nat → Int32) : Prop := (∀ c, c < 36 → 0 ≤ a c) ∧ (is_l a 36).length ≤ 7
theorem yh_4 (post : Int32 → Prop) (gy : Int32) (a yn yf : Nat → Int32) (yb : Nat → Int64) (br re : Nat → Int32) (ha : bd_ok a) (hp : post (nI (is_l a 36).length)) :
    ∀ d c : Nat, c + d = 36 → wY_held_4 post gy a yn yf yb br re (d + 1) (nI (is_l a c).length) (nI c) := by
  intro d
  induction d with
  | zero =>
    intro c hc
    obtain rfl : c = 36 := by omega
    exact pk_le 36 36 (fun _ => hp) (fun h => absurd h (by omega))
  | succ d ih =>
    intro c hc
    have kc : (nI c).toNatClampNeg = c := nI_clamp (by omega)
    have ih := ih (c + 1) (by omega)
    refine pk_le 36 c (fun h => absurd h (by omega)) (fun _ => ⟨vp_in_nI (by omega) (by omega), ?_⟩)
    have q := bd_z (ha.1 c (by omega))
    by_cases z : a c = 0
    · rw [is_s0 z] at ih
      exact br_t (by rw [kc]; exact q.mpr z) (nm_r (nI_1 c) ih)
    · rw [is_s1 z, List.length_append, List.length_singleton] at ih
      exact br_f (by rw [kc]; exact fun w => z (q.mp w)) (nm_r (nI_1 _) (nm_r (nI_1 c) ih))
theorem yh_p (post : Int32 → Prop) (gy : Int32) (a yn yf : Nat → Int32) (yb : Nat → Int64) (br re : Nat → Int32) (ha : bd_ok a) (hp : post (nI (is_l a 36).length)) : wpY_held post (gy, a, yn, yf, yb, br, re) :=
  ⟨37, yh_4 post gy a yn yf yb br re ha hp 36 0 rfl⟩
theorem yk_9 (post : SY → Prop) (a yn yf : Nat → Int32) (yb : Nat → Int64) (br re : Nat → Int32) (ha : bd_ok a) (G p0 s m : Nat) (hG : G < 16) (hm : p0 + m * s < 36) (hs : 0 < s) :
    ∀ (d j p : Nat) (b : Int64), j + d = m → p = p0 + j * s →
    (sc_g a s d p b = none → post (nI G, a, yn, yf, yb, br, re)) →
    (∀ x, sc_g a s d p b = some x → post (nI (G + 1), a, upd yn G (nI p0), upd yf G (nI x.1), vp_updL yb G x.2, br, re)) →
    wY_look_9 post (nI p0) (nI s) (nI m) (nI G) a yn yf yb br re (d + 1) b (nI p) (nI j) := by
  have hm2 : m ≤ m * s := Nat.le_mul_of_pos_right m hs
  intro d
  induction d with
  | zero =>
    intro j p b hj _ h0 _
    exact pk_le m j (fun _ => h0 rfl) (fun h => absurd h (by omega))
  | succ d ih =>
    intro j p b hj hp h0 h1
    have e : j * s + s = (j + 1) * s := (Nat.succ_mul j s).symm
    have hjs : (j + 1) * s ≤ m * s := Nat.mul_le_mul_right s (by omega)
    have hc : p + s < 36 := by omega
    have kc : (nI (p + s)).toNatClampNeg = p + s := nI_clamp (by omega)
    have kg : (nI G).toNatClampNeg = G := nI_clamp (by omega)
    have vg : vp_in (nI G) 16 := vp_in_nI hG (by omega)
    have q := bd_z (ha.1 (p + s) hc)
    refine pk_le m j (fun h => absurd h (by omega)) (fun _ => nm_r (nI_add p s) (pk_le (p + s) 35 (fun _ => ⟨vp_in_nI hc (by omega), ?_⟩) (fun h => absurd h (by omega))))
    by_cases z : a (p + s) = 0
    · rw [sc_s0 z] at h0 h1
      exact br_t (by rw [kc]; exact q.mpr z) (nm_e (nm_r (nI_1 j) (ih (j + 1) (p + s) _ (by omega) (by omega) h0 h1)))
    · have h1 := h1 (p + s, b) (sc_s1 z)
      exact br_f (by rw [kc]; exact fun w => z (q.mp w)) (pk_le 16 G (fun h => absurd h (by omega)) (fun _ => ⟨vg, nm_r (by rw [kg]) ⟨vg, nm_r (by rw [kg]) ⟨vg, nm_r (by rw [kg]) (nm_r (nI_1 G) h1)⟩⟩⟩))
theorem yk_p (post : SY → Prop) (a yn yf : Nat → Int32) (yb : Nat → Int64) (br re : Nat → Int32) (ha : bd_ok a) (L : List (Nat × Nat × Int64)) (p0 s m : Nat) (hG : L.length < 16) (hm : p0 + m * s < 36) (hs : 0 < s) (hM : gp_M L yn yf yb)
    (hp : ∀ yn yf yb, gp_M (L ++ sc_1 p0 (sc_g a s m p0 0)) yn yf yb → post (nI (L ++ sc_1 p0 (sc_g a s m p0 0)).length, a, yn, yf, yb, br, re)) :
    wpY_look post (nI L.length, a, yn, yf, yb, br, re) (nI p0) (nI s) (nI m) := by
  refine ⟨m + 1, yk_9 post a yn yf yb br re ha L.length p0 s m hG hm hs m 0 p0 0 (by omega) (by rw [Nat.zero_mul]; rfl) (fun e => ?_) (fun x e => ?_)⟩
  · rw [e] at hp
    have h := hp yn yf yb (by show gp_M (L ++ []) yn yf yb; rw [List.append_nil]; exact hM)
    rw [show sc_1 p0 none = [] from rfl, List.append_nil] at h
    exact h
  · rw [e] at hp
    have h := hp _ _ _ (gp_M1 hM p0 x.1 x.2)
    rw [show sc_1 p0 (some x) = [(p0, x.1, x.2)] from rfl, List.length_append, List.length_singleton] at h
    exact h
theorem ys_7 (post : SY → Prop) (a : Nat → Int32) (br re : Nat → Int32) (ha : bd_ok a)
    (hp : ∀ yn yf yb, gp_M (gp_l a (is_l a 36)) yn yf yb → post (nI (gp_l a (is_l a 36)).length, a, yn, yf, yb, br, re)) :
    ∀ d c : Nat, c + d = 36 → ∀ yn yf yb, gp_M (gp_l a (is_l a c)) yn yf yb → wY_survey_7 post (d + 1) (nI c) (nI (gp_l a (is_l a c)).length) a yn yf yb br re := by
  intro d
  induction d with
  | zero =>
    intro c hc yn yf yb hM
    obtain rfl : c = 36 := by omega
    exact pk_le 36 36 (fun _ => hp yn yf yb hM) (fun h => absurd h (by omega))
  | succ d ih =>
    intro c hc yn yf yb hM
    have kc : (nI c).toNatClampNeg = c := nI_clamp (by omega)
    have ih := ih (c + 1) (by omega)
    have q := bd_z (ha.1 c (by omega))
    have hl := gp_len a (is_l a c)
    have hl2 := is_len a (show c + 1 ≤ 36 by omega)
    have h7 := ha.2
    refine pk_le 36 c (fun h => absurd h (by omega)) (fun _ => ⟨vp_in_nI (by omega) (by omega), ?_⟩)
    by_cases z : a c = 0
    · rw [is_s0 z] at ih
      exact br_t (by rw [kc]; exact q.mpr z) (nm_r (nI_1 c) (ih yn yf yb hM))
    · rw [is_s1 z, gp_s] at ih
      rw [is_s1 z, List.length_append, List.length_singleton] at hl2
      have e1 : (5 : Int32) - (nI c - nI c / 6 * 6) = nI (5 - c % 6) := by
        rw [show nI c - nI c / 6 * 6 = nI (c % 6) from pk_rem (d := 6) (by omega) (by omega) (by omega)]
        exact pk_sub (a := 5) (by omega)
      have e2 : (5 : Int32) - nI c / 6 = nI (5 - c / 6) := by
        rw [show nI c / 6 = nI (c / 6) from pk_div (d := 6) (by omega) (by omega) (by omega)]
        exact pk_sub (a := 5) (by omega)
      have h1 := sc_1len c (sc_r a c)
      refine br_f (by rw [kc]; exact fun w => z (q.mp w)) ⟨by decide, ?_⟩
      rw [e1, e2]
      refine yk_p _ a yn yf yb br re ha (gp_l a (is_l a c)) c 1 (5 - c % 6) (by omega) (by omega) (by omega) hM (fun yn yf yb hM => ⟨by decide, ?_⟩)
      refine yk_p _ a yn yf yb br re ha _ c 6 (5 - c / 6) ?_ (by omega) (by omega) hM (fun yn yf yb hM => ?_)
      · show (gp_l a (is_l a c) ++ sc_1 c (sc_r a c)).length < 16
        rw [List.length_append]
        omega
      · exact nm_r (nI_1 c) (ih yn yf yb hM)
theorem ys_p (post : SY → Prop) (gy : Int32) (a yn yf : Nat → Int32) (yb : Nat → Int64) (br re : Nat → Int32) (ha : bd_ok a)
    (hp : ∀ yn yf yb, gp_M (gp_l a (is_l a 36)) yn yf yb → post (nI (gp_l a (is_l a 36)).length, a, yn, yf, yb, br, re)) : wpY_survey post (gy, a, yn, yf, yb, br, re) :=
  ⟨37, ys_7 post a br re ha hp 36 0 rfl yn yf yb (gp_M0 yn yf yb)⟩
