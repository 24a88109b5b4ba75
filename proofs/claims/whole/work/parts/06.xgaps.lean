theorem xl_7 (post : SX → Prop) (gk sk : Int32) (a ne fe : Nat → Int32) (cb : Nat → Int64) (lb ta la lk : Nat → Int32) (h7 : (is_l a 36).length ≤ 7)
    (hp : ∀ ic, is_M (is_l a 36) ic → post (nI (is_l a 36).length, gk, sk, a, ic, ne, fe, cb, lb, ta, la, lk)) :
    ∀ d c : Nat, c + d = 36 → ∀ ic, is_M (is_l a c) ic → wX_listIslands_7 post gk sk (d + 1) (nI c) (nI (is_l a c).length) a ic ne fe cb lb ta la lk := by
  intro d
  induction d with
  | zero =>
    intro c hc ic hM
    obtain rfl : c = 36 := by omega
    exact pk_le 36 36 (fun _ => hp ic hM) (fun h => absurd h (by omega))
  | succ d ih =>
    intro c hc ic hM
    have hl := is_len a (show c ≤ 36 by omega)
    have kc : (nI c).toNatClampNeg = c := nI_clamp (by omega)
    have kl : (nI (is_l a c).length).toNatClampNeg = (is_l a c).length := nI_clamp (by omega)
    refine pk_le 36 c (fun h => absurd h (by omega)) (fun _ => pk_le 7 (is_l a c).length (fun h => ?_) (fun h => ⟨vp_in_nI (by omega) (by omega), ?_⟩))
    · have e := is_full a (show c ≤ 36 by omega) (by omega)
      rw [← e]
      exact hp ic (e ▸ hM)
    · by_cases z : a c = 0
      · have ih := ih (c + 1) (by omega) ic (by rw [is_s0 z]; exact hM)
        rw [is_s0 z] at ih
        exact br_t (by rw [kc]; exact z) (nm_r (nI_1 c) ih)
      · have ih := ih (c + 1) (by omega) (upd ic (is_l a c).length (nI c)) (by rw [is_s1 z]; exact is_M1 hM c)
        rw [is_s1 z, List.length_append, List.length_singleton] at ih
        exact br_f (by rw [kc]; exact z) ⟨vp_in_nI (by omega) (by omega), nm_r (by rw [kl]) (nm_r (nI_1 _) (nm_r (nI_1 c) ih))⟩
theorem xl_p (post : SX → Prop) (ik gk sk : Int32) (a ic ne fe : Nat → Int32) (cb : Nat → Int64) (lb ta la lk : Nat → Int32) (h7 : (is_l a 36).length ≤ 7)
    (hp : ∀ ic, is_M (is_l a 36) ic → post (nI (is_l a 36).length, gk, sk, a, ic, ne, fe, cb, lb, ta, la, lk)) :
    wpX_listIslands post (ik, gk, sk, a, ic, ne, fe, cb, lb, ta, la, lk) :=
  ⟨37, xl_7 post gk sk a ne fe cb lb ta la lk h7 hp 36 0 rfl ic (is_M0 ic)⟩
theorem xa_6 (post : SX → Prop) (ik sk : Int32) (a ic ne fe : Nat → Int32) (cb : Nat → Int64) (lb ta la lk : Nat → Int32) (G p0 s m : Nat) (hG : G < 14) (hm : p0 + m * s < 36) (hs : 0 < s) :
    ∀ (d j p : Nat) (b : Int64), j + d = m + 1 → p + s = p0 + j * s →
    (sc_g a s d p b = none → post (ik, nI G, sk, a, ic, ne, fe, cb, lb, ta, la, lk)) →
    (∀ x, sc_g a s d p b = some x → post (ik, nI (G + 1), sk, a, ic, upd ne G (nI p0), upd fe G (nI x.1), vp_updL cb G x.2, lb, ta, la, lk)) →
    wX_addGap_6 post (nI p0) (nI s) (nI m) ik (nI G) sk a ic ne fe cb lb ta la lk (d + 1) b (nI j) := by
  have hm2 : m ≤ m * s := Nat.le_mul_of_pos_right m hs
  intro d
  induction d with
  | zero =>
    intro j p b hj _ h0 _
    exact pk_lt m j (fun _ => h0 rfl) (fun h => absurd h (by omega))
  | succ d ih =>
    intro j p b hj hp h0 h1
    have hjs : j * s ≤ m * s := Nat.mul_le_mul_right s (by omega)
    have hc : p + s < 36 := by omega
    have ec : nI p0 + nI j * nI s = nI (p + s) := by rw [pk_mul, nI_add, hp]
    have kc : (nI (p + s)).toNatClampNeg = p + s := nI_clamp (by omega)
    have kg : (nI G).toNatClampNeg = G := nI_clamp (by omega)
    have vg : vp_in (nI G) 14 := vp_in_nI hG (by omega)
    refine pk_lt m j (fun h => absurd h (by omega)) (fun _ => nm_r ec ⟨vp_in_nI hc (by omega), ?_⟩)
    by_cases z : a (p + s) = 0
    · rw [sc_s0 z] at h0 h1
      have e : j * s + s = (j + 1) * s := (Nat.succ_mul j s).symm
      exact br_t (by rw [kc]; exact z) (nm_e (nm_r (nI_1 j) (ih (j + 1) (p + s) _ (by omega) (by omega) h0 h1)))
    · have h1 := h1 (p + s, b) (sc_s1 z)
      exact br_f (by rw [kc]; exact z) ⟨vg, nm_r (by rw [kg]) ⟨vg, nm_r (by rw [kg]) ⟨vg, nm_r (by rw [kg]) (nm_r (nI_1 G) h1)⟩⟩⟩
theorem xa_p (post : SX → Prop) (ik sk : Int32) (a ic ne fe : Nat → Int32) (cb : Nat → Int64) (lb ta la lk : Nat → Int32) (L : List (Nat × Nat × Int64)) (p0 s m : Nat) (hG : L.length < 14) (hm : p0 + m * s < 36) (hs : 0 < s) (hM : gp_M L ne fe cb)
    (hp : ∀ ne fe cb, gp_M (L ++ sc_1 p0 (sc_g a s m p0 0)) ne fe cb → post (ik, nI (L ++ sc_1 p0 (sc_g a s m p0 0)).length, sk, a, ic, ne, fe, cb, lb, ta, la, lk)) :
    wpX_addGap post (ik, nI L.length, sk, a, ic, ne, fe, cb, lb, ta, la, lk) (nI p0) (nI s) (nI m) := by
  refine ⟨m + 1, xa_6 post ik sk a ic ne fe cb lb ta la lk L.length p0 s m hG hm hs m 1 p0 0 (by omega) (by rw [Nat.one_mul]) (fun e => ?_) (fun x e => ?_)⟩
  · rw [e] at hp
    have h := hp ne fe cb (by show gp_M (L ++ []) ne fe cb; rw [List.append_nil]; exact hM)
    rw [show sc_1 p0 none = [] from rfl, List.append_nil] at h
    exact h
  · rw [e] at hp
    have h := hp _ _ _ (gp_M1 hM p0 x.1 x.2)
    rw [show sc_1 p0 (some x) = [(p0, x.1, x.2)] from rfl, List.length_append, List.length_singleton] at h
    exact h
theorem xg_7 (post : SX → Prop) (sk : Int32) (a ic : Nat → Int32) (lb ta la lk : Nat → Int32) (h7 : (is_l a 36).length ≤ 7) (hI : is_M (is_l a 36) ic)
    (hp : ∀ ne fe cb, gp_M (gp_l a (is_l a 36)) ne fe cb → post (nI (is_l a 36).length, nI (gp_l a (is_l a 36)).length, sk, a, ic, ne, fe, cb, lb, ta, la, lk)) :
    ∀ d i : Nat, i + d = (is_l a 36).length → ∀ ne fe cb, gp_M (gp_l a ((is_l a 36).take i)) ne fe cb → wX_listGaps_7 post (d + 1) (nI i) (nI (is_l a 36).length) (nI (gp_l a ((is_l a 36).take i)).length) sk a ic ne fe cb lb ta la lk := by
  intro d
  induction d with
  | zero =>
    intro i hi ne fe cb hM
    rw [List.take_of_length_le (by omega)] at hM ⊢
    exact pk_le (is_l a 36).length i (fun _ => hp ne fe cb hM) (fun h => absurd h (by omega))
  | succ d ih =>
    intro i hi ne fe cb hM
    have hc := is_c36 a (show i < (is_l a 36).length by omega)
    have ki : (nI i).toNatClampNeg = i := nI_clamp (by omega)
    have ec : ic (nI i).toNatClampNeg = nI (is_c (is_l a 36) i) := by rw [ki]; exact hI i (by omega)
    have hT := is_tk (is_l a 36) (show i < (is_l a 36).length by omega)
    have hl := gp_len a ((is_l a 36).take i)
    rw [List.length_take, Nat.min_eq_left (by omega)] at hl
    have ih := ih (i + 1) (by omega)
    rw [hT, gp_s] at ih
    generalize hcc : is_c (is_l a 36) i = c at *
    have e1 : (5 : Int32) - nI (c % 6) = nI (5 - c % 6) := pk_sub (a := 5) (by omega)
    have e2 : (5 : Int32) - nI (c / 6) = nI (5 - c / 6) := pk_sub (a := 5) (by omega)
    have h1 := sc_1len c (sc_r a c)
    refine pk_le (is_l a 36).length i (fun h => absurd h (by omega)) (fun _ => ⟨vp_in_nI (by omega) (by omega), nm_r ec ⟨by decide, nm_r (pk_rem (d := 6) (by omega) (by omega) (by omega)) ⟨by decide, nm_r (pk_div (d := 6) (by omega) (by omega) (by omega)) ?_⟩⟩⟩)
    rw [e1, e2]
    refine xa_p _ _ sk a ic ne fe cb lb ta la lk (gp_l a ((is_l a 36).take i)) c 1 (5 - c % 6) (by omega) (by omega) (by omega) hM (fun ne fe cb hM => ?_)
    refine xa_p _ _ sk a ic ne fe cb lb ta la lk _ c 6 (5 - c / 6) ?_ (by omega) (by omega) hM (fun ne fe cb hM => ?_)
    · show (gp_l a ((is_l a 36).take i) ++ sc_1 c (sc_r a c)).length < 14
      rw [List.length_append]
      omega
    · exact nm_r (nI_1 i) (ih ne fe cb hM)
theorem xg_p (post : SX → Prop) (gk sk : Int32) (a ic ne fe : Nat → Int32) (cb : Nat → Int64) (lb ta la lk : Nat → Int32) (h7 : (is_l a 36).length ≤ 7) (hI : is_M (is_l a 36) ic)
    (hp : ∀ ne fe cb, gp_M (gp_l a (is_l a 36)) ne fe cb → post (nI (is_l a 36).length, nI (gp_l a (is_l a 36)).length, sk, a, ic, ne, fe, cb, lb, ta, la, lk)) :
    wpX_listGaps post (nI (is_l a 36).length, gk, sk, a, ic, ne, fe, cb, lb, ta, la, lk) :=
  ⟨_, xg_7 post sk a ic lb ta la lk h7 hI hp (is_l a 36).length 0 (by omega) ne fe cb (gp_M0 ne fe cb)⟩
