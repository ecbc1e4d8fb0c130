/-! ===== the reference: after, closed, switches, reach ===== -/
def oc_i (b : Bool) : Int32 := if b = true then 1 else 0
theorem oc_t : oc_i true = 1 := rfl
theorem oc_f : oc_i false = 0 := rfl
def oc_a (v : Nat) (x : Int32) (vs : Nat → Nat) : Nat → Bool
  | 0 => true
  | m + 1 => oc_a v x vs m && (!bt x m || decide (vs m = v))
def oc_v (x : Int32) (vs : Nat → Nat) : Nat := if oc_a 0 x vs 11 = true then 0 else if oc_a 1 x vs 11 = true then 1 else 2
theorem oc_v_le (x : Int32) (vs : Nat → Nat) : oc_v x vs ≤ 2 := by
  unfold oc_v
  split
  · omega
  · split <;> omega
theorem oc_aN {v : Nat} {x : Int32} {vs : Nat → Nat} {m : Nat} (h : bt x m = false) : oc_a v x vs (m + 1) = oc_a v x vs m := by
  rw [oc_a, h]; simp
theorem oc_aY {v : Nat} {x : Int32} {vs : Nat → Nat} {m : Nat} (h : bt x m = true) : oc_a v x vs (m + 1) = (oc_a v x vs m && decide (vs m = v)) := by
  rw [oc_a, h]; simp
theorem oc_e1 {v : Nat} (hv : v ≤ 2) : (nI v = 1) ↔ v = 1 := nI_eq (b := 1) (by omega) (by decide)
theorem oc_e0 {v : Nat} (hv : v ≤ 2) : (nI v = 0) ↔ v = 0 := nI_eq (b := 0) (by omega) (by decide)
/-- the end of both sides' loop -/
theorem oc_end {post : Int32 → Prop} {x : Int32} {vs : Nat → Nat} (h : post (nI (oc_v x vs))) : ((oc_i (oc_a 0 x vs 11) = 0 → ((oc_i (oc_a 1 x vs 11) = 0 → post 2) ∧ (¬ oc_i (oc_a 1 x vs 11) = 0 → post 1))) ∧ (¬ oc_i (oc_a 0 x vs 11) = 0 → post 0)) := by
  unfold oc_v at h
  cases h0 : oc_a 0 x vs 11 with
  | true => rw [h0] at h; exact br_f (by decide) h
  | false =>
    rw [h0] at h
    cases h1 : oc_a 1 x vs 11 with
    | true => rw [h1] at h; exact br_t rfl (br_f (by decide) h)
    | false => rw [h1] at h; exact br_t rfl (br_t rfl h)
section
variable {ln : Int32} {vv zz tt aa bb ww yw yu yf ye ys yn : Nat → Int32} {vs zs na nb wn : Nat → Nat} {tb : Nat → Bool}
theorem yr_48 (W : cf_W vs zs na nb wn) (S : cf_Y vv zz tt aa bb ww vs zs na nb wn tb) {m : Nat} (hm : m < 11) {post : Int32 → Prop} {J : Int32 → Int32 → Int32 → Prop} {x1 z : Int32} {o : Bool} (h : J z (oc_i (o && decide (vs m = 1))) (nI (m + 1))) : wY_after_48 post J x1 (oc_i o) (nI m) z ln vv zz tt aa bb ww yw yu yf ye ys yn := by
  have hv := W.2.2.2.1 m hm
  unfold wY_after_48
  rw [nI_clamp (n := m) (by omega), S.1 m hm, oc_e1 hv]
  cases o with
  | false => exact br_t rfl (nm_r (nI_1 m) h)
  | true =>
    refine br_f (by decide) ⟨vp_in_nI hm (by omega), br_c (fun e => nm_r (nI_1 m) ?_) (fun e => nm_r (nI_1 m) ?_)⟩
    · rw [decide_eq_true e] at h; exact h
    · rw [decide_eq_false e] at h; exact h
theorem yr_7 (W : cf_W vs zs na nb wn) (S : cf_Y vv zz tt aa bb ww vs zs na nb wn tb) {n : Nat} (hn : n < 11) {post : Int32 → Prop} (h : post (nI (oc_v (ys n) vs))) : ∀ d m, m + d = 11 → wY_after_7 post (nI n) ln vv zz tt aa bb ww yw yu yf ye ys yn (d + 1) (oc_i (oc_a 0 (ys n) vs m)) (oc_i (oc_a 1 (ys n) vs m)) (nI m) := by
  intro d
  induction d with
  | zero =>
    intro m hm
    have e : m = 11 := by omega
    subst e
    exact br_t (by decide) (oc_end h)
  | succ d ih =>
    intro m hm
    have hm' : m < 11 := by omega
    have hv := W.2.2.2.1 m hm'
    have J := ih (m + 1) (by omega)
    rw [wY_after_7]
    dsimp only
    rw [nI_clamp (n := n) (by omega), nI_clamp (n := m) (by omega), S.1 m hm', oc_e0 hv]
    refine br_f (nI_ge (b := 11) hm' (by decide)) ⟨vp_in_nI hn (by omega), ?_⟩
    cases hb : bt (ys n) m with
    | false =>
      rw [oc_aN hb, oc_aN hb] at J
      exact br_f (sx_f (by omega) hb) (nm_r (nI_1 m) J)
    | true =>
      rw [oc_aY hb, oc_aY hb] at J
      refine br_t (sx_t (by omega) hb) ?_
      unfold wY_after_47
      cases hz : oc_a 0 (ys n) vs m with
      | false =>
        rw [hz] at J
        exact br_t rfl (yr_48 W S hm' J)
      | true =>
        rw [hz] at J
        refine br_f (by decide) ⟨vp_in_nI hm' (by omega), br_c (fun e => yr_48 W S hm' ?_) (fun e => yr_48 W S hm' ?_)⟩
        · rw [decide_eq_true e] at J; exact J
        · rw [decide_eq_false e] at J; exact J
theorem yr_after (W : cf_W vs zs na nb wn) (S : cf_Y vv zz tt aa bb ww vs zs na nb wn tb) {n : Nat} (hn : n < 11) {post : Int32 → Prop} (h : post (nI (oc_v (ys n) vs))) : wpY_after post (ln, vv, zz, tt, aa, bb, ww, yw, yu, yf, ye, ys, yn) (nI n) :=
  ⟨12, yr_7 W S hn h 11 0 rfl⟩
theorem yr_c4 (W : cf_W vs zs na nb wn) (S : cf_Y vv zz tt aa bb ww vs zs na nb wn tb) {post : Int32 → Prop} (h : post (sx_set (cf_k vs wn tb) 12)) : ∀ d k, k + d = 12 → wY_closed_4 post ln vv zz tt aa bb ww yw yu yf ye ys yn (d + 1) (sx_set (cf_k vs wn tb) k) (nI k) := by
  intro d
  induction d with
  | zero =>
    intro k hk
    have e : k = 12 := by omega
    subst e
    exact br_t (by decide) h
  | succ d ih =>
    intro k hk
    have J := ih (k + 1) (by omega)
    rw [sx_set] at J
    rw [wY_closed_4]
    dsimp only
    refine br_f (nI_ge (b := 12) (by omega) (by decide)) (yc_closed W S (by omega) (fun hc => br_f (by decide) (nm_e (nm_r (nI_1 k) ?_))) (fun hc => br_t rfl (nm_r (nI_1 k) ?_)))
    · rw [if_pos hc] at J; exact J
    · rw [if_neg (by rw [hc]; decide)] at J; exact J
theorem yr_closed (W : cf_W vs zs na nb wn) (S : cf_Y vv zz tt aa bb ww vs zs na nb wn tb) {post : Int32 → Prop} (h : post (sx_set (cf_k vs wn tb) 12)) : wpY_closed post (ln, vv, zz, tt, aa, bb, ww, yw, yu, yf, ye, ys, yn) :=
  ⟨13, yr_c4 W S h 12 0 rfl⟩
theorem yr_s4 (S : cf_Y vv zz tt aa bb ww vs zs na nb wn tb) {post : Int32 → Prop} (h : post (sx_set tb 12)) : ∀ d k, k + d = 12 → wY_switches_4 post ln vv zz tt aa bb ww yw yu yf ye ys yn (d + 1) (sx_set tb k) (nI k) := by
  intro d
  induction d with
  | zero =>
    intro k hk
    have e : k = 12 := by omega
    subst e
    exact br_t (by decide) h
  | succ d ih =>
    intro k hk
    have J := ih (k + 1) (by omega)
    rw [sx_set] at J
    rw [wY_switches_4]
    dsimp only
    rw [nI_clamp (n := k) (by omega), S.2.2.1 k (by omega)]
    refine br_f (nI_ge (b := 12) (by omega) (by decide)) ⟨vp_in_nI (by omega) (by omega), ?_⟩
    cases ht : tb k with
    | true => rw [ht] at J; exact br_f (by decide) (nm_e (nm_r (nI_1 k) J))
    | false => rw [ht] at J; exact br_t rfl (nm_r (nI_1 k) J)
theorem yr_switches (S : cf_Y vv zz tt aa bb ww vs zs na nb wn tb) {post : Int32 → Prop} (h : post (sx_set tb 12)) : wpY_switches post (ln, vv, zz, tt, aa, bb, ww, yw, yu, yf, ye, ys, yn) :=
  ⟨13, yr_s4 S h 12 0 rfl⟩
def yr_A (c : Nat → Bool) (na nb st : Nat → Nat) (j p q : Nat) : Prop := p = j / 11 ∧ q = j % 11 ∧ ne_T c na nb st 0 p q
theorem yr_E {c : Nat → Bool} {na nb : Nat → Nat} {p q : Nat} : 0 < ne_B c na nb (cf_s wn) p q ↔ ne_E c na nb (cf_s wn) 0 p q := by
  rw [show (0 < ne_B c na nb (cf_s wn) p q) = (1 ≤ ne_B c na nb (cf_s wn) p q) from rfl, ne_B_iff (Nat.le_refl _)]
  constructor
  · rintro ⟨k, h1, h2, _, h4⟩; exact ⟨k, h1, h2, Nat.zero_le _, h4⟩
  · rintro ⟨k, h1, h2, _, h4⟩; exact ⟨k, h1, h2, cf_s_1 wn k h1, h4⟩
theorem yr_E11 (W : cf_W vs zs na nb wn) {c : Nat → Bool} {st : Nat → Nat} {x p q : Nat} (h : ne_E c na nb st x p q) : p < 11 ∧ q < 11 := by
  obtain ⟨k, h1, _, _, h4⟩ := h
  have := W.2.2.2.2.2.2 k h1
  rcases h4 with h4 | h4 <;> omega
theorem yr_TA (W : cf_W vs zs na nb wn) (p q : Nat) (h : ne_T (cf_k vs wn tb) na nb (cf_s wn) 0 p q) : ∃ j, j < 121 ∧ yr_A (cf_k vs wn tb) na nb (cf_s wn) j p q := by
  have a := yr_E11 W h.2.2
  exact ⟨p * 11 + q, by omega, by omega, by omega, h⟩
theorem yr_25 (W : cf_W vs zs na nb wn) (S : cf_Y vv zz tt aa bb ww vs zs na nb wn tb) {m0 r : Nat} {post : Int32 → Prop} {J : Int32 → Int32 → Prop} (hJ : ∀ x, (∀ n, gl_L (fun n => n = m0) (ne_T (cf_k vs wn tb) na nb (cf_s wn) 0) (r + 1) n → bt x n = true) → (∀ n, bt x n = true → ne_H (cf_k vs wn tb) na nb (cf_s wn) m0 n) → J x (nI (r + 1))) :
    ∀ d c x, c + d = 121 → gr_I (gl_L (fun n => n = m0) (ne_T (cf_k vs wn tb) na nb (cf_s wn) 0) r) (fun n => bt x n = true) (ne_H (cf_k vs wn tb) na nb (cf_s wn) m0) (yr_A (cf_k vs wn tb) na nb (cf_s wn)) c → wY_reach_25 post J (nI r) ln vv zz tt aa bb ww yw yu yf ye ys yn (d + 1) x (nI c) := by
  intro d
  induction d with
  | zero =>
    intro c x hc hI
    have e : c = 121 := by omega
    subst e
    exact br_t (by decide) (nm_r (nI_1 r) (hJ x (gr_e (yr_TA W) hI) hI.2.1))
  | succ d ih =>
    intro c x hc hI
    have ed : nI c / 11 = nI (c / 11) := pk_div (d := 11) (by omega) (by decide) (by decide)
    have er : nI c - nI c / 11 * 11 = nI (c % 11) := pk_rem (d := 11) (by omega) (by decide) (by decide)
    have hp : c / 11 < 11 := by omega
    have hq : c % 11 < 11 := by omega
    have same : ¬ (bt x (c / 11) = true ∧ ne_T (cf_k vs wn tb) na nb (cf_s wn) 0 (c / 11) (c % 11)) → wY_reach_79 post J (wY_reach_25 post J (nI r) ln vv zz tt aa bb ww yw yu yf ye ys yn (d + 1)) x (nI r) (nI c) 0 ln vv zz tt aa bb ww yw yu yf ye ys yn := by
      intro hn
      unfold wY_reach_79
      refine br_t rfl (nm_r (nI_1 c) (ih (c + 1) x (by omega) (gr_s hI (fun n h => h) hI.2.1 ?_)))
      rintro p q h1 ⟨e1, e2, h2⟩
      subst e1 e2
      exact absurd ⟨h1, h2⟩ hn
    rw [wY_reach_25]
    dsimp only
    unfold wY_reach_78
    rw [er, ed]
    refine br_f (nI_ge (b := 121) (by omega) (by decide)) ⟨by decide, ?_⟩
    cases hb : bt x (c / 11) with
    | false => exact br_f (sx_f (by omega) hb) (same (fun z => by rw [hb] at z; exact absurd z.1 (by decide)))
    | true =>
      refine br_t (sx_t (by omega) hb) ⟨by decide, yc_store (by omega) (fun h5 _ => br_f (by decide) ⟨by decide, by decide, yc_between W S hp hq ?_⟩) (fun h5 => br_t rfl (same (fun z => h5 ⟨z.2.1, hq⟩)))⟩
      have hb6 : ne_B (cf_k vs wn tb) na nb (cf_s wn) (c / 11) (c % 11) ≤ 6 := ne_b_le (cf_k vs wn tb) na nb (cf_s wn) _ _ (cf_s_le W) 12 (Nat.le_refl _)
      refine pk_le (ne_B (cf_k vs wn tb) na nb (cf_s wn) (c / 11) (c % 11)) 0 (fun h => same (fun z => ?_)) (fun h => ?_)
      · have := yr_E.mpr z.2.2.2
        omega
      · have hT : ne_T (cf_k vs wn tb) na nb (cf_s wn) 0 (c / 11) (c % 11) := ⟨h5, hq, yr_E.mp h⟩
        unfold wY_reach_79
        rw [er]
        refine br_f (by decide) ⟨by decide, nm_e (nm_r (nI_1 c) (ih (c + 1) _ (by omega) (gr_s hI ?_ ?_ ?_)))⟩
        · intro n hn
          show bt _ n = true
          rw [b_or, show bt x n = true from hn, Bool.true_or]
        · intro n hn
          have hn' : bt (x ||| ((1 : Int32) <<< (nI (c % 11) &&& 31))) n = true := hn
          by_cases h32 : n < 32
          · rw [b_or, sx_bit (by omega) h32, Bool.or_eq_true, decide_eq_true_eq] at hn'
            rcases hn' with a | a
            · exact hI.2.1 n a
            · subst a; exact gl_s (hI.2.1 _ hb) hT
          · rw [b_big (by omega)] at hn'
            exact absurd hn' (by decide)
        · rintro p q h1 ⟨e1, e2, h2⟩
          subst e1 e2
          show bt _ _ = true
          rw [b_or, sx_bit (by omega) (by omega), decide_eq_true rfl, Bool.or_true]
theorem yr_16 (W : cf_W vs zs na nb wn) (S : cf_Y vv zz tt aa bb ww vs zs na nb wn tb) {m0 : Nat} (hm0 : m0 < 11) {post : Int32 → Prop} (h : post (ne_rs (cf_k vs wn tb) na nb (cf_s wn) m0)) : ∀ d r x, r + d = 11 → (∀ n, gl_L (fun n => n = m0) (ne_T (cf_k vs wn tb) na nb (cf_s wn) 0) r n → bt x n = true) → (∀ n, bt x n = true → ne_H (cf_k vs wn tb) na nb (cf_s wn) m0 n) → wY_reach_16 post ln vv zz tt aa bb ww yw yu yf ye ys yn (d + 1) x (nI r) := by
  intro d
  induction d with
  | zero =>
    intro r x hr h1 h2
    have e : r = 11 := by omega
    subst e
    have : x = ne_rs (cf_k vs wn tb) na nb (cf_s wn) m0 := by
      refine ne_rs_eq hm0 (fun i hi => ⟨h2 i, fun z => h1 i (gl_fin ?_ ?_ z)⟩)
      · intro n e; omega
      · intro p q e; exact e.2.1
    subst this
    exact br_t (by decide) h
  | succ d ih =>
    intro r x hr h1 h2
    rw [wY_reach_16]
    dsimp only
    refine br_f (nI_ge (b := 11) (by omega) (by decide)) ⟨122, yr_25 W S (m0 := m0) (fun x' h1' h2' => ih (r + 1) x' (by omega) h1' h2') 121 0 x rfl (gr_0 h1 h2)⟩
theorem yr_reach (W : cf_W vs zs na nb wn) (S : cf_Y vv zz tt aa bb ww vs zs na nb wn tb) {m0 : Nat} (hm0 : m0 < 11) {post : Int32 → Prop} (h : post (ne_rs (cf_k vs wn tb) na nb (cf_s wn) m0)) : wpY_reach post (ln, vv, zz, tt, aa, bb, ww, yw, yu, yf, ye, ys, yn) (nI m0) := by
  unfold wpY_reach
  dsimp only
  refine yc_node (by omega) (fun _ => br_f (by decide) (nm_e ⟨12, ?_⟩)) (fun z => by omega)
  refine yr_16 W S hm0 h 11 0 _ rfl ?_ ?_
  · intro n e
    have e' : n = m0 := e
    subst e'
    rw [sx_bit (by omega) (by omega), decide_eq_true rfl]
  · intro n hn
    by_cases h32 : n < 32
    · rw [sx_bit (by omega) h32, decide_eq_true_eq] at hn
      exact gl_b hn
    · rw [b_big (by omega)] at hn
      exact absurd hn (by decide)
end
