/-! ===== outcome, spread, touchesOne, shorted ===== -/
section
variable {fs fp : Int32} {ch sz ea eb kd ga sr we ro se : Nat → Int32} {vs zs na nb wn : Nat → Nat} {tb : Nat → Bool} {inp : Int32}
theorem xo_52 (W : cf_W vs zs na nb wn) {m : Nat} (hm : m < 11) {post : Int32 → Prop} {J : Int32 → Int32 → Int32 → Prop} {x1 x2 z : Int32} {o : Bool} (h : J z (oc_i (o && decide (vs m = 1))) (nI (m + 1))) : wX_outcome_52 post J x1 x2 (oc_i o) (nI m) (nI (vs m)) z fs fp ch sz ea eb kd ga sr we ro se := by
  have hv := W.2.2.2.1 m hm
  unfold wX_outcome_52
  rw [oc_e1 hv]
  cases o with
  | false => exact br_t rfl (nm_r (nI_1 m) h)
  | true =>
    refine br_f (by decide) (br_c (fun e => nm_r (nI_1 m) ?_) (fun e => nm_r (nI_1 m) ?_))
    · rw [decide_eq_true e] at h; exact h
    · rw [decide_eq_false e] at h; exact h
theorem xo_8 (W : cf_W vs zs na nb wn) (S : cf_X inp fp ch sz ea eb kd ga sr vs zs na nb wn tb) {n : Nat} (hn : n < 11) {post : Int32 → Prop} (h : post (nI (oc_v (ro n) vs))) : ∀ d m, m + d = 11 → wX_outcome_8 post (nI n) inp fs fp ch sz ea eb kd ga sr we ro se (d + 1) (oc_i (oc_a 0 (ro n) vs m)) (oc_i (oc_a 1 (ro n) vs m)) (nI m) := by
  intro d
  induction d with
  | zero =>
    intro m hm
    have e : m = 11 := by omega
    subst e
    exact br_t (by decide) (oc_end h)
  | succ d ih =>
    intro m hm
    have hm' : m < 11 := by omega
    have hv := W.2.2.2.1 m hm'
    have J := ih (m + 1) (by omega)
    rw [wX_outcome_8]
    dsimp only
    rw [nI_clamp (n := n) (by omega)]
    refine br_f (nI_ge (b := 11) hm' (by decide)) ⟨vp_in_nI hn (by omega), xc_bit (by omega) (fun hb => br_f (by decide) (xc_value W S hm' ?_)) (fun hb => br_t rfl (nm_r (nI_1 m) ?_))⟩
    · rw [oc_aY hb, oc_aY hb] at J
      unfold wX_outcome_51
      rw [oc_e0 hv]
      cases hz : oc_a 0 (ro n) vs m with
      | false =>
        rw [hz] at J
        exact br_t rfl (xo_52 W hm' J)
      | true =>
        rw [hz] at J
        refine br_f (by decide) (br_c (fun e => xo_52 W hm' ?_) (fun e => xo_52 W hm' ?_))
        · rw [decide_eq_true e] at J; exact J
        · rw [decide_eq_false e] at J; exact J
    · rw [oc_aN hb, oc_aN hb] at J
      exact J
theorem xo_outcome (W : cf_W vs zs na nb wn) (S : cf_X inp fp ch sz ea eb kd ga sr vs zs na nb wn tb) {n : Nat} (hn : n < 11) {post : Int32 → Prop} (h : post (nI (oc_v (ro n) vs))) : wpX_outcome post (fs, fp, ch, sz, ea, eb, kd, ga, sr, we, ro, se) (nI n) inp :=
  ⟨12, xo_8 W S hn h 11 0 rfl⟩
def xs_A (x : Int32) (p q : Nat) (x' : Int32) : Prop := ∀ n, bt x' n = true ↔ bt x n = true ∨ (n = q ∧ 5 ≤ q ∧ q < 11 ∧ bt x p = true)
theorem xs_or {x : Int32} {p q : Nat} (h5 : 5 ≤ q) (h11 : q < 11) (hb : bt x p = true) : xs_A x p q (x ||| ((1 : Int32) <<< (nI q &&& 31))) := by
  intro n
  by_cases h32 : n < 32
  · rw [b_or, sx_bit (by omega) h32, Bool.or_eq_true, decide_eq_true_eq]
    exact ⟨fun z => z.elim Or.inl (fun e => Or.inr ⟨e, h5, h11, hb⟩), fun z => z.elim Or.inl (fun e => Or.inr e.1)⟩
  · rw [b_big (by omega), b_big (by omega)]
    exact ⟨fun z => absurd z (by decide), fun z => z.elim (fun z => absurd z (by decide)) (fun e => by omega)⟩
theorem xs_no {x : Int32} {p q : Nat} (h : ¬ (5 ≤ q ∧ q < 11 ∧ bt x p = true)) : xs_A x p q x :=
  fun _ => ⟨Or.inl, fun z => z.elim (fun z => z) (fun e => absurd ⟨e.2.1, e.2.2.1, e.2.2.2⟩ h)⟩
theorem xs_72 (W : cf_W vs zs na nb wn) (S : cf_X inp fp ch sz ea eb kd ga sr vs zs na nb wn tb) {k : Nat} (hk : k < 12) {post : Int32 → Prop} {J7 J : Int32 → Int32 → Prop} {x2 x x4 : Int32} (hJ : ∀ x', xs_A x (nb k) (na k) x' → J x' (nI (k + 1))) : wX_spread_72 post J7 J x2 x x4 (nI k) fs fp ch sz ea eb kd ga sr we ro se := by
  have hi : vp_in (nI k) 12 := vp_in_nI hk (by omega)
  obtain ⟨e1, e2⟩ := S.2.2.2.2.1 k hk
  obtain ⟨ha, hb, _⟩ := W.2.2.2.2.2.2 k hk
  unfold wX_spread_72
  rw [nI_clamp (n := k) (by omega), e1, e2]
  refine ⟨hi, xc_bit (by omega) (fun h1 => br_f (by decide) ⟨hi, xc_store (by omega) (fun h5 h11 => br_f (by decide) ⟨hi, nm_e (nm_r (nI_1 k) (hJ _ (xs_or h5 h11 h1)))⟩) (fun h5 => br_t rfl (nm_r (nI_1 k) (hJ _ (xs_no (fun z => h5 ⟨z.1, z.2.1⟩)))))⟩) (fun h1 => br_t rfl (nm_r (nI_1 k) (hJ _ (xs_no (fun z => ?_)))))⟩
  rw [h1] at z
  exact absurd z.2.2 (by decide)
theorem xs_17 (W : cf_W vs zs na nb wn) (S : cf_X inp fp ch sz ea eb kd ga sr vs zs na nb wn tb) {m0 r : Nat} {post : Int32 → Prop} {J : Int32 → Int32 → Prop} (hJ : ∀ x, (∀ n, gl_L (fun n => n = m0) (ne_T (cf_k vs wn tb) na nb (cf_s wn) 0) (r + 1) n → bt x n = true) → (∀ n, bt x n = true → ne_H (cf_k vs wn tb) na nb (cf_s wn) m0 n) → J x (nI (r + 1))) :
    ∀ d k x, k + d = 12 → gr_I (gl_L (fun n => n = m0) (ne_T (cf_k vs wn tb) na nb (cf_s wn) 0) r) (fun n => bt x n = true) (ne_H (cf_k vs wn tb) na nb (cf_s wn) m0) (ne_A (cf_k vs wn tb) na nb (cf_s wn) 0) k → wX_spread_17 post J (sx_set (cf_k vs wn tb) 12) (nI r) fs fp ch sz ea eb kd ga sr we ro se (d + 1) x (nI k) := by
  intro d
  induction d with
  | zero =>
    intro k x hk hI
    have e : k = 12 := by omega
    subst e
    exact br_t (by decide) (nm_r (nI_1 r) (hJ x (gr_e (fun p q h => ne_TA h) hI) hI.2.1))
  | succ d ih =>
    intro k x hk hI
    have hk' : k < 12 := by omega
    have hi : vp_in (nI k) 12 := vp_in_nI hk' (by omega)
    obtain ⟨e1, e2⟩ := S.2.2.2.2.1 k hk'
    obtain ⟨ha, hb, _⟩ := W.2.2.2.2.2.2 k hk'
    rw [wX_spread_17]
    dsimp only
    rw [nI_clamp (n := k) (by omega), e1, e2]
    refine br_f (nI_ge (b := 12) hk' (by decide)) (xc_bit (by omega) (fun hc => br_f (by decide) ⟨hi, ?_⟩) (fun hc => br_t rfl (nm_r (nI_1 k) (ih (k + 1) x (by omega) (gr_s hI (fun n h => h) hI.2.1 ?_)))))
    · rw [xc_shut hk'] at hc
      have go : ∀ x1, xs_A x (na k) (nb k) x1 → wX_spread_72 post J (wX_spread_17 post J (sx_set (cf_k vs wn tb) 12) (nI r) fs fp ch sz ea eb kd ga sr we ro se (d + 1)) (sx_set (cf_k vs wn tb) 12) x1 (nI r) (nI k) fs fp ch sz ea eb kd ga sr we ro se := by
        intro x1 h1
        refine xs_72 W S hk' ?_
        intro x2 h2
        refine ih (k + 1) x2 (by omega) ?_
        have s1 : ∀ n, bt x1 n = true → ne_H (cf_k vs wn tb) na nb (cf_s wn) m0 n := by
          intro n hn
          rcases (h1 n).mp hn with a | ⟨e, h5, h11, a⟩
          · exact hI.2.1 n a
          · subst e
            exact gl_s (hI.2.1 _ a) ⟨h5, h11, k, hk', hc, Nat.zero_le _, Or.inl ⟨rfl, rfl⟩⟩
        refine gr_s hI ?_ ?_ ?_
        · intro n hn
          exact (h2 n).mpr (Or.inl ((h1 n).mpr (Or.inl hn)))
        · intro n hn
          rcases (h2 n).mp hn with a | ⟨e, h5, h11, a⟩
          · exact s1 n a
          · subst e
            exact gl_s (s1 _ a) ⟨h5, h11, k, hk', hc, Nat.zero_le _, Or.inr ⟨rfl, rfl⟩⟩
        · rintro p q hp ⟨h5, h11, _, _, on⟩
          rcases on with ⟨ep, eq⟩ | ⟨eq, ep⟩
          · subst ep eq
            exact (h2 _).mpr (Or.inl ((h1 _).mpr (Or.inr ⟨rfl, h5, h11, hp⟩)))
          · subst ep eq
            exact (h2 _).mpr (Or.inr ⟨rfl, h5, h11, (h1 _).mpr (Or.inl hp)⟩)
      refine xc_bit (by omega) (fun h1 => br_f (by decide) ⟨hi, xc_store (by omega) (fun h5 h11 => br_f (by decide) ⟨hi, nm_e (go _ (xs_or h5 h11 h1))⟩) (fun h5 => br_t rfl (go _ (xs_no (fun z => h5 ⟨z.1, z.2.1⟩))))⟩) (fun h1 => br_t rfl (go _ (xs_no (fun z => ?_))))
      rw [h1] at z
      exact absurd z.2.2 (by decide)
    · rw [xc_shut hk'] at hc
      rintro p q _ ⟨_, _, h3, _⟩
      rw [hc] at h3
      exact absurd h3 (by decide)
theorem xs_7 (W : cf_W vs zs na nb wn) (S : cf_X inp fp ch sz ea eb kd ga sr vs zs na nb wn tb) {m0 : Nat} (hm0 : m0 < 11) {post : Int32 → Prop} (h : post (ne_rs (cf_k vs wn tb) na nb (cf_s wn) m0)) : ∀ d r x, r + d = 11 → (∀ n, gl_L (fun n => n = m0) (ne_T (cf_k vs wn tb) na nb (cf_s wn) 0) r n → bt x n = true) → (∀ n, bt x n = true → ne_H (cf_k vs wn tb) na nb (cf_s wn) m0 n) → wX_spread_7 post (sx_set (cf_k vs wn tb) 12) fs fp ch sz ea eb kd ga sr we ro se (d + 1) x (nI r) := by
  intro d
  induction d with
  | zero =>
    intro r x hr h1 h2
    have e : r = 11 := by omega
    subst e
    have : x = ne_rs (cf_k vs wn tb) na nb (cf_s wn) m0 := by
      refine ne_rs_eq hm0 (fun i hi => ⟨h2 i, fun z => h1 i (gl_fin ?_ ?_ z)⟩)
      · intro n e; omega
      · intro p q e; exact e.2.1
    subst this
    exact br_t (by decide) h
  | succ d ih =>
    intro r x hr h1 h2
    rw [wX_spread_7]
    dsimp only
    refine br_f (nI_ge (b := 11) (by omega) (by decide)) ⟨13, xs_17 W S (m0 := m0) (fun x' h1' h2' => ih (r + 1) x' (by omega) h1' h2') 12 0 x rfl (gr_0 h1 h2)⟩
theorem xs_spread (W : cf_W vs zs na nb wn) (S : cf_X inp fp ch sz ea eb kd ga sr vs zs na nb wn tb) {m0 : Nat} (hm0 : m0 < 11) {post : Int32 → Prop} (h : post (ne_rs (cf_k vs wn tb) na nb (cf_s wn) m0)) : wpX_spread post (fs, fp, ch, sz, ea, eb, kd, ga, sr, we, ro, se) (nI m0) (sx_set (cf_k vs wn tb) 12) := by
  unfold wpX_spread
  dsimp only
  refine nm_e ⟨12, xs_7 W S hm0 h 11 0 _ rfl ?_ ?_⟩
  · intro n e
    have e' : n = m0 := e
    subst e'
    rw [sx_bit (by omega) (by omega), decide_eq_true rfl]
  · intro n hn
    by_cases h32 : n < 32
    · rw [sx_bit (by omega) h32, decide_eq_true_eq] at hn
      exact gl_b hn
    · rw [b_big (by omega)] at hn
      exact absurd hn (by decide)
/-! shorted -/
def sh_P (vs na nb wn : Nat → Nat) (tb : Nat → Bool) (n : Nat) : Prop := vs n = 0 ∧ ∃ p q, ne_H (cf_k vs wn tb) na nb (cf_s wn) n p ∧ q < 5 ∧ vs q = 1 ∧ ne_E (cf_k vs wn tb) na nb (cf_s wn) 0 p q
def sh_t (vs na nb wn : Nat → Nat) (tb : Nat → Bool) (R : Int32) (k : Nat) : Prop := cf_k vs wn tb k = true ∧ ((bt R (na k) = true ∧ nb k < 5 ∧ vs (nb k) = 1) ∨ (bt R (nb k) = true ∧ na k < 5 ∧ vs (na k) = 1))
theorem sh_tP (W : cf_W vs zs na nb wn) {n : Nat} (hn : n < 11) (h0 : vs n = 0) : (∃ k, k < 12 ∧ sh_t vs na nb wn tb (ne_rs (cf_k vs wn tb) na nb (cf_s wn) n) k) ↔ sh_P vs na nb wn tb n := by
  constructor
  · rintro ⟨k, hk, hc, ⟨a, b, c⟩ | ⟨a, b, c⟩⟩
    · obtain ⟨ha, hb, _⟩ := W.2.2.2.2.2.2 k hk
      exact ⟨h0, na k, nb k, (ne_rs_bt hn (by omega)).mp a, b, c, k, hk, hc, Nat.zero_le _, Or.inl ⟨rfl, rfl⟩⟩
    · obtain ⟨ha, hb, _⟩ := W.2.2.2.2.2.2 k hk
      exact ⟨h0, nb k, na k, (ne_rs_bt hn (by omega)).mp a, b, c, k, hk, hc, Nat.zero_le _, Or.inr ⟨rfl, rfl⟩⟩
  · rintro ⟨_, p, q, hp, hq, hv, k, hk, hc, _, on⟩
    obtain ⟨ha, hb, _⟩ := W.2.2.2.2.2.2 k hk
    refine ⟨k, hk, hc, ?_⟩
    rcases on with ⟨e1, e2⟩ | ⟨e1, e2⟩
    · subst e1 e2
      exact Or.inl ⟨(ne_rs_bt hn (by omega)).mpr hp, hq, hv⟩
    · subst e1 e2
      exact Or.inr ⟨(ne_rs_bt hn (by omega)).mpr hp, hq, hv⟩
theorem xs_inOne (W : cf_W vs zs na nb wn) (S : cf_X fs fp ch sz ea eb kd ga sr vs zs na nb wn tb) {q : Nat} (hq : q < 11) {post : Int32 → Prop} (h1 : q < 5 → vs q = 1 → post 1) (h0 : ¬ (q < 5 ∧ vs q = 1) → post 0) : wpX_isInputAtOne post (fs, fp, ch, sz, ea, eb, kd, ga, sr, we, ro, se) (nI q) := by
  have hv := W.2.2.2.1 q hq
  unfold wpX_isInputAtOne
  dsimp only
  refine pk_le 5 q (fun h => h0 (by omega)) (fun h => xc_value W S hq ?_)
  exact pk_eq (vs q) 1 (fun e => h1 h e) (fun e => h0 (fun z => e z.2))
theorem xs_44 (W : cf_W vs zs na nb wn) (S : cf_X fs fp ch sz ea eb kd ga sr vs zs na nb wn tb) {R x2 : Int32} {k : Nat} (hk : k < 12) {post J : Int32 → Prop} (h1 : bt R (nb k) = true → na k < 5 → vs (na k) = 1 → post 1) (h0 : ¬ (bt R (nb k) = true ∧ na k < 5 ∧ vs (na k) = 1) → J (nI (k + 1))) : wX_touchesOne_44 post J R x2 (nI k) fs fp ch sz ea eb kd ga sr we ro se := by
  have hi : vp_in (nI k) 12 := vp_in_nI hk (by omega)
  obtain ⟨e1, e2⟩ := S.2.2.2.2.1 k hk
  obtain ⟨ha, hb, _⟩ := W.2.2.2.2.2.2 k hk
  unfold wX_touchesOne_44
  rw [nI_clamp (n := k) (by omega), e1, e2]
  refine ⟨hi, xc_bit (by omega) (fun b1 => br_f (by decide) ⟨hi, xs_inOne W S ha (fun a b => br_f (by decide) (h1 b1 a b)) (fun z => br_t rfl (nm_r (nI_1 k) (h0 (fun y => z y.2))))⟩) (fun b1 => br_t rfl (nm_r (nI_1 k) (h0 (fun y => ?_))))⟩
  rw [b1] at y
  exact absurd y.1 (by decide)
theorem xs_t2 (W : cf_W vs zs na nb wn) (S : cf_X fs fp ch sz ea eb kd ga sr vs zs na nb wn tb) {R : Int32} {post : Int32 → Prop} (h1 : (∃ k, k < 12 ∧ sh_t vs na nb wn tb R k) → post 1) (h0 : ¬ (∃ k, k < 12 ∧ sh_t vs na nb wn tb R k) → post 0) : ∀ d k, k + d = 12 → (∀ j, j < k → ¬ sh_t vs na nb wn tb R j) → wX_touchesOne_2 post R (sx_set (cf_k vs wn tb) 12) fs fp ch sz ea eb kd ga sr we ro se (d + 1) (nI k) := by
  intro d
  induction d with
  | zero =>
    intro k hk hn
    have e : k = 12 := by omega
    subst e
    exact br_t (by decide) (h0 (fun ⟨j, hj, z⟩ => hn j hj z))
  | succ d ih =>
    intro k hk hn
    have hk' : k < 12 := by omega
    have hi : vp_in (nI k) 12 := vp_in_nI hk' (by omega)
    obtain ⟨e1, e2⟩ := S.2.2.2.2.1 k hk'
    obtain ⟨ha, hb, _⟩ := W.2.2.2.2.2.2 k hk'
    have next : ¬ sh_t vs na nb wn tb R k → wX_touchesOne_2 post R (sx_set (cf_k vs wn tb) 12) fs fp ch sz ea eb kd ga sr we ro se (d + 1) (nI (k + 1)) := by
      intro z
      refine ih (k + 1) (by omega) ?_
      intro j hj
      by_cases c : j = k
      · subst c; exact z
      · exact hn j (by omega)
    rw [wX_touchesOne_2]
    dsimp only
    rw [nI_clamp (n := k) (by omega), e1, e2]
    refine br_f (nI_ge (b := 12) hk' (by decide)) (xc_bit (by omega) (fun hc => br_f (by decide) ⟨hi, ?_⟩) (fun hc => br_t rfl (nm_r (nI_1 k) (next (fun z => ?_)))))
    · rw [xc_shut hk'] at hc
      have go : ¬ (bt R (na k) = true ∧ nb k < 5 ∧ vs (nb k) = 1) → wX_touchesOne_44 post (wX_touchesOne_2 post R (sx_set (cf_k vs wn tb) 12) fs fp ch sz ea eb kd ga sr we ro se (d + 1)) R (sx_set (cf_k vs wn tb) 12) (nI k) fs fp ch sz ea eb kd ga sr we ro se := by
        intro z
        refine xs_44 W S hk' (fun a b c => h1 ⟨k, hk', hc, Or.inr ⟨a, b, c⟩⟩) (fun y => next ?_)
        rintro ⟨_, q | q⟩
        · exact z q
        · exact y q
      refine xc_bit (by omega) (fun b1 => br_f (by decide) ⟨hi, xs_inOne W S hb (fun a b => br_f (by decide) (h1 ⟨k, hk', hc, Or.inl ⟨b1, a, b⟩⟩)) (fun z => br_t rfl (go (fun y => z y.2)))⟩) (fun b1 => br_t rfl (go (fun y => ?_)))
      rw [b1] at y
      exact absurd y.1 (by decide)
    · rw [xc_shut hk'] at hc
      have zc := z.1
      rw [hc] at zc
      exact absurd zc (by decide)
theorem xs_11 (W : cf_W vs zs na nb wn) (S : cf_X fs fp ch sz ea eb kd ga sr vs zs na nb wn tb) {post : Int32 → Prop} (h1 : (∃ n, n < 5 ∧ sh_P vs na nb wn tb n) → post 1) (h0 : ¬ (∃ n, n < 5 ∧ sh_P vs na nb wn tb n) → post 0) : ∀ d k, k + d = 5 → (∀ j, j < k → ¬ sh_P vs na nb wn tb j) → wX_shorted_11 post (sx_set (cf_k vs wn tb) 12) fs fp ch sz ea eb kd ga sr we ro se (d + 1) (nI k) := by
  intro d
  induction d with
  | zero =>
    intro k hk hn
    have e : k = 5 := by omega
    subst e
    exact br_t (by decide) (h0 (fun ⟨j, hj, z⟩ => hn j hj z))
  | succ d ih =>
    intro k hk hn
    have hk' : k < 5 := by omega
    have hv := W.2.2.2.1 k (by omega)
    have next : ¬ sh_P vs na nb wn tb k → wX_shorted_11 post (sx_set (cf_k vs wn tb) 12) fs fp ch sz ea eb kd ga sr we ro se (d + 1) (nI (k + 1)) := by
      intro z
      refine ih (k + 1) (by omega) ?_
      intro j hj
      by_cases c : j = k
      · subst c; exact z
      · exact hn j (by omega)
    rw [wX_shorted_11]
    dsimp only
    refine br_f (nI_ge (b := 5) hk' (by decide)) (xc_value W S (by omega) (pk_eq (vs k) 0 (fun e => ?_) (fun e => nm_r (nI_1 k) (next (fun z => e z.1)))))
    refine xs_spread W S (by omega) ⟨13, xs_t2 W S (fun z => br_f (by decide) (h1 ⟨k, hk', (sh_tP W (by omega) e).mp z⟩)) (fun z => br_t rfl (nm_r (nI_1 k) (next (fun y => z ((sh_tP W (by omega) e).mpr y))))) 12 0 rfl (fun j hj => by omega)⟩
theorem xs_shorted (W : cf_W vs zs na nb wn) (S : cf_X fs fp ch sz ea eb kd ga sr vs zs na nb wn tb) {post : Int32 → Prop} (h1 : (∃ n, n < 5 ∧ sh_P vs na nb wn tb n) → post 1) (h0 : ¬ (∃ n, n < 5 ∧ sh_P vs na nb wn tb n) → post 0) : wpX_shorted post (fs, fp, ch, sz, ea, eb, kd, ga, sr, we, ro, se) := by
  unfold wpX_shorted
  dsimp only
  exact xc_closed W S ⟨6, xs_11 W S h1 h0 5 0 rfl (fun j hj => by omega)⟩
end
section
variable {ln : Int32} {vv zz tt aa bb ww yw yu yf ye ys yn : Nat → Int32} {vs zs na nb wn : Nat → Nat} {tb : Nat → Bool}
theorem ys_m32 : ∀ i, i < 32 → bt (-32) i = decide (5 ≤ i) := by decide +kernel
theorem ys_mask {n : Nat} (hn : n < 5) {i : Nat} (hi : i < 32) : bt ((ne_rs (cf_k vs wn tb) na nb (cf_s wn) n &&& (-32)) ||| ((1 : Int32) <<< (nI n &&& 31))) i = true ↔ ne_H (cf_k vs wn tb) na nb (cf_s wn) n i := by
  rw [b_or, b_and, ys_m32 i hi, sx_bit (by omega) hi, Bool.or_eq_true, Bool.and_eq_true, decide_eq_true_eq, decide_eq_true_eq, ne_rs_bt (by omega) hi]
  constructor
  · rintro (a | a)
    · exact a.1
    · subst a; exact gl_b rfl
  · intro h
    rcases ne_H_in h with a | a
    · exact Or.inr a
    · exact Or.inl ⟨h, a.1⟩
def sh_m (vs na nb wn : Nat → Nat) (tb : Nat → Bool) (n m : Nat) : Prop := vs n = 0 ∧ ne_H (cf_k vs wn tb) na nb (cf_s wn) n (m / 5) ∧ vs (m % 5) = 1 ∧ ne_E (cf_k vs wn tb) na nb (cf_s wn) 0 (m / 5) (m % 5)
theorem sh_mP (W : cf_W vs zs na nb wn) {n : Nat} : (∃ m, m < 55 ∧ sh_m vs na nb wn tb n m) ↔ sh_P vs na nb wn tb n := by
  constructor
  · rintro ⟨m, _, a, b, c, d⟩
    exact ⟨a, m / 5, m % 5, b, by omega, c, d⟩
  · rintro ⟨a, p, q, b, c, d, e⟩
    have h11 := yr_E11 W e
    have e1 : (p * 5 + q) / 5 = p := by omega
    have e2 : (p * 5 + q) % 5 = q := by omega
    refine ⟨p * 5 + q, by omega, a, ?_, ?_, ?_⟩
    · rw [e1]; exact b
    · rw [e2]; exact d
    · rw [e1, e2]; exact e
def sh_f (P : Prop) (x : Int32) : Prop := (P ∧ x = 1) ∨ (¬ P ∧ x = 0)
theorem sh_59 (W : cf_W vs zs na nb wn) (S : cf_Y vv zz tt aa bb ww vs zs na nb wn tb) {n m : Nat} (hn : n < 5) (hm : m < 55) {P : Prop} {x1 z x2 : Int32} (hf : sh_f P x1) (hz : sh_f (vs n = 0 ∧ vs (m % 5) = 1) z) {post : Int32 → Prop} {J4 J : Int32 → Int32 → Prop} (hJ : ∀ x, sh_f (P ∨ sh_m vs na nb wn tb n m) x → J x (nI (m + 1))) : wY_shorted_59 post J4 J x1 x2 ((ne_rs (cf_k vs wn tb) na nb (cf_s wn) n &&& (-32)) ||| ((1 : Int32) <<< (nI n &&& 31))) (nI m) z ln vv zz tt aa bb ww yw yu yf ye ys yn := by
  have ed : nI m / 5 = nI (m / 5) := pk_div (d := 5) (by omega) (by decide) (by decide)
  have er : nI m - nI m / 5 * 5 = nI (m % 5) := pk_rem (d := 5) (by omega) (by decide) (by decide)
  unfold wY_shorted_59
  rw [er, ed]
  rcases hf with ⟨hP, e⟩ | ⟨hP, e⟩
  · subst e
    exact br_f (by decide) (nm_r (nI_1 m) (hJ 1 (Or.inl ⟨Or.inl hP, rfl⟩)))
  · subst e
    have no : ¬ sh_m vs na nb wn tb n m → J 0 (nI (m + 1)) := fun z => hJ 0 (Or.inr ⟨fun y => y.elim hP z, rfl⟩)
    refine br_t rfl ?_
    rcases hz with ⟨hv, e⟩ | ⟨hv, e⟩
    · subst e
      refine br_f (by decide) ⟨by decide, ?_⟩
      cases hb : bt ((ne_rs (cf_k vs wn tb) na nb (cf_s wn) n &&& (-32)) ||| ((1 : Int32) <<< (nI n &&& 31))) (m / 5) with
      | true =>
        have hH := (ys_mask hn (by omega)).mp hb
        have hb6 : ne_B (cf_k vs wn tb) na nb (cf_s wn) (m / 5) (m % 5) ≤ 6 := ne_b_le (cf_k vs wn tb) na nb (cf_s wn) _ _ (cf_s_le W) 12 (Nat.le_refl _)
        refine br_t (sx_t (by omega) hb) ⟨by decide, by decide, yc_between W S (by omega) (by omega) (pk_le (ne_B (cf_k vs wn tb) na nb (cf_s wn) (m / 5) (m % 5)) 0 (fun h => nm_r (nI_1 m) (no ?_)) (fun h => nm_r (nI_1 m) (hJ 1 (Or.inl ⟨Or.inr ⟨hv.1, hH, hv.2, yr_E.mp h⟩, rfl⟩))))⟩
        intro y
        have := yr_E.mpr y.2.2.2
        omega
      | false =>
        refine br_f (sx_f (by omega) hb) (nm_r (nI_1 m) (no ?_))
        intro y
        have := (ys_mask hn (by omega)).mpr y.2.1
        rw [hb] at this
        exact absurd this (by decide)
    · subst e
      exact br_t rfl (nm_r (nI_1 m) (no (fun y => hv ⟨y.1, y.2.2.1⟩)))
theorem sh_25 (W : cf_W vs zs na nb wn) (S : cf_Y vv zz tt aa bb ww vs zs na nb wn tb) {n : Nat} (hn : n < 5) {P : Prop} {post : Int32 → Prop} {J : Int32 → Int32 → Prop} (hJ : ∀ x, sh_f (P ∨ sh_P vs na nb wn tb n) x → J x (nI (n + 1))) : ∀ d m x, m + d = 55 → sh_f (P ∨ ∃ j, j < m ∧ sh_m vs na nb wn tb n j) x → wY_shorted_25 post J (nI n) ((ne_rs (cf_k vs wn tb) na nb (cf_s wn) n &&& (-32)) ||| ((1 : Int32) <<< (nI n &&& 31))) ln vv zz tt aa bb ww yw yu yf ye ys yn (d + 1) x (nI m) := by
  intro d
  induction d with
  | zero =>
    intro m x hm hf
    have e : m = 55 := by omega
    subst e
    refine br_t (by decide) (nm_r (nI_1 n) (hJ x ?_))
    rw [sh_mP W] at hf
    exact hf
  | succ d ih =>
    intro m x hm hf
    have hm' : m < 55 := by omega
    have er : nI m - nI m / 5 * 5 = nI (m % 5) := pk_rem (d := 5) (by omega) (by decide) (by decide)
    have hv := W.2.2.2.1 n (by omega)
    have hv2 := W.2.2.2.1 (m % 5) (by omega)
    have go : ∀ z, sh_f (vs n = 0 ∧ vs (m % 5) = 1) z → wY_shorted_59 post J (wY_shorted_25 post J (nI n) ((ne_rs (cf_k vs wn tb) na nb (cf_s wn) n &&& (-32)) ||| ((1 : Int32) <<< (nI n &&& 31))) ln vv zz tt aa bb ww yw yu yf ye ys yn (d + 1)) x (nI n) ((ne_rs (cf_k vs wn tb) na nb (cf_s wn) n &&& (-32)) ||| ((1 : Int32) <<< (nI n &&& 31))) (nI m) z ln vv zz tt aa bb ww yw yu yf ye ys yn := by
      intro z hz
      refine sh_59 W S hn hm' hf hz ?_
      intro x' hx'
      refine ih (m + 1) x' (by omega) ?_
      have e : ((P ∨ ∃ j, j < m ∧ sh_m vs na nb wn tb n j) ∨ sh_m vs na nb wn tb n m) ↔ (P ∨ ∃ j, j < m + 1 ∧ sh_m vs na nb wn tb n j) := by
        constructor
        · rintro ((a | ⟨j, hj, a⟩) | a)
          · exact Or.inl a
          · exact Or.inr ⟨j, by omega, a⟩
          · exact Or.inr ⟨m, by omega, a⟩
        · rintro (a | ⟨j, hj, a⟩)
          · exact Or.inl (Or.inl a)
          · by_cases c : j = m
            · subst c; exact Or.inr a
            · exact Or.inl (Or.inr ⟨j, by omega, a⟩)
      unfold sh_f at hx' ⊢
      rw [← e]
      exact hx'
    rw [wY_shorted_25]
    dsimp only
    unfold wY_shorted_58
    rw [er, nI_clamp (n := n) (by omega), nI_clamp (n := m % 5) (by omega), S.1 n (by omega), S.1 (m % 5) (by omega)]
    refine br_f (nI_ge (b := 55) hm' (by decide)) ⟨vp_in_nI (by omega) (by omega), pk_eq (vs n) 0 (fun e => ⟨by decide, vp_in_nI (by omega) (by omega), pk_eq (vs (m % 5)) 1 (fun e' => go 1 (Or.inl ⟨⟨e, e'⟩, rfl⟩)) (fun e' => go 0 (Or.inr ⟨fun y => e' y.2, rfl⟩))⟩) (fun e => go 0 (Or.inr ⟨fun y => e y.1, rfl⟩))⟩
theorem sh_4 (W : cf_W vs zs na nb wn) (S : cf_Y vv zz tt aa bb ww vs zs na nb wn tb) {post : Int32 → Prop} (h1 : (∃ n, n < 5 ∧ sh_P vs na nb wn tb n) → post 1) (h0 : ¬ (∃ n, n < 5 ∧ sh_P vs na nb wn tb n) → post 0) : ∀ d k x, k + d = 5 → sh_f (∃ n, n < k ∧ sh_P vs na nb wn tb n) x → wY_shorted_4 post ln vv zz tt aa bb ww yw yu yf ye ys yn (d + 1) x (nI k) := by
  intro d
  induction d with
  | zero =>
    intro k x hk hf
    have e : k = 5 := by omega
    subst e
    refine br_t (by decide) ?_
    rcases hf with ⟨hP, e⟩ | ⟨hP, e⟩
    · subst e; exact ⟨cf_n1, h1 hP⟩
    · subst e; exact ⟨cf_n0, h0 hP⟩
  | succ d ih =>
    intro k x hk hf
    have hk' : k < 5 := by omega
    rw [wY_shorted_4]
    dsimp only
    refine br_f (nI_ge (b := 5) hk' (by decide)) (yr_reach W S (by omega) (nm_e ⟨56, sh_25 W S hk' (P := ∃ n, n < k ∧ sh_P vs na nb wn tb n) ?_ 55 0 x rfl ?_⟩))
    · intro x' hx'
      refine ih (k + 1) x' (by omega) ?_
      have e : ((∃ n, n < k ∧ sh_P vs na nb wn tb n) ∨ sh_P vs na nb wn tb k) ↔ ∃ n, n < k + 1 ∧ sh_P vs na nb wn tb n := by
        constructor
        · rintro (⟨j, hj, a⟩ | a)
          · exact ⟨j, by omega, a⟩
          · exact ⟨k, by omega, a⟩
        · rintro ⟨j, hj, a⟩
          by_cases c : j = k
          · subst c; exact Or.inr a
          · exact Or.inl ⟨j, by omega, a⟩
      unfold sh_f at hx' ⊢
      rw [← e]
      exact hx'
    · have e : ((∃ n, n < k ∧ sh_P vs na nb wn tb n) ∨ ∃ j, j < 0 ∧ sh_m vs na nb wn tb k j) ↔ ∃ n, n < k ∧ sh_P vs na nb wn tb n :=
        ⟨fun z => z.elim (fun z => z) (fun ⟨j, hj, _⟩ => by omega), Or.inl⟩
      unfold sh_f at hf ⊢
      rw [e]
      exact hf
theorem sh_shorted (W : cf_W vs zs na nb wn) (S : cf_Y vv zz tt aa bb ww vs zs na nb wn tb) {post : Int32 → Prop} (h1 : (∃ n, n < 5 ∧ sh_P vs na nb wn tb n) → post 1) (h0 : ¬ (∃ n, n < 5 ∧ sh_P vs na nb wn tb n) → post 0) : wpY_shorted post (ln, vv, zz, tt, aa, bb, ww, yw, yu, yf, ye, ys, yn) :=
  ⟨6, sh_4 W S h1 h0 5 0 0 rfl (Or.inr ⟨fun ⟨j, hj, _⟩ => by omega, rfl⟩)⟩
end
