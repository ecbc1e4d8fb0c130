/-! ===== the reference's small methods ===== -/
section
variable {ln : Int32} {vv zz tt aa bb ww yw yu yf ye ys yn : Nat → Int32} {vs zs na nb wn : Nat → Nat} {tb : Nat → Bool}
theorem yc_node {n : Nat} (hn : n < 2 ^ 31) {post : Int32 → Prop} (h1 : n < 11 → post 1) (h0 : 11 ≤ n → post 0) : wpY_node post (ln, vv, zz, tt, aa, bb, ww, yw, yu, yf, ye, ys, yn) (nI n) := by
  unfold wpY_node
  dsimp only
  exact br_f (nI_pos hn) (pk_lt 10 n (fun h => h0 h) (fun h => h1 (by omega)))
theorem yc_nodeN {x : Int32} (hx : x < 0) {post : Int32 → Prop} (h0 : post 0) : wpY_node post (ln, vv, zz, tt, aa, bb, ww, yw, yu, yf, ye, ys, yn) x := by
  unfold wpY_node
  dsimp only
  exact br_t hx h0
theorem yc_store {n : Nat} (hn : n < 2 ^ 31) {post : Int32 → Prop} (h1 : 5 ≤ n → n < 11 → post 1) (h0 : ¬ (5 ≤ n ∧ n < 11) → post 0) : wpY_store post (ln, vv, zz, tt, aa, bb, ww, yw, yu, yf, ye, ys, yn) (nI n) := by
  unfold wpY_store
  dsimp only
  exact pk_lt n 5 (fun h => h0 (by omega)) (fun h5 => pk_lt 10 n (fun h => h0 (by omega)) (fun h => h1 h5 (by omega)))
theorem yc_storeN {x : Int32} (hx : x < 0) {post : Int32 → Prop} (h0 : post 0) : wpY_store post (ln, vv, zz, tt, aa, bb, ww, yw, yu, yf, ye, ys, yn) x := by
  unfold wpY_store
  dsimp only
  exact br_t (Int32.lt_trans hx (by decide)) h0
theorem yc_closed (W : cf_W vs zs na nb wn) (S : cf_Y vv zz tt aa bb ww vs zs na nb wn tb) {k : Nat} (hk : k < 12) {post : Int32 → Prop} (h1 : cf_k vs wn tb k = true → post 1) (h0 : cf_k vs wn tb k = false → post 0) : wpY_isClosed post (ln, vv, zz, tt, aa, bb, ww, yw, yu, yf, ye, ys, yn) (nI k) := by
  have ek : (nI k).toNatClampNeg = k := nI_clamp (by omega)
  have hi : vp_in (nI k) 12 := vp_in_nI hk (by omega)
  have ew := (S.2.2.2 k hk).2.2
  have et := S.2.2.1 k hk
  have hw := (W.2.2.2.2.2.2 k hk).2.2
  have e2 : ww k - ww k / 3 * 3 = nI (wn k % 3) := by
    rw [ew]; exact pk_rem (by omega) (by decide) (by decide)
  have e3 : 2 + ((ww k / 3) - (ww k / 3) / 3 * 3) = nI (2 + wn k / 3 % 3) := by
    have a : nI (wn k) / 3 = nI (wn k / 3) := pk_div (d := 3) (by omega) (by decide) (by decide)
    have b : nI (wn k / 3) - nI (wn k / 3) / 3 * 3 = nI (wn k / 3 % 3) := pk_rem (d := 3) (by omega) (by decide) (by decide)
    rw [ew, a, b]
    exact nI_add 2 _
  have hg : 2 + wn k / 3 % 3 < 11 := by omega
  unfold wpY_isClosed
  dsimp only
  rw [ek]
  refine ⟨hi, by decide, nm_r e2 ⟨hi, by decide, by decide, nm_r e3 ⟨hi, ?_⟩⟩⟩
  cases ht : tb k with
  | false =>
    rw [ht] at et
    exact br_t et (h0 (by unfold cf_k; rw [ht]; rfl))
  | true =>
    rw [ht] at et
    refine br_f (by rw [et]; decide) (pk_eq (wn k % 3) 2 (fun e => h1 ?_) (fun e => ⟨vp_in_nI hg (by omega), ?_⟩))
    · unfold cf_k; rw [ht, decide_eq_true e]; rfl
    · rw [nI_clamp (by omega), S.1 _ hg]
      have e1 : (1 : Int32) - nI (wn k % 3) = nI (1 - wn k % 3) := pk_sub (a := 1) (by omega)
      have hv := W.2.2.2.1 _ hg
      refine pk_eq (vs (2 + wn k / 3 % 3)) (1 - wn k % 3) (fun e' => h1 ?_) (fun e' => h0 ?_) rfl e1
      · unfold cf_k; rw [ht, decide_eq_true e', Bool.or_true]; rfl
      · unfold cf_k; rw [ht, decide_eq_false e', decide_eq_false e]; rfl
theorem yc_b61t (W : cf_W vs zs na nb wn) (S : cf_Y vv zz tt aa bb ww vs zs na nb wn tb) {k p q : Nat} (hk : k < 12) {post : Int32 → Prop} {J : Int32 → Int32 → Prop} {x1 x2 : Int32} (on : ne_on na nb k p q) (hJ : J (nI (ne_b (cf_k vs wn tb) na nb (cf_s wn) p q (k + 1))) (nI (k + 1))) : wY_between_61 post J x1 x2 (nI (ne_b (cf_k vs wn tb) na nb (cf_s wn) p q k)) (nI k) 1 ln vv zz tt aa bb ww yw yu yf ye ys yn := by
  have ek : (nI k).toNatClampNeg = k := nI_clamp (by omega)
  have hi : vp_in (nI k) 12 := vp_in_nI hk (by omega)
  have ew := (S.2.2.2 k hk).2.2
  have hw := (W.2.2.2.2.2.2 k hk).2.2
  have e6 : 4 + ww k / 9 = nI (cf_s wn k) := by
    have a : nI (wn k) / 9 = nI (wn k / 9) := pk_div (d := 9) (by omega) (by decide) (by decide)
    rw [ew, a]
    exact nI_add 4 _
  have h6 := cf_s_le W k hk
  have hb := ne_b_le (cf_k vs wn tb) na nb (cf_s wn) p q (cf_s_le W) k (by omega)
  unfold wY_between_61
  rw [ek]
  refine ⟨hi, by decide, nm_r e6 (br_f (by decide) (yc_closed W S hk (fun hc => br_f (by decide) ?_) (fun hc => br_t rfl (nm_r (nI_1 k) ?_))))⟩
  · refine pk_le (cf_s wn k) (ne_b (cf_k vs wn tb) na nb (cf_s wn) p q k) (fun h => nm_r (nI_1 k) ?_) (fun h => nm_r (nI_1 k) ?_)
    · rw [ne_b, if_neg (fun z => absurd z.2.2 (by omega))] at hJ; exact hJ
    · rw [ne_b, if_pos ⟨on, hc, h⟩] at hJ; exact hJ
  · rw [ne_b, if_neg (fun z => absurd z.2.1 (by rw [hc]; decide))] at hJ; exact hJ
theorem yc_b61f (W : cf_W vs zs na nb wn) (S : cf_Y vv zz tt aa bb ww vs zs na nb wn tb) {k p q : Nat} (hk : k < 12) {post : Int32 → Prop} {J : Int32 → Int32 → Prop} {x1 x2 : Int32} (on : ¬ ne_on na nb k p q) (hJ : J (nI (ne_b (cf_k vs wn tb) na nb (cf_s wn) p q (k + 1))) (nI (k + 1))) : wY_between_61 post J x1 x2 (nI (ne_b (cf_k vs wn tb) na nb (cf_s wn) p q k)) (nI k) 0 ln vv zz tt aa bb ww yw yu yf ye ys yn := by
  have hi : vp_in (nI k) 12 := vp_in_nI hk (by omega)
  unfold wY_between_61
  rw [ne_b, if_neg (fun z => on z.1)] at hJ
  exact ⟨hi, by decide, nm_e (br_t rfl (nm_r (nI_1 k) hJ))⟩
theorem yc_b34 (W : cf_W vs zs na nb wn) (S : cf_Y vv zz tt aa bb ww vs zs na nb wn tb) {k p q : Nat} (hk : k < 12) (hp : p < 11) (hq : q < 11) {post : Int32 → Prop} {J : Int32 → Int32 → Prop} (no : ¬ (na k = p ∧ nb k = q)) (hJ : J (nI (ne_b (cf_k vs wn tb) na nb (cf_s wn) p q (k + 1))) (nI (k + 1))) : wY_between_34 post J (nI p) (nI q) (nI (ne_b (cf_k vs wn tb) na nb (cf_s wn) p q k)) (nI k) ln vv zz tt aa bb ww yw yu yf ye ys yn := by
  have ek : (nI k).toNatClampNeg = k := nI_clamp (by omega)
  have hi : vp_in (nI k) 12 := vp_in_nI hk (by omega)
  have hw := W.2.2.2.2.2.2 k hk
  unfold wY_between_34
  rw [ek, (S.2.2.2 k hk).1, (S.2.2.2 k hk).2.1]
  refine ⟨hi, pk_eq (na k) q (fun e => ⟨hi, pk_eq (nb k) p (fun e' => ?_) (fun e' => ?_)⟩) (fun e => ?_)⟩
  · exact yc_b61t W S hk (Or.inr ⟨e, e'⟩) hJ
  · exact yc_b61f W S hk (fun z => z.elim no (fun z => e' z.2)) hJ
  · exact yc_b61f W S hk (fun z => z.elim no (fun z => e z.1)) hJ
theorem yc_b5 (W : cf_W vs zs na nb wn) (S : cf_Y vv zz tt aa bb ww vs zs na nb wn tb) {p q : Nat} (hp : p < 11) (hq : q < 11) {post : Int32 → Prop} (h : post (nI (ne_B (cf_k vs wn tb) na nb (cf_s wn) p q))) : ∀ d k, k + d = 12 → wY_between_5 post (nI p) (nI q) ln vv zz tt aa bb ww yw yu yf ye ys yn (d + 1) (nI (ne_b (cf_k vs wn tb) na nb (cf_s wn) p q k)) (nI k) := by
  intro d
  induction d with
  | zero =>
    intro k hk
    have e : k = 12 := by omega
    subst e
    exact br_t (by decide) h
  | succ d ih =>
    intro k hk
    have ek : (nI k).toNatClampNeg = k := nI_clamp (by omega)
    have hk' : k < 12 := by omega
    have hi : vp_in (nI k) 12 := vp_in_nI hk' (by omega)
    have hw := W.2.2.2.2.2.2 k hk'
    have J := ih (k + 1) (by omega)
    rw [wY_between_5]
    dsimp only
    rw [ek, (S.2.2.2 k hk').1, (S.2.2.2 k hk').2.1]
    refine br_f (nI_ge (b := 12) hk' (by decide)) ⟨hi, pk_eq (na k) p (fun e => ⟨hi, pk_eq (nb k) q (fun e' => ?_) (fun e' => ?_)⟩) (fun e => ?_)⟩
    · exact yc_b61t W S hk' (Or.inl ⟨e, e'⟩) J
    · exact yc_b34 W S hk' hp hq (fun z => e' z.2) J
    · exact yc_b34 W S hk' hp hq (fun z => e z.1) J
theorem yc_between (W : cf_W vs zs na nb wn) (S : cf_Y vv zz tt aa bb ww vs zs na nb wn tb) {p q : Nat} (hp : p < 11) (hq : q < 11) {post : Int32 → Prop} (h : post (nI (ne_B (cf_k vs wn tb) na nb (cf_s wn) p q))) : wpY_between post (ln, vv, zz, tt, aa, bb, ww, yw, yu, yf, ye, ys, yn) (nI p) (nI q) :=
  ⟨13, yc_b5 W S hp hq h 12 0 rfl⟩
theorem yc_on4 {w : Nat → Nat} {l t : Nat} (hl : l ≤ 11) (ht : t < 11) (hw : ∀ i, i < l → yw i = nI (w i) ∧ w i < 11) {post : Int32 → Prop} (h1 : (∃ j, j < l ∧ w j = t) → post 1) (h0 : (∀ j, j < l → w j ≠ t) → post 0) : ∀ d i, i + d = l → ((∃ j, j < i ∧ w j = t) → wY_onWay_4 post (nI t) (nI l) vv zz tt aa bb ww yw yu yf ye ys yn (d + 1) 1 (nI i)) ∧ ((∀ j, j < i → w j ≠ t) → wY_onWay_4 post (nI t) (nI l) vv zz tt aa bb ww yw yu yf ye ys yn (d + 1) 0 (nI i)) := by
  intro d
  induction d with
  | zero =>
    intro i hi
    have e : i = l := by omega
    subst e
    exact ⟨fun z => br_t (nI_le (Nat.le_refl _) (by omega)) ⟨cf_n1, h1 z⟩, fun z => br_t (nI_le (Nat.le_refl _) (by omega)) ⟨cf_n0, h0 z⟩⟩
  | succ d ih =>
    intro i hi
    have ek : (nI i).toNatClampNeg = i := nI_clamp (by omega)
    have hi' : vp_in (nI i) 11 := vp_in_nI (by omega) (by omega)
    have J := ih (i + 1) (by omega)
    constructor
    · rintro ⟨j, hj, ej⟩
      rw [wY_onWay_4]
      dsimp only
      exact br_f (nI_ge (by omega) (by omega)) (br_f (by decide) (nm_r (nI_1 i) (J.1 ⟨j, by omega, ej⟩)))
    · intro z
      rw [wY_onWay_4]
      dsimp only
      rw [ek, (hw i (by omega)).1]
      have := (hw i (by omega)).2
      refine br_f (nI_ge (by omega) (by omega)) (br_t rfl ⟨hi', pk_eq (w i) t (fun e => nm_r (nI_1 i) (J.1 ⟨i, by omega, e⟩)) (fun e => nm_r (nI_1 i) (J.2 ?_))⟩)
      intro j hj
      by_cases c : j = i
      · subst c; exact e
      · exact z j (by omega)
theorem yc_onWay {w : Nat → Nat} {l t : Nat} (hl : l ≤ 11) (ht : t < 11) (hw : ∀ i, i < l → yw i = nI (w i) ∧ w i < 11) {post : Int32 → Prop} (h1 : (∃ j, j < l ∧ w j = t) → post 1) (h0 : (∀ j, j < l → w j ≠ t) → post 0) : wpY_onWay post (nI l, vv, zz, tt, aa, bb, ww, yw, yu, yf, ye, ys, yn) (nI t) :=
  ⟨l + 1, (yc_on4 hl ht hw h1 h0 l 0 (by omega)).2 (fun j hj => by omega)⟩
end
