/-! ===== the component's small methods ===== -/
theorem xc_node {n : Nat} (hn : n < 2 ^ 31) {post : Int32 → Prop} (h1 : n < 11 → post 1) (h0 : 11 ≤ n → post 0) : wpX_isNode post (nI n) := by
  unfold wpX_isNode
  exact br_f (nI_pos hn) (pk_le 11 n (fun h => h0 h) (fun h => h1 h))
theorem xc_nodeN {x : Int32} (hx : x < 0) {post : Int32 → Prop} (h0 : post 0) : wpX_isNode post x := by
  unfold wpX_isNode
  exact br_t hx h0
theorem xc_store {n : Nat} (hn : n < 2 ^ 31) {post : Int32 → Prop} (h1 : 5 ≤ n → n < 11 → post 1) (h0 : ¬ (5 ≤ n ∧ n < 11) → post 0) : wpX_isStore post (nI n) := by
  unfold wpX_isStore
  exact pk_lt n 5 (fun h => h0 (by omega)) (fun h5 => pk_le 11 n (fun h => h0 (by omega)) (fun h => h1 h5 h))
theorem xc_storeN {x : Int32} (hx : x < 0) {post : Int32 → Prop} (h0 : post 0) : wpX_isStore post x := by
  unfold wpX_isStore
  exact br_t (Int32.lt_trans hx (by decide)) h0
theorem xc_bit {x : Int32} {k : Nat} (hk : k < 32) {post : Int32 → Prop} (h1 : bt x k = true → post 1) (h0 : bt x k = false → post 0) : wpX_hasBit post x (nI k) := by
  unfold wpX_hasBit
  cases hb : bt x k with
  | true => exact br_t (sx_t hk hb) (h1 hb)
  | false => exact br_f (sx_f hk hb) (h0 hb)
theorem xc_lesser {a b : Nat} (ha : a < 2 ^ 31) (hb : b < 2 ^ 31) {post : Int32 → Prop} (h : post (nI (Nat.min a b))) : wpX_lesser post (nI a) (nI b) := by
  unfold wpX_lesser
  refine pk_le b a (fun hle => ?_) (fun hlt => ?_)
  · have e : Nat.min a b = b := Nat.min_eq_right hle
    rw [e] at h; exact h
  · have e : Nat.min a b = a := Nat.min_eq_left (by omega)
    rw [e] at h; exact h
section
variable {fs fp : Int32} {ch sz ea eb kd ga sr we ro se : Nat → Int32} {vs zs na nb wn : Nat → Nat} {tb : Nat → Bool} {inp : Int32}
theorem xc_value (W : cf_W vs zs na nb wn) (S : cf_X inp fp ch sz ea eb kd ga sr vs zs na nb wn tb) {n : Nat} (hn : n < 11) {post : Int32 → Prop} (h : post (nI (vs n))) : wpX_valueUnder post (fs, fp, ch, sz, ea, eb, kd, ga, sr, we, ro, se) (nI n) inp := by
  unfold wpX_valueUnder
  dsimp only
  refine pk_lt n 5 (fun h5 => pk_le 2 n (fun h2 => ?_) (fun h2 => ?_)) (fun h5 => ⟨vp_in_nI hn (by omega), ?_⟩)
  · have e : nI n - 2 = nI (n - 2) := pk_sub (b := 2) h2
    rw [e, sx_get inp (by omega), S.1 (n - 2) (by omega), show 2 + (n - 2) = n from by omega]
    have hv := W.2.2.1 n h5
    by_cases c : vs n = 1
    · rw [decide_eq_true c]
      rw [c] at h; exact h
    · have c0 : vs n = 0 := by omega
      rw [decide_eq_false c]
      rw [c0] at h; exact h
  · have c : n = 0 ∨ n = 1 := by omega
    rcases c with c | c
    · subst c; rw [W.1] at h; exact h
    · subst c; rw [W.2.1] at h; exact h
  · rw [nI_clamp (by omega), S.2.2.1 n h5 hn]; exact h
theorem xc_closes (W : cf_W vs zs na nb wn) (S : cf_X inp fp ch sz ea eb kd ga sr vs zs na nb wn tb) {k : Nat} (hk : k < 12) (ht : tb k = true) {post : Int32 → Prop} (h1 : cf_k vs wn tb k = true → post 1) (h0 : cf_k vs wn tb k = false → post 0) : wpX_closesUnder post (fs, fp, ch, sz, ea, eb, kd, ga, sr, we, ro, se) (nI k) inp := by
  obtain ⟨e1, e2, _⟩ := S.2.2.2.2.2 k hk ht
  have hi : vp_in (nI k) 12 := vp_in_nI hk (by omega)
  have hw := (W.2.2.2.2.2.2 k hk).2.2
  have hg : 2 + wn k / 3 % 3 < 11 := by omega
  have hv := W.2.2.2.1 _ hg
  unfold wpX_closesUnder
  dsimp only
  rw [nI_clamp (n := k) (by omega), e1, e2]
  unfold cf_k at h1 h0
  rw [ht, Bool.true_and] at h1 h0
  refine ⟨hi, xc_value W S hg ⟨hi, pk_eq (wn k % 3) 0 (fun e => ?_) (fun e => ⟨hi, pk_eq (wn k % 3) 1 (fun e' => ?_) (fun e' => ?_)⟩)⟩⟩
  · rw [e] at h1 h0
    refine pk_eq (vs (2 + wn k / 3 % 3)) 1 (fun z => h1 ?_) (fun z => h0 ?_)
    · rw [z]; rfl
    · rw [decide_eq_false (by omega : ¬ vs (2 + wn k / 3 % 3) = 1 - 0)]; rfl
  · rw [e'] at h1 h0
    refine pk_eq (vs (2 + wn k / 3 % 3)) 0 (fun z => h1 ?_) (fun z => h0 ?_)
    · rw [z]; rfl
    · rw [decide_eq_false (by omega : ¬ vs (2 + wn k / 3 % 3) = 1 - 1)]; rfl
  · refine h1 ?_
    rw [decide_eq_true (by omega : wn k % 3 = 2)]; rfl
theorem xc_c4 (W : cf_W vs zs na nb wn) (S : cf_X inp fp ch sz ea eb kd ga sr vs zs na nb wn tb) {post : Int32 → Prop} (h : post (sx_set (cf_k vs wn tb) 12)) : ∀ d k, k + d = 12 → wX_closedUnder_4 post inp fs fp ch sz ea eb kd ga sr we ro se (d + 1) (sx_set (cf_k vs wn tb) k) (nI k) := by
  intro d
  induction d with
  | zero =>
    intro k hk
    have e : k = 12 := by omega
    subst e
    exact br_t (by decide) h
  | succ d ih =>
    intro k hk
    have J := ih (k + 1) (by omega)
    have hk' : k < 12 := by omega
    have hp := S.2.1 k (by omega)
    rw [decide_eq_true hk', Bool.true_and] at hp
    rw [sx_set] at J
    rw [wX_closedUnder_4]
    dsimp only
    refine br_f (nI_ge (b := 12) hk' (by decide)) (xc_bit (by omega) (fun ht => br_f (by decide) ?_) (fun ht => br_t rfl (nm_r (nI_1 k) ?_)))
    · rw [hp] at ht
      refine xc_closes W S hk' ht (fun hc => br_f (by decide) (nm_e (nm_r (nI_1 k) ?_))) (fun hc => br_t rfl (nm_r (nI_1 k) ?_))
      · rw [if_pos hc] at J; exact J
      · rw [if_neg (by rw [hc]; decide)] at J; exact J
    · rw [hp] at ht
      have hc : cf_k vs wn tb k = false := by unfold cf_k; rw [ht]; rfl
      rw [if_neg (by rw [hc]; decide)] at J; exact J
theorem xc_closed (W : cf_W vs zs na nb wn) (S : cf_X inp fp ch sz ea eb kd ga sr vs zs na nb wn tb) {post : Int32 → Prop} (h : post (sx_set (cf_k vs wn tb) 12)) : wpX_closedUnder post (fs, fp, ch, sz, ea, eb, kd, ga, sr, we, ro, se) inp :=
  ⟨13, xc_c4 W S h 12 0 rfl⟩
theorem xc_own (W : cf_W vs zs na nb wn) (S : cf_X inp fp ch sz ea eb kd ga sr vs zs na nb wn tb) {n : Nat} (hn : n < 11) {post : Int32 → Prop} (h : post (nI (zs n))) : wpX_ownWeight post (fs, fp, ch, sz, ea, eb, kd, ga, sr, we, ro, se) (nI n) := by
  unfold wpX_ownWeight
  dsimp only
  refine pk_le 5 n (fun h5 => ⟨vp_in_nI hn (by omega), ?_⟩) (fun h5 => ?_)
  · rw [nI_clamp (by omega), S.2.2.2.1 n h5 hn]; exact h
  · rw [W.2.2.2.2.1 n h5] at h; exact h
theorem xc_shut {k : Nat} (hk : k < 12) : bt (sx_set (cf_k vs wn tb) 12) k = cf_k vs wn tb k := by
  rw [sx_set_bt _ 12 (by omega) k (by omega), decide_eq_true hk, Bool.true_and]
theorem xc_tb {k : Nat} (h : cf_k vs wn tb k = true) : tb k = true := by
  unfold cf_k at h
  rw [Bool.and_eq_true] at h
  exact h.1
end
