/-! ===== the two states against one pure picture ===== -/
def cf_k (vs wn : Nat → Nat) (tb : Nat → Bool) (k : Nat) : Bool := tb k && (decide (wn k % 3 = 2) || decide (vs (2 + wn k / 3 % 3) = 1 - wn k % 3))
def cf_s (wn : Nat → Nat) (k : Nat) : Nat := 4 + wn k / 9
def cf_W (vs zs na nb wn : Nat → Nat) : Prop :=
  vs 0 = 0 ∧ vs 1 = 1 ∧ (∀ n, n < 5 → vs n ≤ 1) ∧ (∀ n, n < 11 → vs n ≤ 2) ∧ (∀ n, n < 5 → zs n = 7) ∧ (∀ n, 5 ≤ n → n < 11 → 1 ≤ zs n ∧ zs n ≤ 3) ∧ (∀ k, k < 12 → na k < 11 ∧ nb k < 11 ∧ wn k < 27)
def cf_X (fs fp : Int32) (ch sz ea eb kd ga sr : Nat → Int32) (vs zs na nb wn : Nat → Nat) (tb : Nat → Bool) : Prop :=
  (∀ i, i < 3 → bt fs i = decide (vs (2 + i) = 1)) ∧ (∀ i, i < 32 → bt fp i = (decide (i < 12) && tb i)) ∧ (∀ n, 5 ≤ n → n < 11 → ch n = nI (vs n)) ∧ (∀ n, 5 ≤ n → n < 11 → sz n = nI (zs n)) ∧ (∀ k, k < 12 → ea k = nI (na k) ∧ eb k = nI (nb k)) ∧ (∀ k, k < 12 → tb k = true → kd k = nI (wn k % 3) ∧ ga k = nI (2 + wn k / 3 % 3) ∧ sr k = nI (cf_s wn k))
def cf_Y (vv zz tt aa bb ww : Nat → Int32) (vs zs na nb wn : Nat → Nat) (tb : Nat → Bool) : Prop :=
  (∀ n, n < 11 → vv n = nI (vs n)) ∧ (∀ n, n < 11 → zz n = nI (zs n)) ∧ (∀ k, k < 12 → tt k = if tb k = true then 1 else 0) ∧ (∀ k, k < 12 → aa k = nI (na k) ∧ bb k = nI (nb k) ∧ ww k = nI (wn k))
def i_Rel (k : Nat) (u : SX) (v : SY) : Prop :=
  ∃ (fs fp : Int32) (ch sz ea eb kd ga sr we ro se : Nat → Int32) (ln : Int32) (vv zz tt aa bb ww yw yu yf ye ys yn : Nat → Int32) (vs zs na nb wn : Nat → Nat) (tb : Nat → Bool),
    u = (fs, fp, ch, sz, ea, eb, kd, ga, sr, we, ro, se) ∧ v = (ln, vv, zz, tt, aa, bb, ww, yw, yu, yf, ye, ys, yn) ∧ cf_W vs zs na nb wn ∧ cf_X fs fp ch sz ea eb kd ga sr vs zs na nb wn tb ∧ cf_Y vv zz tt aa bb ww vs zs na nb wn tb
theorem i_up {k : Nat} {u : SX} {v : SY} (h : i_Rel k u v) : i_Rel (k + 4) u v := h
theorem cf_s_le {vs zs na nb wn : Nat → Nat} (h : cf_W vs zs na nb wn) : ∀ k, k < 12 → cf_s wn k ≤ 6 := by
  intro k hk
  have := (h.2.2.2.2.2.2 k hk).2.2
  unfold cf_s
  omega
theorem cf_s_1 (wn : Nat → Nat) : ∀ k, k < 12 → 1 ≤ cf_s wn k := by
  intro k _
  unfold cf_s
  omega
theorem cf_z7 {vs zs na nb wn : Nat → Nat} (h : cf_W vs zs na nb wn) : ∀ n, n < 11 → zs n ≤ 7 := by
  intro n hn
  by_cases c : n < 5
  · have := h.2.2.2.2.1 n c; omega
  · have := h.2.2.2.2.2.1 n (by omega) hn; omega
/-! own small rows on branches -/
theorem cf_if {P : Prop} {post : Int32 → Prop} {x : Int32} (a : P → post 1) (b : ¬ P → post 0) (h : (P → x = 1) ∧ (¬ P → x = 0)) : post x := by
  by_cases c : P
  · rw [h.1 c]; exact a c
  · rw [h.2 c]; exact b c
theorem cf_nar1 : vp_nar .boolean 1 = 1 := by rfl
theorem cf_nar0 : vp_nar .boolean 0 = 0 := by rfl
theorem cf_n1 : narrow .boolean (.int 1) = .int 1 := by rfl
theorem cf_n0 : narrow .boolean (.int 0) = .int 0 := by rfl
