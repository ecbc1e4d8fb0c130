/-! ===== how the pure picture changes ===== -/
theorem cg_rel {fs fp : Int32} {ch sz ea eb kd ga sr we ro se : Nat → Int32} {ln : Int32} {vv zz tt aa bb ww yw yu yf ye ys yn : Nat → Int32} {vs zs na nb wn : Nat → Nat} {tb : Nat → Bool} {k : Nat} (W : cf_W vs zs na nb wn) (A : cf_X fs fp ch sz ea eb kd ga sr vs zs na nb wn tb) (B : cf_Y vv zz tt aa bb ww vs zs na nb wn tb) : i_Rel k (fs, fp, ch, sz, ea, eb, kd, ga, sr, we, ro, se) (ln, vv, zz, tt, aa, bb, ww, yw, yu, yf, ye, ys, yn) :=
  ⟨_, _, _, _, _, _, _, _, _, _, _, _, _, _, _, _, _, _, _, _, _, _, _, _, _, _, _, _, _, _, _, rfl, rfl, W, A, B⟩
theorem cg_node (x : Int32) : (∃ n, n < 11 ∧ x = nI n) ∨ ((∀ post : Int32 → Prop, post 0 → wpX_isNode post x) ∧ (∀ (post : Int32 → Prop) (ln : Int32) (vv zz tt aa bb ww yw yu yf ye ys yn : Nat → Int32), post 0 → wpY_node post (ln, vv, zz, tt, aa, bb, ww, yw, yu, yf, ye, ys, yn) x)) := by
  by_cases h : x < 0
  · exact Or.inr ⟨fun post h0 => xc_nodeN h h0, fun post ln vv zz tt aa bb ww yw yu yf ye ys yn h0 => yc_nodeN h h0⟩
  · obtain ⟨n, hn, rfl⟩ := nI_of h
    by_cases c : n < 11
    · exact Or.inl ⟨n, c, rfl⟩
    · exact Or.inr ⟨fun post h0 => xc_node hn (fun z => absurd z c) (fun _ => h0), fun post ln vv zz tt aa bb ww yw yu yf ye ys yn h0 => yc_node hn (fun z => absurd z c) (fun _ => h0)⟩
theorem cg_store (x : Int32) : (∃ n, 5 ≤ n ∧ n < 11 ∧ x = nI n) ∨ ((∀ post : Int32 → Prop, post 0 → wpX_isStore post x) ∧ (∀ (post : Int32 → Prop) (ln : Int32) (vv zz tt aa bb ww yw yu yf ye ys yn : Nat → Int32), post 0 → wpY_store post (ln, vv, zz, tt, aa, bb, ww, yw, yu, yf, ye, ys, yn) x)) := by
  by_cases h : x < 0
  · exact Or.inr ⟨fun post h0 => xc_storeN h h0, fun post ln vv zz tt aa bb ww yw yu yf ye ys yn h0 => yc_storeN h h0⟩
  · obtain ⟨n, hn, rfl⟩ := nI_of h
    by_cases c : 5 ≤ n ∧ n < 11
    · exact Or.inl ⟨n, c.1, c.2, rfl⟩
    · exact Or.inr ⟨fun post h0 => xc_store hn (fun a b => absurd ⟨a, b⟩ c) (fun _ => h0), fun post ln vv zz tt aa bb ww yw yu yf ye ys yn h0 => yc_store hn (fun a b => absurd ⟨a, b⟩ c) (fun _ => h0)⟩
def cg_b (tb : Nat → Bool) (k : Nat) (v : Bool) : Nat → Bool := fun j => if j = k then v else tb j
theorem cg_bs {tb : Nat → Bool} {k : Nat} {v : Bool} : cg_b tb k v k = v := if_pos rfl
theorem cg_bn {tb : Nat → Bool} {k j : Nat} {v : Bool} (h : j ≠ k) : cg_b tb k v j = tb j := if_neg h
section
variable {fs fp : Int32} {ch sz ea eb kd ga sr we ro se : Nat → Int32} {ln : Int32} {vv zz tt aa bb ww yw yu yf ye ys yn : Nat → Int32} {vs zs na nb wn : Nat → Nat} {tb : Nat → Bool}
theorem cg_addW (W : cf_W vs zs na nb wn) {k a b w : Nat} (ha : a < 11) (hb : b < 11) (hw : w < 27) : cf_W vs zs (gp_u na k a) (gp_u nb k b) (gp_u wn k w) := by
  obtain ⟨h1, h2, h3, h4, h5, h6, h7⟩ := W
  refine ⟨h1, h2, h3, h4, h5, h6, ?_⟩
  intro j hj
  by_cases c : j = k
  · subst c; rw [gp_us, gp_us, gp_us]; exact ⟨ha, hb, hw⟩
  · rw [gp_un c, gp_un c, gp_un c]; exact h7 j hj
theorem cg_addX (S : cf_X fs fp ch sz ea eb kd ga sr vs zs na nb wn tb) {k a b w : Nat} (hk : k < 12) (hw : w < 27) : cf_X fs (fp ||| ((1 : Int32) <<< (nI k &&& 31))) ch sz (upd ea k (nI a)) (upd eb k (nI b)) (upd kd k (nI w - nI w / 3 * 3)) (upd ga k (2 + ((nI w / 3) - (nI w / 3) / 3 * 3))) (upd sr k (4 + (nI w / 9))) vs zs (gp_u na k a) (gp_u nb k b) (gp_u wn k w) (cg_b tb k true) := by
  obtain ⟨h1, h2, h3, h4, h5, h6⟩ := S
  have e1 : nI w - nI w / 3 * 3 = nI (w % 3) := pk_rem (d := 3) (by omega) (by decide) (by decide)
  have e2 : 2 + ((nI w / 3) - (nI w / 3) / 3 * 3) = nI (2 + w / 3 % 3) := by
    have a : nI w / 3 = nI (w / 3) := pk_div (d := 3) (by omega) (by decide) (by decide)
    have b : nI (w / 3) - nI (w / 3) / 3 * 3 = nI (w / 3 % 3) := pk_rem (d := 3) (by omega) (by decide) (by decide)
    rw [a, b]
    exact nI_add 2 _
  have e3 : 4 + (nI w / 9) = nI (4 + w / 9) := by
    have a : nI w / 9 = nI (w / 9) := pk_div (d := 9) (by omega) (by decide) (by decide)
    rw [a]
    exact nI_add 4 _
  rw [e1, e2, e3]
  refine ⟨h1, ?_, h3, h4, ?_, ?_⟩
  · intro i hi
    rw [b_or, h2 i hi, sx_bit (by omega) hi]
    by_cases c : i = k
    · subst c; rw [cg_bs, decide_eq_true rfl, decide_eq_true hk, Bool.or_true]; rfl
    · rw [cg_bn c, decide_eq_false c, Bool.or_false]
  · intro j hj
    by_cases c : j = k
    · subst c; rw [pk_us, pk_us, gp_us, gp_us]; exact ⟨rfl, rfl⟩
    · rw [pk_un c, pk_un c, gp_un c, gp_un c]; exact h5 j hj
  · intro j hj ht
    unfold cf_s
    by_cases c : j = k
    · subst c; rw [pk_us, pk_us, pk_us, gp_us]; exact ⟨rfl, rfl, rfl⟩
    · rw [cg_bn c] at ht
      rw [pk_un c, pk_un c, pk_un c, gp_un c]; exact h6 j hj ht
theorem cg_addY (S : cf_Y vv zz tt aa bb ww vs zs na nb wn tb) {k a b w : Nat} : cf_Y vv zz (upd tt k 1) (upd aa k (nI a)) (upd bb k (nI b)) (upd ww k (nI w)) vs zs (gp_u na k a) (gp_u nb k b) (gp_u wn k w) (cg_b tb k true) := by
  obtain ⟨h1, h2, h3, h4⟩ := S
  refine ⟨h1, h2, ?_, ?_⟩
  · intro j hj
    by_cases c : j = k
    · subst c; rw [pk_us, cg_bs]; rfl
    · rw [pk_un c, cg_bn c]; exact h3 j hj
  · intro j hj
    by_cases c : j = k
    · subst c; rw [pk_us, pk_us, pk_us, gp_us, gp_us, gp_us]; exact ⟨rfl, rfl, rfl⟩
    · rw [pk_un c, pk_un c, pk_un c, gp_un c, gp_un c, gp_un c]; exact h4 j hj
theorem cg_remX (S : cf_X fs fp ch sz ea eb kd ga sr vs zs na nb wn tb) {k : Nat} (hk : k < 12) : cf_X fs (fp &&& (((1 : Int32) <<< (nI k &&& 31)) ^^^ (-1))) ch sz ea eb kd ga sr vs zs na nb wn (cg_b tb k false) := by
  obtain ⟨h1, h2, h3, h4, h5, h6⟩ := S
  refine ⟨h1, ?_, h3, h4, h5, ?_⟩
  · intro i hi
    rw [sx_unset (by omega) hi, h2 i hi]
    by_cases c : i = k
    · subst c; rw [cg_bs, decide_eq_true rfl, Bool.not_true, Bool.and_false, Bool.and_false]
    · rw [cg_bn c, decide_eq_false c, Bool.not_false, Bool.and_true]
  · intro j hj ht
    by_cases c : j = k
    · subst c; rw [cg_bs] at ht; exact absurd ht (by decide)
    · rw [cg_bn c] at ht; exact h6 j hj ht
theorem cg_remY (S : cf_Y vv zz tt aa bb ww vs zs na nb wn tb) {k : Nat} : cf_Y vv zz (upd tt k 0) aa bb ww vs zs na nb wn (cg_b tb k false) := by
  obtain ⟨h1, h2, h3, h4⟩ := S
  refine ⟨h1, h2, ?_, h4⟩
  intro j hj
  by_cases c : j = k
  · subst c; rw [pk_us, cg_bs]; rfl
  · rw [pk_un c, cg_bn c]; exact h3 j hj
theorem cg_one : ∀ v, v < 2 → ∀ i, i < 32 → bt (nI v) i = (decide (i = 0) && decide (v = 1)) := by decide +kernel
theorem cg_setW (W : cf_W vs zs na nb wn) {i v : Nat} (h2 : 2 ≤ i) (h5 : i < 5) (hv : v ≤ 1) : cf_W (gp_u vs i v) zs na nb wn := by
  obtain ⟨a1, a2, a3, a4, a5, a6, a7⟩ := W
  refine ⟨?_, ?_, ?_, ?_, a5, a6, a7⟩
  · rw [gp_un (by omega)]; exact a1
  · rw [gp_un (by omega)]; exact a2
  · intro n hn
    by_cases c : n = i
    · subst c; rw [gp_us]; exact hv
    · rw [gp_un c]; exact a3 n hn
  · intro n hn
    by_cases c : n = i
    · subst c; rw [gp_us]; omega
    · rw [gp_un c]; exact a4 n hn
theorem cg_setX (S : cf_X fs fp ch sz ea eb kd ga sr vs zs na nb wn tb) {p v : Nat} (h3 : p < 3) (hv : v ≤ 1) : cf_X ((fs &&& (((1 : Int32) <<< (nI p &&& 31)) ^^^ (-1))) ||| (nI v <<< (nI p &&& 31))) fp ch sz ea eb kd ga sr (gp_u vs (2 + p) v) zs na nb wn tb := by
  obtain ⟨a1, a2, a3, a4, a5, a6⟩ := S
  refine ⟨?_, a2, ?_, a4, a5, a6⟩
  · intro i hi
    rw [b_or, sx_unset (by omega) (by omega), a1 i hi, b_shl p (by omega) _ (by omega)]
    by_cases c : i = p
    · subst c
      rw [decide_eq_true (Eq.refl i), Bool.not_true, Bool.and_false, Bool.false_or, Nat.sub_self, cg_one v (by omega) 0 (by omega), gp_us, decide_eq_true (Nat.le_refl i), decide_eq_true (Eq.refl 0), Bool.true_and, Bool.true_and]
    · rw [gp_un (by omega), decide_eq_false c, Bool.not_false, Bool.and_true]
      by_cases d : p ≤ i
      · rw [cg_one v (by omega) (i - p) (by omega), decide_eq_false (show ¬ i - p = 0 from by omega), Bool.false_and, Bool.and_false, Bool.or_false]
      · rw [decide_eq_false d, Bool.false_and, Bool.or_false]
  · intro n h5 h11
    rw [gp_un (by omega)]; exact a3 n h5 h11
theorem cg_valY (S : cf_Y vv zz tt aa bb ww vs zs na nb wn tb) {i v : Nat} : cf_Y (upd vv i (nI v)) zz tt aa bb ww (gp_u vs i v) zs na nb wn tb := by
  obtain ⟨h1, h2, h3, h4⟩ := S
  refine ⟨?_, h2, h3, h4⟩
  intro j hj
  by_cases c : j = i
  · subst c; rw [pk_us, gp_us]
  · rw [pk_un c, gp_un c]; exact h1 j hj
theorem cg_sizW (W : cf_W vs zs na nb wn) {s z : Nat} (h5 : 5 ≤ s) (h1 : 1 ≤ z) (h3 : z ≤ 3) : cf_W vs (gp_u zs s z) na nb wn := by
  obtain ⟨a1, a2, a3, a4, a5, a6, a7⟩ := W
  refine ⟨a1, a2, a3, a4, ?_, ?_, a7⟩
  · intro n hn
    rw [gp_un (by omega)]; exact a5 n hn
  · intro n hn h11
    by_cases c : n = s
    · subst c; rw [gp_us]; exact ⟨h1, h3⟩
    · rw [gp_un c]; exact a6 n hn h11
theorem cg_sizX (S : cf_X fs fp ch sz ea eb kd ga sr vs zs na nb wn tb) {s z : Nat} : cf_X fs fp ch (upd sz s (nI z)) ea eb kd ga sr vs (gp_u zs s z) na nb wn tb := by
  obtain ⟨a1, a2, a3, a4, a5, a6⟩ := S
  refine ⟨a1, a2, a3, ?_, a5, a6⟩
  intro n h5 h11
  by_cases c : n = s
  · subst c; rw [pk_us, gp_us]
  · rw [pk_un c, gp_un c]; exact a4 n h5 h11
theorem cg_sizY (S : cf_Y vv zz tt aa bb ww vs zs na nb wn tb) {s z : Nat} : cf_Y vv (upd zz s (nI z)) tt aa bb ww vs (gp_u zs s z) na nb wn tb := by
  obtain ⟨h1, h2, h3, h4⟩ := S
  refine ⟨h1, ?_, h3, h4⟩
  intro j hj
  by_cases c : j = s
  · subst c; rw [pk_us, gp_us]
  · rw [pk_un c, gp_un c]; exact h2 j hj
theorem cg_chgW (W : cf_W vs zs na nb wn) {s v : Nat} (h5 : 5 ≤ s) (hv : v ≤ 2) : cf_W (gp_u vs s v) zs na nb wn := by
  obtain ⟨a1, a2, a3, a4, a5, a6, a7⟩ := W
  refine ⟨?_, ?_, ?_, ?_, a5, a6, a7⟩
  · rw [gp_un (by omega)]; exact a1
  · rw [gp_un (by omega)]; exact a2
  · intro n hn
    rw [gp_un (by omega)]; exact a3 n hn
  · intro n hn
    by_cases c : n = s
    · subst c; rw [gp_us]; exact hv
    · rw [gp_un c]; exact a4 n hn
theorem cg_chgX (S : cf_X fs fp ch sz ea eb kd ga sr vs zs na nb wn tb) {s v : Nat} (h5 : 5 ≤ s) : cf_X fs fp (upd ch s (nI v)) sz ea eb kd ga sr (gp_u vs s v) zs na nb wn tb := by
  obtain ⟨a1, a2, a3, a4, a5, a6⟩ := S
  refine ⟨?_, a2, ?_, a4, a5, a6⟩
  · intro i hi
    rw [gp_un (by omega)]; exact a1 i hi
  · intro n h5 h11
    by_cases c : n = s
    · subst c; rw [pk_us, gp_us]
    · rw [pk_un c, gp_un c]; exact a3 n h5 h11
/-! add's search for a place -/
theorem cg_free (S : cf_X fs fp ch sz ea eb kd ga sr vs zs na nb wn tb) {post : Int32 → Prop} (h1 : ∀ k, k < 12 → tb k = false → (∀ j, j < k → tb j = true) → post (nI k)) (h0 : (∀ j, j < 12 → tb j = true) → post 12) : ∀ d k, k + d = 12 → (∀ j, j < k → tb j = true) → wX_leastFreeSlot_2 post fs fp ch sz ea eb kd ga sr we ro se (d + 1) (nI k) := by
  intro d
  induction d with
  | zero =>
    intro k hk hj
    have e : k = 12 := by omega
    subst e
    exact br_t (by decide) (h0 hj)
  | succ d ih =>
    intro k hk hj
    have hk' : k < 12 := by omega
    have hp := S.2.1 k (by omega)
    rw [decide_eq_true hk', Bool.true_and] at hp
    rw [wX_leastFreeSlot_2]
    dsimp only
    refine br_f (nI_ge (b := 12) hk' (by decide)) (xc_bit (by omega) (fun hb => br_f (by decide) (nm_r (nI_1 k) (ih (k + 1) (by omega) ?_))) (fun hb => br_t rfl (h1 k hk' (by rw [← hp]; exact hb) hj)))
    intro j hj'
    by_cases c : j = k
    · subst c; rw [← hp]; exact hb
    · exact hj j (by omega)
theorem cg_put (S : cf_Y vv zz tt aa bb ww vs zs na nb wn tb) {x1 x2 x3 : Int32} {post : Int32 → SY → Prop} (h1 : ∀ k, k < 12 → tb k = false → (∀ j, j < k → tb j = true) → post (nI k) (ln, vv, zz, upd tt k 1, upd aa k x1, upd bb k x2, upd ww k x3, yw, yu, yf, ye, ys, yn)) (h0 : (∀ j, j < 12 → tb j = true) → post (-2) (ln, vv, zz, tt, aa, bb, ww, yw, yu, yf, ye, ys, yn)) : ∀ d k, k + d = 12 → (∀ j, j < k → tb j = true) → wY_add_36 post x1 x2 x3 ln vv zz tt aa bb ww yw yu yf ye ys yn (d + 1) (nI k) := by
  intro d
  induction d with
  | zero =>
    intro k hk hj
    have e : k = 12 := by omega
    subst e
    exact br_t (by decide) (h0 hj)
  | succ d ih =>
    intro k hk hj
    have hk' : k < 12 := by omega
    have hi : vp_in (nI k) 12 := vp_in_nI hk' (by omega)
    have ht := S.2.2.1 k hk'
    rw [wY_add_36]
    dsimp only
    rw [nI_clamp (n := k) (by omega), ht]
    refine br_f (nI_ge (b := 12) hk' (by decide)) ⟨hi, ?_⟩
    cases c : tb k with
    | false => exact br_t rfl ⟨hi, nm_e ⟨hi, nm_e ⟨hi, nm_e ⟨hi, nm_e (h1 k hk' c hj)⟩⟩⟩⟩
    | true =>
      refine br_f (by decide) (nm_r (nI_1 k) (ih (k + 1) (by omega) ?_))
      intro j hj'
      by_cases e : j = k
      · subst e; exact c
      · exact hj j (by omega)
end
