/-! ===== extend, advance ===== -/
section
variable {ln : Int32} {vv zz tt aa bb ww yw yu yf ye ys yn : Nat → Int32} {vs zs na nb wn : Nat → Nat} {tb : Nat → Bool}
theorem ya_ext (W : cf_W vs zs na nb wn) (S : cf_Y vv zz tt aa bb ww vs zs na nb wn tb) {F : Prop} {w : Nat → Nat} {L : Nat} (hL0 : 0 < L) (hV : ne_V (cf_k vs wn tb) na nb (cf_s wn) w L) (hk : yk_S (cf_k vs wn tb) na nb (cf_s wn) zs F w L yw yu yf) (hF : F → ∀ n, n < 11 → ye n = nI ((ne_W (cf_k vs wn tb) na nb (cf_s wn) zs) n)) {post : Int32 → SY → Prop} :
    ∀ d t, t + d = 11 → 5 ≤ t →
      (∀ t', t ≤ t' → t' < 11 → (∀ q m, ne_V (cf_k vs wn tb) na nb (cf_s wn) q m → df_R w L t q m → df_R w L t' q m) → ne_V (cf_k vs wn tb) na nb (cf_s wn) (gp_u w L t') (L + 1) → ∀ yw' yu' yf' : Nat → Int32, yk_S (cf_k vs wn tb) na nb (cf_s wn) zs F (gp_u w L t') (L + 1) yw' yu' yf' → post 1 (nI (L + 1), vv, zz, tt, aa, bb, ww, yw', yu', yf', ye, ys, yn)) →
      ((∀ q m, ne_V (cf_k vs wn tb) na nb (cf_s wn) q m → df_R w L t q m → df_R w L 11 q m) → post 0 (nI L, vv, zz, tt, aa, bb, ww, yw, yu, yf, ye, ys, yn)) →
      wY_extend_11 post (nI L) vv zz tt aa bb ww yw yu yf ye ys yn (d + 1) (nI t) := by
  intro d
  have hL := ne_V_len hV
  have hwl : ∀ i, i < L → w i < 11 := fun i hi => ne_V_lt hV hi
  induction d with
  | zero =>
    intro t ht _ hT hN
    have e : t = 11 := by omega
    subst e
    exact br_t (by decide) (hN (fun q m _ h => h))
  | succ d ih =>
    intro t ht h5 hT hN
    have ht' : t < 11 := by omega
    have step : (∀ q m, ne_V (cf_k vs wn tb) na nb (cf_s wn) q m → L < m → (∀ j, j < L → q j = w j) → q L ≠ t) → wY_extend_11 post (nI L) vv zz tt aa bb ww yw yu yf ye ys yn (d + 1) (nI (t + 1)) := by
      intro hq
      refine ih (t + 1) (by omega) (by omega) ?_ ?_
      · intro t' h1 h2 h3 h4
        exact hT t' (by omega) h2 (fun q m hv hr => h3 q m hv (df_next hr (hq q m hv))) h4
      · intro h3
        exact hN (fun q m hv hr => h3 q m hv (df_next hr (hq q m hv)))
    rw [wY_extend_11]
    dsimp only
    obtain ⟨K, rfl⟩ : ∃ K, L = K + 1 := ⟨L - 1, by omega⟩
    have e1 : nI (K + 1) - 1 = nI K := nI_pred K
    refine br_f (nI_ge (b := 11) ht' (by decide)) (yc_onWay hL ht' (fun i hi => ⟨hk.1 i hi, hwl i hi⟩) ?_ ?_)
    · rintro ⟨j, hj, ej⟩
      refine br_f (by decide) (nm_r (nI_1 t) (step ?_))
      intro q m hv hm ag e
      have := hv.2.2.2 j (K + 1) hj hm
      rw [ag j hj, e] at this
      exact this ej
    · intro hno
      refine br_t rfl ?_
      rw [e1, nI_clamp (n := K) (by omega), hk.1 K (by omega)]
      refine ⟨vp_in_nI (by omega) (by omega), yc_between W S (hwl K (by omega)) ht' ?_⟩
      have hb := ne_b_le (cf_k vs wn tb) na nb (cf_s wn) (w K) t (cf_s_le W) 12 (Nat.le_refl _)
      have hb' : ne_B (cf_k vs wn tb) na nb (cf_s wn) (w K) t ≤ 6 := hb
      refine pk_le (ne_B (cf_k vs wn tb) na nb (cf_s wn) (w K) t) 0 (fun h => nm_r (nI_1 t) (step ?_)) (fun h => ?_)
      · intro q m hv hm ag e
        have a := hv.2.2.1 K hm
        rw [ag K (by omega), e] at a
        have := a.2.2
        omega
      · have hV' : ne_V (cf_k vs wn tb) na nb (cf_s wn) (gp_u w (K + 1) t) (K + 1 + 1) := gp_app hV ⟨h5, ht', h⟩ hno
        have hl' := ne_V_len hV'
        exact yk_append W S (by omega) ht' hwl hk hF (fun yw' yu' yf' hs => hT t (Nat.le_refl _) ht' (fun q m _ h => h) hV' yw' yu' yf' hs)
theorem ya_91 {z : Nat} (hz : z < 11) {post : Int32 → SY → Prop} (h : post 1 (ln, vv, zz, tt, aa, bb, ww, yw, yu, yf, ye, ys, yn)) : wY_advance_91 post (nI z) ln vv zz tt aa bb ww yw yu yf ye ys yn := by
  unfold wY_advance_91
  exact br_f (nI_ge (b := 11) hz (by decide)) h
theorem ya_74 (W : cf_W vs zs na nb wn) (S : cf_Y vv zz tt aa bb ww vs zs na nb wn tb) {F : Prop} {w : Nat → Nat} {l L z : Nat} (hw : ∀ i, i < l → w i < 11) (hz : (l = 0 ∧ z = 0) ∨ (0 < l ∧ z = w 0 + 1)) {R0 : (Nat → Nat) → Nat → Prop} (hR : ∀ q m, ne_V (cf_k vs wn tb) na nb (cf_s wn) q m → R0 q m → df_R w 0 z q m) (hF : F → ∀ n, n < 11 → ye n = nI ((ne_W (cf_k vs wn tb) na nb (cf_s wn) zs) n)) {post : Int32 → SY → Prop}
    (hT : ∀ (w' : Nat → Nat) (l' : Nat) (yw' yu' yf' : Nat → Int32), ne_V (cf_k vs wn tb) na nb (cf_s wn) w' l' → yk_S (cf_k vs wn tb) na nb (cf_s wn) zs F w' l' yw' yu' yf' → (∀ q m, ne_V (cf_k vs wn tb) na nb (cf_s wn) q m → R0 q m → df_R w' l' 0 q m ∨ df_eq w' l' q m) → df_n w' l' < df_n w l → post 1 (nI l', vv, zz, tt, aa, bb, ww, yw', yu', yf', ye, ys, yn))
    (hN : (∀ q m, ne_V (cf_k vs wn tb) na nb (cf_s wn) q m → ¬ R0 q m) → post 0 (0, vv, zz, tt, aa, bb, ww, yw, yu, yf, ye, ys, yn)) : wY_advance_74 post (nI z) (nI L) vv zz tt aa bb ww yw yu yf ye ys yn := by
  have hz11 : z ≤ 11 := by
    rcases hz with h | h
    · omega
    · have := hw 0 h.1; omega
  unfold wY_advance_74
  refine pk_le 11 z (fun h => ?_) (fun h => ?_)
  · have e : z = 11 := by omega
    subst e
    unfold wY_advance_91
    refine br_t (by decide) (hN ?_)
    intro q m hv hr
    rcases hR q m hv hr with ⟨i, hi, _⟩ | ⟨h1, h2, h3⟩
    · omega
    · have := ne_V_lt hv h1; omega
  · refine yk_append W S (L := 0) (by omega) h (fun i hi => by omega) (yk_S0 (F := F) (w := w)) hF ?_
    intro yw' yu' yf' hs
    refine ya_91 h (hT _ 1 _ _ _ ?_ hs ?_ ?_)
    · exact gp_one (by rw [gp_us]; exact h)
    · intro q m hv hr
      exact df_push (hR q m hv hr)
    · refine df_n_fall hw (by omega) ?_ h (by omega)
      intro hl
      rcases hz with h | h <;> omega
theorem ya_17 (W : cf_W vs zs na nb wn) (S : cf_Y vv zz tt aa bb ww vs zs na nb wn tb) {F : Prop} {w : Nat → Nat} {l : Nat} (hV : 0 < l → ne_V (cf_k vs wn tb) na nb (cf_s wn) w l) (hF : F → ∀ n, n < 11 → ye n = nI ((ne_W (cf_k vs wn tb) na nb (cf_s wn) zs) n)) {R0 : (Nat → Nat) → Nat → Prop} {post : Int32 → SY → Prop}
    (hT : ∀ (w' : Nat → Nat) (l' : Nat) (yw' yu' yf' : Nat → Int32), ne_V (cf_k vs wn tb) na nb (cf_s wn) w' l' → yk_S (cf_k vs wn tb) na nb (cf_s wn) zs F w' l' yw' yu' yf' → (∀ q m, ne_V (cf_k vs wn tb) na nb (cf_s wn) q m → R0 q m → df_R w' l' 0 q m ∨ df_eq w' l' q m) → df_n w' l' < df_n w l → post 1 (nI l', vv, zz, tt, aa, bb, ww, yw', yu', yf', ye, ys, yn))
    (hN : (∀ q m, ne_V (cf_k vs wn tb) na nb (cf_s wn) q m → ¬ R0 q m) → post 0 (0, vv, zz, tt, aa, bb, ww, yw, yu, yf, ye, ys, yn)) :
    ∀ L, L ≤ l → yk_S (cf_k vs wn tb) na nb (cf_s wn) zs F w L yw yu yf → (0 < l → 0 < L) → (0 < L → ∀ q m, ne_V (cf_k vs wn tb) na nb (cf_s wn) q m → R0 q m → df_R w L 11 q m) → (L = 0 → ∀ q m, ne_V (cf_k vs wn tb) na nb (cf_s wn) q m → R0 q m → df_R w 0 0 q m) → wY_advance_17 post (L + 1) (nI L) vv zz tt aa bb ww yw yu yf ye ys yn := by
  intro L
  have hwl : ∀ i, i < l → w i < 11 := fun i hi => ne_V_lt (hV (by omega)) hi
  have hl11 : l ≤ 11 := by
    rcases Nat.eq_zero_or_pos l with z | z
    · omega
    · exact ne_V_len (hV z)
  have hno : ∀ K q m, ne_V (cf_k vs wn tb) na nb (cf_s wn) q m → K < m → 11 ≤ q K → False := by
    intro K q m hv h1 h2
    have := ne_V_lt hv h1
    omega
  induction L with
  | zero =>
    intro _ hk hp h1 h0
    rw [wY_advance_17]
    dsimp only
    refine br_t (by decide) (br_t (by decide) ?_)
    have hl0 : l = 0 := by
      rcases Nat.eq_zero_or_pos l with z | z
      · exact z
      · have := hp z; omega
    exact ya_74 W S (L := 0) (z := 0) hwl (Or.inl ⟨hl0, rfl⟩) (h0 rfl) hF hT hN
  | succ L ih =>
    intro hL hk hp h1 h0
    have hk' := yk_Sp hk (m := L) (by omega)
    have hr : ∀ q m, ne_V (cf_k vs wn tb) na nb (cf_s wn) q m → R0 q m → df_R w L (w L + 1) q m := fun q m hv hr => df_pop (h1 (by omega) q m hv hr) (fun a _ b => hno _ q m hv a b)
    rw [wY_advance_17]
    dsimp only
    refine pk_le (L + 1) 1 (fun h => ?_) (fun h => ?_)
    · have e : L = 0 := by omega
      subst e
      refine br_f (by decide) ?_
      have e0 : yw 0 + 1 = nI (w 0 + 1) := by rw [hk.1 0 (by omega)]; exact nI_1 _
      rw [e0]
      exact ya_74 W S hwl (Or.inr ⟨by omega, rfl⟩) hr hF hT hN
    · have e1 : nI (L + 1) - 1 = nI L := nI_pred L
      refine nm_r e1 ?_
      rw [nI_clamp (n := L) (by omega), hk.1 L (by omega)]
      refine ⟨vp_in_nI (by omega) (by omega), ?_⟩
      have e2 : nI (w L) + 1 = nI (w L + 1) := nI_1 _
      rw [e2]
      have hVl := hV (by omega)
      have hVL : ne_V (cf_k vs wn tb) na nb (cf_s wn) w L := gp_pre hVl (by omega) (by omega)
      have h5 : 5 ≤ w L := by
        obtain ⟨K, rfl⟩ : ∃ K, L = K + 1 := ⟨L - 1, by omega⟩
        exact (hVl.2.2.1 K (by omega)).1
      have hwL := hwl L (by omega)
      unfold wpY_extend
      dsimp only
      refine br_t (nI_le (a := 5) (by omega) (by omega)) ⟨11 - (w L + 1) + 1, ya_ext W S (by omega) hVL hk' hF (11 - (w L + 1)) (w L + 1) (by omega) (by omega) ?_ ?_⟩
      · intro t' h2 h3 h4 h6 yw' yu' yf' hs
        refine br_f (by decide) (hT _ _ _ _ _ h6 hs ?_ ?_)
        · intro q m hv hq
          exact df_push (h4 q m hv (hr q m hv hq))
        · exact df_n_fall hwl (by omega) (fun _ => by omega) h3 (by omega)
      · intro h2
        exact br_t rfl (ih (by omega) hk' (fun _ => by omega) (fun _ q m hv hq => h2 q m hv (hr q m hv hq)) (fun z => by omega))
theorem ya_advance (W : cf_W vs zs na nb wn) (S : cf_Y vv zz tt aa bb ww vs zs na nb wn tb) {F : Prop} {w : Nat → Nat} {l : Nat} (hV : 0 < l → ne_V (cf_k vs wn tb) na nb (cf_s wn) w l) (hk : yk_S (cf_k vs wn tb) na nb (cf_s wn) zs F w l yw yu yf) (hF : F → ∀ n, n < 11 → ye n = nI ((ne_W (cf_k vs wn tb) na nb (cf_s wn) zs) n)) {post : Int32 → SY → Prop}
    (hT : ∀ (w' : Nat → Nat) (l' : Nat) (yw' yu' yf' : Nat → Int32), ne_V (cf_k vs wn tb) na nb (cf_s wn) w' l' → yk_S (cf_k vs wn tb) na nb (cf_s wn) zs F w' l' yw' yu' yf' → (∀ q m, ne_V (cf_k vs wn tb) na nb (cf_s wn) q m → df_R w l 0 q m → df_R w' l' 0 q m ∨ df_eq w' l' q m) → df_n w' l' < df_n w l → post 1 (nI l', vv, zz, tt, aa, bb, ww, yw', yu', yf', ye, ys, yn))
    (hN : (∀ q m, ne_V (cf_k vs wn tb) na nb (cf_s wn) q m → ¬ df_R w l 0 q m) → post 0 (0, vv, zz, tt, aa, bb, ww, yw, yu, yf, ye, ys, yn)) : wpY_advance post (nI l, vv, zz, tt, aa, bb, ww, yw, yu, yf, ye, ys, yn) := by
  have hl11 : l ≤ 11 := by
    rcases Nat.eq_zero_or_pos l with z | z
    · omega
    · exact ne_V_len (hV z)
  have hwl : ∀ i, i < l → w i < 11 := fun i hi => ne_V_lt (hV (by omega)) hi
  unfold wpY_advance
  dsimp only
  refine pk_le l 0 (fun h => ?_) (fun h => ?_)
  · have e : l = 0 := by omega
    subst e
    exact ⟨1, ya_17 W S hV hF hT hN 0 (by omega) hk (fun z => z) (fun z => by omega) (fun _ q m _ hq => hq)⟩
  · have hVl := hV h
    have h5 : ∀ q m, ne_V (cf_k vs wn tb) na nb (cf_s wn) q m → df_R w l 0 q m → df_R w l 5 q m := by
      intro q m hv hq
      refine df_skip hq ?_
      intro hm _ _
      obtain ⟨K, rfl⟩ : ∃ K, l = K + 1 := ⟨l - 1, by omega⟩
      exact (hv.2.2.1 K hm).1
    unfold wpY_extend
    dsimp only
    refine br_f (by decide) ⟨7, ya_ext W S h hVl hk hF 6 5 rfl (by omega) ?_ ?_⟩
    · intro t' h2 h3 h4 h6 yw' yu' yf' hs
      have := ne_V_len h6
      refine br_f (by decide) (hT _ _ _ _ _ h6 hs ?_ ?_)
      · intro q m hv hq
        exact df_push (h4 q m hv (h5 q m hv hq))
      · exact df_n_fall hwl (by omega) (fun _ => by omega) h3 (by omega)
    · intro h2
      exact br_t rfl ⟨l + 1, ya_17 W S hV hF hT hN l (by omega) hk (fun _ => h) (fun _ q m hv hq => h2 q m hv (h5 q m hv hq)) (fun z => by omega)⟩
end
