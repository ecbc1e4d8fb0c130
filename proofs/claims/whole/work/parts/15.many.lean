/-! ===== would at an input, settle, unknowns, inputsFor ===== -/
theorem mo_a {x : Int32} {n v : Nat} {vs : Nat → Nat} (hx : ∀ i, i < 11 → bt x i = decide (i = n)) : ∀ m, m ≤ 11 → oc_a v x vs m = (decide (m ≤ n) || decide (vs n = v)) := by
  intro m
  induction m with
  | zero => intro _; rw [oc_a, decide_eq_true (Nat.zero_le n)]; rfl
  | succ m ih =>
    intro hm
    have a := ih (by omega)
    by_cases c : m = n
    · subst c
      rw [oc_aY (by rw [hx m (by omega), decide_eq_true rfl]), a, decide_eq_true (Nat.le_refl m), decide_eq_false (by omega : ¬ m + 1 ≤ m)]
      rfl
    · rw [oc_aN (by rw [hx m (by omega), decide_eq_false c]), a]
      by_cases d : m ≤ n
      · rw [decide_eq_true d, decide_eq_true (by omega : m + 1 ≤ n)]
      · rw [decide_eq_false d, decide_eq_false (by omega : ¬ m + 1 ≤ n)]
theorem mo_in {vs zs na nb wn : Nat → Nat} {tb : Nat → Bool} (W : cf_W vs zs na nb wn) {n : Nat} (hn : n < 5) : oc_v (ne_rt (cf_k vs wn tb) na nb (cf_s wn) zs (ne_W (cf_k vs wn tb) na nb (cf_s wn) zs) n) vs = vs n := by
  have hx : ∀ i, i < 11 → bt (ne_rt (cf_k vs wn tb) na nb (cf_s wn) zs (ne_W (cf_k vs wn tb) na nb (cf_s wn) zs) n) i = decide (i = n) := by
    intro i hi
    rw [Bool.eq_iff_iff, ne_rt_bt (by omega), decide_eq_true_eq]
    exact ne_Q_in hn (ne_W_in hn (cf_z7 W n (by omega)))
  have hv := W.2.2.1 n hn
  have a0 := mo_a (v := 0) (vs := vs) hx 11 (Nat.le_refl _)
  have a1 := mo_a (v := 1) (vs := vs) hx 11 (Nat.le_refl _)
  rw [decide_eq_false (by omega : ¬ 11 ≤ n), Bool.false_or] at a0 a1
  unfold oc_v
  rw [a0, a1]
  by_cases c : vs n = 0
  · rw [c]; rfl
  · have c1 : vs n = 1 := by omega
    rw [c1]; rfl
noncomputable def st_v (vs zs na nb wn : Nat → Nat) (tb : Nat → Bool) : Nat → Nat := fun n => if 5 ≤ n then oc_v (ne_rt (cf_k vs wn tb) na nb (cf_s wn) zs (ne_W (cf_k vs wn tb) na nb (cf_s wn) zs) n) vs else vs n
theorem st_hi {vs zs na nb wn : Nat → Nat} {tb : Nat → Bool} {n : Nat} (h : 5 ≤ n) : st_v vs zs na nb wn tb n = oc_v (ne_rt (cf_k vs wn tb) na nb (cf_s wn) zs (ne_W (cf_k vs wn tb) na nb (cf_s wn) zs) n) vs := if_pos h
theorem st_lo {vs zs na nb wn : Nat → Nat} {tb : Nat → Bool} {n : Nat} (h : n < 5) : st_v vs zs na nb wn tb n = vs n := if_neg (by omega)
def st_c (f g : Nat → Nat) : Nat → Nat
  | 0 => 0
  | k + 1 => if f k = g k then st_c f g k else st_c f g k + 1
section
variable {fs fp : Int32} {ch sz ea eb kd ga sr we ro se : Nat → Int32} {ln : Int32} {vv zz tt aa bb ww yw yu yf ye ys yn : Nat → Int32} {vs zs na nb wn : Nat → Nat} {tb : Nat → Bool}
theorem st_le (W : cf_W vs zs na nb wn) {n : Nat} (hn : n < 11) : st_v vs zs na nb wn tb n ≤ 2 := by
  by_cases c : 5 ≤ n
  · rw [st_hi c]; exact oc_v_le _ _
  · rw [st_lo (by omega)]; exact W.2.2.2.1 n hn
theorem st_W (W : cf_W vs zs na nb wn) : cf_W (st_v vs zs na nb wn tb) zs na nb wn := by
  have h := W
  obtain ⟨a1, a2, a3, a4, a5, a6, a7⟩ := h
  refine ⟨?_, ?_, ?_, fun n hn => st_le W hn, a5, a6, a7⟩
  · rw [st_lo (by omega)]; exact a1
  · rw [st_lo (by omega)]; exact a2
  · intro n hn
    rw [st_lo hn]; exact a3 n hn
theorem st_c5 : st_c vs (st_v vs zs na nb wn tb) 5 = 0 := by
  have h : ∀ k, k ≤ 5 → st_c vs (st_v vs zs na nb wn tb) k = 0 := by
    intro k
    induction k with
    | zero => intro _; rfl
    | succ k ih => intro hk; rw [st_c, st_lo (by omega), if_pos rfl]; exact ih (by omega)
  exact h 5 (Nat.le_refl _)
theorem st_cle (f g : Nat → Nat) : ∀ k, st_c f g k ≤ k := by
  intro k
  induction k with
  | zero => exact Nat.le_refl _
  | succ k ih => rw [st_c]; split <;> omega
theorem st_X41 (W : cf_W vs zs na nb wn) {post : Int32 → SX → Prop} (h : ∀ ch : Nat → Int32, (∀ n, 5 ≤ n → n < 11 → ch n = nI (st_v vs zs na nb wn tb n)) → post (nI (st_c vs (st_v vs zs na nb wn tb) 11)) (fs, fp, ch, sz, ea, eb, kd, ga, sr, we, ro, se)) (hse : ∀ n, 5 ≤ n → n < 11 → se n = nI (st_v vs zs na nb wn tb n)) :
    ∀ d k (ch : Nat → Int32), 5 ≤ k → k + d = 11 → (∀ n, 5 ≤ n → n < 11 → ch n = nI (if n < k then st_v vs zs na nb wn tb n else vs n)) → wX_settle_41 post fs fp (d + 1) (nI (st_c vs (st_v vs zs na nb wn tb) k)) (nI k) ch sz ea eb kd ga sr we ro se := by
  intro d
  induction d with
  | zero =>
    intro k ch h5 hk hc
    have e : k = 11 := by omega
    subst e
    refine br_t (by decide) (h ch ?_)
    intro n h5 h11
    rw [hc n h5 h11, if_pos h11]
  | succ d ih =>
    intro k ch h5 hk hc
    have hk' : k < 11 := by omega
    have hi : vp_in (nI k) 11 := vp_in_nI hk' (by omega)
    have hl := st_le (tb := tb) W hk'
    have hv := W.2.2.2.1 k hk'
    have e1 : ch k = nI (vs k) := by rw [hc k h5 hk', if_neg (by omega)]
    have J := fun ch' => ih (k + 1) ch' (by omega) (by omega)
    rw [st_c] at J
    rw [wX_settle_41]
    dsimp only
    rw [nI_clamp (n := k) (by omega), e1, hse k h5 hk']
    refine br_f (nI_ge (b := 11) hk' (by decide)) ⟨hi, hi, pk_eq (vs k) (st_v vs zs na nb wn tb k) (fun e => nm_r (nI_1 k) ?_) (fun e => ⟨hi, hi, nm_e (nm_r (nI_1 _) (nm_r (nI_1 k) ?_))⟩)⟩
    · rw [if_pos e] at J
      refine J ch ?_
      intro n h5 h11
      rw [hc n h5 h11]
      by_cases c : n = k
      · subst c; rw [if_neg (by omega), if_pos (by omega), e]
      · by_cases c2 : n < k
        · rw [if_pos c2, if_pos (by omega)]
        · rw [if_neg c2, if_neg (by omega)]
    · rw [if_neg e] at J
      refine J _ ?_
      intro n h5 h11
      by_cases c : n = k
      · subst c; rw [pk_us, if_pos (by omega)]
      · rw [pk_un c, hc n h5 h11]
        by_cases c2 : n < k
        · rw [if_pos c2, if_pos (by omega)]
        · rw [if_neg c2, if_neg (by omega)]
theorem st_X10 (W : cf_W vs zs na nb wn) (S : cf_X fs fp ch sz ea eb kd ga sr vs zs na nb wn tb) (hr : ∀ n, n < 11 → ro n = ne_rt (cf_k vs wn tb) na nb (cf_s wn) zs (ne_W (cf_k vs wn tb) na nb (cf_s wn) zs) n) {post : Int32 → SX → Prop} (h : ∀ ch se : Nat → Int32, (∀ n, 5 ≤ n → n < 11 → ch n = nI (st_v vs zs na nb wn tb n)) → post (nI (st_c vs (st_v vs zs na nb wn tb) 11)) (fs, fp, ch, sz, ea, eb, kd, ga, sr, we, ro, se)) :
    ∀ d k (se : Nat → Int32), 5 ≤ k → k + d = 11 → (∀ n, 5 ≤ n → n < k → se n = nI (st_v vs zs na nb wn tb n)) → wX_settle_10 post fs fp (d + 1) (nI k) ch sz ea eb kd ga sr we ro se := by
  intro d
  induction d with
  | zero =>
    intro k se h5 hk hs
    have e : k = 11 := by omega
    subst e
    refine br_t (by decide) ⟨7, ?_⟩
    have a := st_X41 (fs := fs) (fp := fp) (sz := sz) (ea := ea) (eb := eb) (kd := kd) (ga := ga) (sr := sr) (we := we) (ro := ro) W (fun ch hc => h ch se hc) hs 6 5 ch (Nat.le_refl _) rfl (fun n h5 h11 => by rw [if_neg (by omega)]; exact S.2.2.1 n h5 h11)
    rw [st_c5] at a
    exact a
  | succ d ih =>
    intro k se h5 hk hs
    have hk' : k < 11 := by omega
    rw [wX_settle_10]
    dsimp only
    rw [nI_clamp (n := k) (by omega)]
    refine br_f (nI_ge (b := 11) hk' (by decide)) (xo_outcome W S hk' ⟨vp_in_nI hk' (by omega), nm_e (nm_r (nI_1 k) (ih (k + 1) _ (by omega) (by omega) ?_))⟩)
    intro n h5' hn
    by_cases c : n = k
    · subst c; rw [pk_us, st_hi h5', hr n hk']
    · rw [pk_un c]; exact hs n h5' (by omega)
theorem st_Xc (S : cf_X fs fp ch sz ea eb kd ga sr vs zs na nb wn tb) {ch' : Nat → Int32} (hc : ∀ n, 5 ≤ n → n < 11 → ch' n = nI (st_v vs zs na nb wn tb n)) : cf_X fs fp ch' sz ea eb kd ga sr (st_v vs zs na nb wn tb) zs na nb wn tb := by
  obtain ⟨a1, a2, a3, a4, a5, a6⟩ := S
  refine ⟨?_, a2, hc, a4, a5, a6⟩
  intro i hi
  rw [st_lo (by omega)]; exact a1 i hi
theorem st_X (W : cf_W vs zs na nb wn) (S : cf_X fs fp ch sz ea eb kd ga sr vs zs na nb wn tb) {post : Int32 → SX → Prop} (h : ∀ ch we ro se : Nat → Int32, cf_X fs fp ch sz ea eb kd ga sr (st_v vs zs na nb wn tb) zs na nb wn tb → post (nI (st_c vs (st_v vs zs na nb wn tb) 11)) (fs, fp, ch, sz, ea, eb, kd, ga, sr, we, ro, se)) : wpX_settle post (fs, fp, ch, sz, ea, eb, kd, ga, sr, we, ro, se) := by
  unfold wpX_settle
  dsimp only
  refine xr_trace W S ?_
  intro we ro _ hr
  exact ⟨7, st_X10 W S hr (fun ch se hc => h ch we ro se (st_Xc S hc)) 6 5 se (Nat.le_refl _) rfl (fun n a b => by omega)⟩
theorem st_Y47 (W : cf_W vs zs na nb wn) {post : Int32 → SY → Prop} (h : ∀ vv : Nat → Int32, (∀ n, n < 11 → vv n = nI (st_v vs zs na nb wn tb n)) → post (nI (st_c vs (st_v vs zs na nb wn tb) 11)) (ln, vv, zz, tt, aa, bb, ww, yw, yu, yf, ye, ys, yn)) (hse : ∀ n, n < 11 → yn n = nI (st_v vs zs na nb wn tb n)) :
    ∀ d k (vv : Nat → Int32), k + d = 11 → (∀ n, n < 11 → vv n = nI (if n < k then st_v vs zs na nb wn tb n else vs n)) → wY_settle_47 post ln (d + 1) (nI (st_c vs (st_v vs zs na nb wn tb) k)) (nI k) vv zz tt aa bb ww yw yu yf ye ys yn := by
  intro d
  induction d with
  | zero =>
    intro k vv hk hc
    have e : k = 11 := by omega
    subst e
    refine br_t (by decide) (h vv ?_)
    intro n h11
    rw [hc n h11, if_pos h11]
  | succ d ih =>
    intro k vv hk hc
    have hk' : k < 11 := by omega
    have hi : vp_in (nI k) 11 := vp_in_nI hk' (by omega)
    have hl := st_le (tb := tb) W hk'
    have hv := W.2.2.2.1 k hk'
    have e1 : vv k = nI (vs k) := by rw [hc k hk', if_neg (by omega)]
    have J := ih (k + 1) (upd vv k (nI (st_v vs zs na nb wn tb k))) (by omega) (by
      intro n h11
      by_cases c : n = k
      · subst c; rw [pk_us, if_pos (by omega)]
      · rw [pk_un c, hc n h11]
        by_cases c2 : n < k
        · rw [if_pos c2, if_pos (by omega)]
        · rw [if_neg c2, if_neg (by omega)])
    rw [st_c] at J
    rw [wY_settle_47]
    dsimp only
    unfold wY_settle_75
    rw [nI_clamp (n := k) (by omega), e1, hse k hk']
    refine br_f (nI_ge (b := 11) hk' (by decide)) ⟨hi, hi, pk_eq (st_v vs zs na nb wn tb k) (vs k) (fun e => ⟨hi, hi, nm_e (nm_r (nI_1 k) ?_)⟩) (fun e => ⟨hi, hi, nm_e (nm_r (nI_1 k) ?_)⟩)⟩
    · rw [if_pos e.symm] at J
      exact J
    · rw [if_neg (fun z => e z.symm), ← nI_1] at J
      exact J
theorem st_Y6 (W : cf_W vs zs na nb wn) (S : cf_Y vv zz tt aa bb ww vs zs na nb wn tb) (hr : ∀ n, n < 11 → ys n = ne_rt (cf_k vs wn tb) na nb (cf_s wn) zs (ne_W (cf_k vs wn tb) na nb (cf_s wn) zs) n) {post : Int32 → SY → Prop} (h : ∀ vv yn : Nat → Int32, (∀ n, n < 11 → vv n = nI (st_v vs zs na nb wn tb n)) → post (nI (st_c vs (st_v vs zs na nb wn tb) 11)) (ln, vv, zz, tt, aa, bb, ww, yw, yu, yf, ye, ys, yn)) :
    ∀ d k (yn : Nat → Int32), k + d = 11 → (∀ n, n < k → yn n = nI (st_v vs zs na nb wn tb n)) → wY_settle_6 post ln (d + 1) (nI k) vv zz tt aa bb ww yw yu yf ye ys yn := by
  intro d
  induction d with
  | zero =>
    intro k yn hk hs
    have e : k = 11 := by omega
    subst e
    exact br_t (by decide) ⟨12, st_Y47 W (fun vv hc => h vv yn hc) hs 11 0 vv rfl (fun n h11 => by rw [if_neg (by omega)]; exact S.1 n h11)⟩
  | succ d ih =>
    intro k yn hk hs
    have hk' : k < 11 := by omega
    have hi : vp_in (nI k) 11 := vp_in_nI hk' (by omega)
    have hn : ∀ x : Int32, x = nI (st_v vs zs na nb wn tb k) → ∀ n, n < k + 1 → upd yn k x n = nI (st_v vs zs na nb wn tb n) := by
      intro x hx n hn
      by_cases c : n = k
      · subst c; rw [pk_us, hx]
      · rw [pk_un c]; exact hs n (by omega)
    rw [wY_settle_6]
    dsimp only
    rw [nI_clamp (n := k) (by omega)]
    refine br_f (nI_ge (b := 11) hk' (by decide)) (pk_le 5 k (fun h5 => yr_after W S hk' ⟨hi, nm_e (nm_r (nI_1 k) (ih (k + 1) _ (by omega) (hn _ ?_)))⟩) (fun h5 => ⟨hi, hi, nm_e (nm_r (nI_1 k) (ih (k + 1) _ (by omega) (hn _ ?_)))⟩))
    · rw [st_hi h5, hr k hk']
    · rw [st_lo h5, S.1 k hk']
theorem st_Y (W : cf_W vs zs na nb wn) (S : cf_Y vv zz tt aa bb ww vs zs na nb wn tb) {post : Int32 → SY → Prop} (h : ∀ (ln : Int32) (vv zz tt aa bb ww yw yu yf ye ys yn : Nat → Int32), cf_Y vv zz tt aa bb ww (st_v vs zs na nb wn tb) zs na nb wn tb → post (nI (st_c vs (st_v vs zs na nb wn tb) 11)) (ln, vv, zz, tt, aa, bb, ww, yw, yu, yf, ye, ys, yn)) : wpY_settle post (ln, vv, zz, tt, aa, bb, ww, yw, yu, yf, ye, ys, yn) := by
  unfold wpY_settle
  dsimp only
  refine yo_work W S ?_
  intro yw yu yf ye ys _ hr
  exact ⟨12, st_Y6 W S hr (fun vv yn hc => h _ _ _ _ _ _ _ _ _ _ _ _ _ ⟨hc, S.2.1, S.2.2.1, S.2.2.2⟩) 11 0 yn rfl (fun n hn => by omega)⟩
/-! unknowns -/
noncomputable def un_c (vs zs na nb wn : Nat → Nat) (tb : Nat → Bool) : Nat → Nat
  | 0 => 0
  | k + 1 => if oc_v (ne_rt (cf_k vs wn tb) na nb (cf_s wn) zs (ne_W (cf_k vs wn tb) na nb (cf_s wn) zs) (5 + k)) vs = 2 then un_c vs zs na nb wn tb k + 1 else un_c vs zs na nb wn tb k
theorem un_X (W : cf_W vs zs na nb wn) (S : cf_X fs fp ch sz ea eb kd ga sr vs zs na nb wn tb) (hr : ∀ n, n < 11 → ro n = ne_rt (cf_k vs wn tb) na nb (cf_s wn) zs (ne_W (cf_k vs wn tb) na nb (cf_s wn) zs) n) {post : Int32 → SX → Prop} (h : post (nI (un_c vs zs na nb wn tb 6)) (fs, fp, ch, sz, ea, eb, kd, ga, sr, we, ro, se)) : ∀ d k, k + d = 6 → wX_unknowns_12 post fs fp ch sz ea eb kd ga sr we ro se (d + 1) (nI (un_c vs zs na nb wn tb k)) (nI (5 + k)) := by
  intro d
  induction d with
  | zero =>
    intro k hk
    have e : k = 6 := by omega
    subst e
    exact br_t (by decide) h
  | succ d ih =>
    intro k hk
    have J := ih (k + 1) (by omega)
    have hv := oc_v_le (ne_rt (cf_k vs wn tb) na nb (cf_s wn) zs (ne_W (cf_k vs wn tb) na nb (cf_s wn) zs) (5 + k)) vs
    rw [un_c] at J
    rw [wX_unknowns_12]
    dsimp only
    refine br_f (nI_ge (b := 11) (by omega) (by decide)) (xo_outcome W S (by omega) ?_)
    rw [hr (5 + k) (by omega)]
    refine pk_eq (oc_v (ne_rt (cf_k vs wn tb) na nb (cf_s wn) zs (ne_W (cf_k vs wn tb) na nb (cf_s wn) zs) (5 + k)) vs) 2 (fun e => nm_r (nI_1 _) (nm_r (nI_1 _) ?_)) (fun e => nm_r (nI_1 _) ?_)
    · rw [if_pos e] at J; exact J
    · rw [if_neg e] at J; exact J
theorem un_Y (W : cf_W vs zs na nb wn) (S : cf_Y vv zz tt aa bb ww vs zs na nb wn tb) (hr : ∀ n, n < 11 → ys n = ne_rt (cf_k vs wn tb) na nb (cf_s wn) zs (ne_W (cf_k vs wn tb) na nb (cf_s wn) zs) n) {post : Int32 → SY → Prop} (h : post (nI (un_c vs zs na nb wn tb 6)) (ln, vv, zz, tt, aa, bb, ww, yw, yu, yf, ye, ys, yn)) : ∀ d k, k + d = 6 → wY_unknowns_8 post ln vv zz tt aa bb ww yw yu yf ye ys yn (d + 1) (nI (un_c vs zs na nb wn tb k)) (nI (5 + k)) := by
  intro d
  induction d with
  | zero =>
    intro k hk
    have e : k = 6 := by omega
    subst e
    exact br_t (by decide) h
  | succ d ih =>
    intro k hk
    have J := ih (k + 1) (by omega)
    have hv := oc_v_le (ne_rt (cf_k vs wn tb) na nb (cf_s wn) zs (ne_W (cf_k vs wn tb) na nb (cf_s wn) zs) (5 + k)) vs
    rw [un_c] at J
    rw [wY_unknowns_8]
    dsimp only
    refine br_f (nI_ge (b := 11) (by omega) (by decide)) (yr_after W S (by omega) ?_)
    rw [hr (5 + k) (by omega)]
    refine pk_eq (oc_v (ne_rt (cf_k vs wn tb) na nb (cf_s wn) zs (ne_W (cf_k vs wn tb) na nb (cf_s wn) zs) (5 + k)) vs) 2 (fun e => nm_r (nI_1 _) (nm_r (nI_1 _) ?_)) (fun e => nm_r (nI_1 _) ?_)
    · rw [if_pos e] at J; exact J
    · rw [if_neg e] at J; exact J
end
/-! inputsFor -/
def if_v (vs : Nat → Nat) (t : Nat) : Nat → Nat := fun n => if n = 2 then t % 2 else if n = 3 then t / 2 % 2 else if n = 4 then t / 4 % 2 else vs n
theorem if_2 {vs : Nat → Nat} {t : Nat} : if_v vs t 2 = t % 2 := rfl
theorem if_3 {vs : Nat → Nat} {t : Nat} : if_v vs t 3 = t / 2 % 2 := rfl
theorem if_4 {vs : Nat → Nat} {t : Nat} : if_v vs t 4 = t / 4 % 2 := rfl
theorem if_o {vs : Nat → Nat} {t n : Nat} (h2 : n ≠ 2) (h3 : n ≠ 3) (h4 : n ≠ 4) : if_v vs t n = vs n := by
  unfold if_v
  rw [if_neg h2, if_neg h3, if_neg h4]
theorem if_le {vs : Nat → Nat} {t n : Nat} (h : 2 ≤ n) (h5 : n < 5) : if_v vs t n ≤ 1 := by
  have c : n = 2 ∨ n = 3 ∨ n = 4 := by omega
  rcases c with c | c | c <;> subst c
  · rw [if_2]; omega
  · rw [if_3]; omega
  · rw [if_4]; omega
noncomputable def if_a (vs zs na nb wn : Nat → Nat) (tb : Nat → Bool) (s t : Nat) : Nat :=
  oc_v (ne_rt (cf_k (if_v vs t) wn tb) na nb (cf_s wn) zs (ne_W (cf_k (if_v vs t) wn tb) na nb (cf_s wn) zs) s) (if_v vs t)
def if_l (f : Nat → Nat) (v : Nat) : Nat → Int32
  | 0 => -1
  | d + 1 => if f (7 - d) = v then nI (7 - d) else if_l f v d
theorem if_bits : ∀ t, t < 8 → bt (nI t) 0 = decide (t % 2 = 1) ∧ bt (nI t) 1 = decide (t / 2 % 2 = 1) ∧ bt (nI t) 2 = decide (t / 4 % 2 = 1) := by decide +kernel
theorem if_put : ∀ t, t < 8 → (nI t &&& 1) = nI (t % 2) ∧ ((nI t >>> ((1 : Int32) &&& 31)) &&& 1) = nI (t / 2 % 2) ∧ (nI t >>> ((2 : Int32) &&& 31)) = nI (t / 4 % 2) := by decide +kernel
theorem if_old : ∀ a, a < 2 → ∀ b, b < 2 → ∀ c, c < 2 → ((nI a ||| (nI b <<< ((1 : Int32) &&& 31))) ||| (nI c <<< ((2 : Int32) &&& 31))) = nI (a + 2 * b + 4 * c) := by decide +kernel
section
variable {fs fp : Int32} {ch sz ea eb kd ga sr we ro se : Nat → Int32} {ln : Int32} {vv zz tt aa bb ww yw yu yf ye ys yn : Nat → Int32} {vs zs na nb wn : Nat → Nat} {tb : Nat → Bool}
theorem if_W (W : cf_W vs zs na nb wn) {t : Nat} : cf_W (if_v vs t) zs na nb wn := by
  obtain ⟨a1, a2, a3, a4, a5, a6, a7⟩ := W
  refine ⟨?_, ?_, ?_, ?_, a5, a6, a7⟩
  · rw [if_o (by omega) (by omega) (by omega)]; exact a1
  · rw [if_o (by omega) (by omega) (by omega)]; exact a2
  · intro n hn
    by_cases c : 2 ≤ n
    · exact if_le c hn
    · rw [if_o (by omega) (by omega) (by omega)]; exact a3 n hn
  · intro n hn
    by_cases c : 2 ≤ n ∧ n < 5
    · have := if_le (vs := vs) (t := t) c.1 c.2; omega
    · rw [if_o (by omega) (by omega) (by omega)]; exact a4 n hn
theorem if_X (S : cf_X fs fp ch sz ea eb kd ga sr vs zs na nb wn tb) {t : Nat} (ht : t < 8) : cf_X (nI t) fp ch sz ea eb kd ga sr (if_v vs t) zs na nb wn tb := by
  obtain ⟨a1, a2, a3, a4, a5, a6⟩ := S
  refine ⟨?_, a2, ?_, a4, a5, a6⟩
  · intro i hi
    have b := if_bits t ht
    have c : i = 0 ∨ i = 1 ∨ i = 2 := by omega
    rcases c with c | c | c <;> subst c
    · exact b.1
    · exact b.2.1
    · exact b.2.2
  · intro n h5 h11
    rw [if_o (by omega) (by omega) (by omega)]; exact a3 n h5 h11
theorem if_X20 (W : cf_W vs zs na nb wn) (S : cf_X fs fp ch sz ea eb kd ga sr vs zs na nb wn tb) {s v : Nat} (hs : s < 11) (hv : v ≤ 2) {post : Int32 → SX → Prop} : ∀ d t (we ro : Nat → Int32), t + d = 8 → (∀ we ro : Nat → Int32, post (if_l (if_a vs zs na nb wn tb s) v d) (fs, fp, ch, sz, ea, eb, kd, ga, sr, we, ro, se)) → wX_inputsFor_20 post (nI s) (nI v) (d + 1) (nI t) fs fp ch sz ea eb kd ga sr we ro se := by
  intro d
  induction d with
  | zero =>
    intro t we ro ht h
    have e : t = 8 := by omega
    subst e
    exact br_t (by decide) (h we ro)
  | succ d ih =>
    intro t we ro ht h
    have ht' : t < 8 := by omega
    have e7 : 7 - d = t := by omega
    rw [if_l, e7] at h
    rw [wX_inputsFor_20]
    dsimp only
    refine br_f (nI_ge (b := 8) ht' (by decide)) (xr_trace (if_W W) (if_X S ht') ?_)
    intro we ro _ hr
    dsimp only
    refine xo_outcome (if_W W) (if_X S ht') hs ?_
    rw [hr s hs]
    have hl : if_a vs zs na nb wn tb s t ≤ 2 := oc_v_le _ _
    refine pk_eq (if_a vs zs na nb wn tb s t) v (fun e => ?_) (fun e => nm_r (nI_1 t) (ih (t + 1) we ro (by omega) ?_))
    · rw [if_pos e] at h; exact h we ro
    · rw [if_neg e] at h; exact h
theorem if_Yput {t : Nat} (ht : t < 8) {vs' : Nat → Nat} (ho : ∀ n, n ≠ 2 → n ≠ 3 → n ≠ 4 → vs' n = vs n) (S : cf_Y vv zz tt aa bb ww vs' zs na nb wn tb) {post : SY → Prop} (h : ∀ vv : Nat → Int32, cf_Y vv zz tt aa bb ww (if_v vs t) zs na nb wn tb → post (ln, vv, zz, tt, aa, bb, ww, yw, yu, yf, ye, ys, yn)) : wpY_inputs post (ln, vv, zz, tt, aa, bb, ww, yw, yu, yf, ye, ys, yn) (nI t) := by
  obtain ⟨e2, e3, e4⟩ := if_put t ht
  unfold wpY_inputs
  dsimp only
  rw [e2, e3, e4]
  refine nm_e (nm_e (nm_e (h _ ⟨?_, S.2.1, S.2.2.1, S.2.2.2⟩)))
  intro n hn
  by_cases c4 : n = 4
  · subst c4; rw [pk_us, if_4]
  · rw [pk_un c4]
    by_cases c3 : n = 3
    · subst c3; rw [pk_us, if_3]
    · rw [pk_un c3]
      by_cases c2 : n = 2
      · subst c2; rw [pk_us, if_2]
      · rw [pk_un c2, if_o c2 c3 c4, S.1 n hn, ho n c2 c3 c4]
theorem if_Yw (W : cf_W vs zs na nb wn) (S : cf_Y vv zz tt aa bb ww vs zs na nb wn tb) {s : Nat} (h5 : 5 ≤ s) (h11 : s < 11) {post : Int32 → SY → Prop} (h : ∀ (ln : Int32) (yw yu yf ye ys : Nat → Int32), post (nI (oc_v (ne_rt (cf_k vs wn tb) na nb (cf_s wn) zs (ne_W (cf_k vs wn tb) na nb (cf_s wn) zs) s) vs)) (ln, vv, zz, tt, aa, bb, ww, yw, yu, yf, ye, ys, yn)) : wpY_would post (ln, vv, zz, tt, aa, bb, ww, yw, yu, yf, ye, ys, yn) (nI s) := by
  unfold wpY_would
  dsimp only
  refine yo_work W S ?_
  intro yw yu yf ye ys _ hr
  dsimp only
  refine yc_node (by omega) (fun _ => br_f (by decide) (br_t (nI_le (a := 5) h5 (by omega)) (yr_after W S h11 ?_))) (fun z => by omega)
  rw [hr s h11]
  exact h _ _ _ _ _ _
theorem if_Y51 (W : cf_W vs zs na nb wn) {s v o : Nat} (h5 : 5 ≤ s) (h11 : s < 11) (hv : v ≤ 2) (ho8 : o < 8) (ho : ∀ n, if_v vs o n = vs n) {post : Int32 → SY → Prop} (h : ∀ (ln : Int32) (vv zz tt aa bb ww yw yu yf ye ys yn : Nat → Int32), cf_Y vv zz tt aa bb ww vs zs na nb wn tb → post (if_l (if_a vs zs na nb wn tb s) v 8) (ln, vv, zz, tt, aa, bb, ww, yw, yu, yf, ye, ys, yn)) :
    ∀ t (ln : Int32) (vv yw yu yf ye ys : Nat → Int32) (vs' : Nat → Nat), t ≤ 8 → (∀ n, n ≠ 2 → n ≠ 3 → n ≠ 4 → vs' n = vs n) → cf_Y vv zz tt aa bb ww vs' zs na nb wn tb → wY_inputsFor_51 post (nI s) (nI v) (nI o) (t + 1) (if_l (if_a vs zs na nb wn tb s) v (8 - t)) (nI t + (-1)) ln vv zz tt aa bb ww yw yu yf ye ys yn := by
  intro t
  induction t with
  | zero =>
    intro ln vv yw yu yf ye ys vs' _ hn S
    refine br_t (by decide) (if_Yput ho8 hn S ?_)
    intro vv S'
    have e : if_v vs o = vs := funext ho
    rw [e] at S'
    exact h _ _ _ _ _ _ _ _ _ _ _ _ _ S'
  | succ t ih =>
    intro ln vv yw yu yf ye ys vs' ht hn S
    have ht' : t < 8 := by omega
    rw [pk_m1, wY_inputsFor_51]
    dsimp only
    refine br_f (nI_pos (by omega)) (if_Yput ht' hn S ?_)
    intro vv S'
    dsimp only
    refine if_Yw (if_W W) S' h5 h11 ?_
    intro ln yw yu yf ye ys
    dsimp only
    have J := ih ln vv yw yu yf ye ys (if_v vs t) (by omega) (fun n a b c => if_o a b c) S'
    have e8 : 8 - t = (7 - t) + 1 := by omega
    have e7 : 7 - (7 - t) = t := by omega
    have e8' : 8 - (t + 1) = 7 - t := by omega
    rw [e8, if_l, e7] at J
    rw [e8']
    have hl : if_a vs zs na nb wn tb s t ≤ 2 := oc_v_le _ _
    refine pk_eq (if_a vs zs na nb wn tb s t) v (fun e => nm_e ?_) (fun e => nm_e ?_)
    · rw [if_pos e] at J; exact J
    · rw [if_neg e] at J; exact J
end
