/-! ===== the component's trace ===== -/
section
variable {fs fp : Int32} {ch sz ea eb kd ga sr we ro se : Nat → Int32} {vs zs na nb wn : Nat → Nat} {tb : Nat → Bool} {inp : Int32}
def xw_N (wt : Nat → Nat) (we : Nat → Int32) : Prop := ∀ n, n < 11 → we n = nI (wt n) ∧ wt n ≤ 7
theorem xw_carry {wt : Nat → Nat} (hN : xw_N wt we) {p q s : Nat} (hp : p < 11) (hq : q < 11) (hs : s ≤ 6) {post : SX → Prop}
    (h : ∀ (wt' : Nat → Nat) (we' : Nat → Int32), xw_N wt' we' → (∀ x n, x ≤ wt' n ↔ x ≤ wt n ∨ (n = q ∧ 5 ≤ q ∧ x ≤ wt p ∧ x ≤ s)) → post (fs, fp, ch, sz, ea, eb, kd, ga, sr, we', ro, se)) : wpX_carryWeight post (fs, fp, ch, sz, ea, eb, kd, ga, sr, we, ro, se) (nI p) (nI q) (nI s) := by
  have h1 := hN p hp
  have h2 := hN q hq
  have hmp : Nat.min (wt p) s ≤ wt p := Nat.min_le_left _ _
  have hms : Nat.min (wt p) s ≤ s := Nat.min_le_right _ _
  unfold wpX_carryWeight
  dsimp only
  rw [nI_clamp (n := p) (by omega), nI_clamp (n := q) (by omega), h1.1, h2.1]
  refine ⟨vp_in_nI hp (by omega), xc_lesser (by omega) (by omega) (xc_store (by omega) (fun h5 _ => br_f (by decide) ⟨vp_in_nI hq (by omega), ?_⟩) (fun h5 => br_t rfl (h wt we hN ?_)))⟩
  · refine pk_le (Nat.min (wt p) s) (wt q) (fun hle => h wt we hN ?_) (fun hlt => ⟨vp_in_nI hq (by omega), nm_e (h (gp_u wt q (Nat.min (wt p) s)) _ ?_ ?_)⟩)
    · intro x n
      refine ⟨Or.inl, ?_⟩
      rintro (a | ⟨e, _, a, b⟩)
      · exact a
      · subst e
        have : x ≤ Nat.min (wt p) s := Nat.le_min.mpr ⟨a, b⟩
        omega
    · intro n hn
      by_cases c : n = q
      · subst c; rw [pk_us, gp_us]; exact ⟨rfl, by omega⟩
      · rw [pk_un c, gp_un c]; exact hN n hn
    · intro x n
      by_cases c : n = q
      · subst c
        rw [gp_us]
        constructor
        · intro a; exact Or.inr ⟨rfl, h5, by omega, by omega⟩
        · rintro (a | ⟨_, _, a, b⟩)
          · omega
          · exact Nat.le_min.mpr ⟨a, b⟩
      · rw [gp_un c]
        refine ⟨Or.inl, ?_⟩
        rintro (a | ⟨e, _⟩)
        · exact a
        · exact absurd e c
  · intro x n
    refine ⟨Or.inl, ?_⟩
    rintro (a | ⟨e, a, _⟩)
    · exact a
    · omega
theorem xw_35 (W : cf_W vs zs na nb wn) (S : cf_X inp fp ch sz ea eb kd ga sr vs zs na nb wn tb) {r : Nat} {post : SX → Prop} {J : Int32 → Int32 → Int32 → (Nat → Int32) → (Nat → Int32) → (Nat → Int32) → (Nat → Int32) → (Nat → Int32) → (Nat → Int32) → (Nat → Int32) → (Nat → Int32) → (Nat → Int32) → (Nat → Int32) → Prop}
    (hJ : ∀ (wt : Nat → Nat) (we : Nat → Int32), xw_N wt we → (∀ x, (∀ n, gl_L (fun n => n < 11 ∧ x ≤ zs n) (ne_T (cf_k vs wn tb) na nb (cf_s wn) x) (r + 1) n → n < 11 ∧ x ≤ wt n) ∧ (∀ n, n < 11 ∧ x ≤ wt n → ne_R (cf_k vs wn tb) na nb (cf_s wn) zs x n)) → J (nI (r + 1)) fs fp ch sz ea eb kd ga sr we ro se) :
    ∀ d k (wt : Nat → Nat) (we : Nat → Int32), k + d = 12 → xw_N wt we → (∀ x, gr_I (gl_L (fun n => n < 11 ∧ x ≤ zs n) (ne_T (cf_k vs wn tb) na nb (cf_s wn) x) r) (fun n => n < 11 ∧ x ≤ wt n) (ne_R (cf_k vs wn tb) na nb (cf_s wn) zs x) (ne_A (cf_k vs wn tb) na nb (cf_s wn) x) k) → wX_weigh_35 post J (sx_set (cf_k vs wn tb) 12) (nI r) (d + 1) (nI k) fs fp ch sz ea eb kd ga sr we ro se := by
  intro d
  induction d with
  | zero =>
    intro k wt we hk hN hI
    have e : k = 12 := by omega
    subst e
    exact br_t (by decide) (nm_r (nI_1 r) (hJ wt we hN (fun x => ⟨gr_e (fun p q h => ne_TA h) (hI x), (hI x).2.1⟩)))
  | succ d ih =>
    intro k wt we hk hN hI
    have hk' : k < 12 := by omega
    have hi : vp_in (nI k) 12 := vp_in_nI hk' (by omega)
    rw [wX_weigh_35]
    dsimp only
    rw [nI_clamp (n := k) (by omega)]
    refine br_f (nI_ge (b := 12) hk' (by decide)) (xc_bit (by omega) (fun hc => br_f (by decide) ?_) (fun hc => br_t rfl (nm_r (nI_1 k) (ih (k + 1) wt we (by omega) hN (fun x => gr_s (hI x) (fun n h => h) (hI x).2.1 ?_)))))
    · rw [xc_shut hk'] at hc
      obtain ⟨_, _, e3⟩ := S.2.2.2.2.2 k hk' (xc_tb hc)
      obtain ⟨e1, e2⟩ := S.2.2.2.2.1 k hk'
      obtain ⟨ha, hb, _⟩ := W.2.2.2.2.2.2 k hk'
      have hs := cf_s_le W k hk'
      rw [e1, e2, e3]
      refine ⟨hi, hi, hi, xw_carry hN ha hb hs ?_⟩
      intro wt1 we1 hN1 h1
      dsimp only
      rw [e1, e2, e3]
      refine ⟨hi, hi, hi, xw_carry hN1 hb ha hs ?_⟩
      intro wt2 we2 hN2 h2
      dsimp only
      refine nm_r (nI_1 k) (ih (k + 1) wt2 we2 (by omega) hN2 (fun x => ?_))
      have s1 : ∀ n, n < 11 ∧ x ≤ wt1 n → ne_R (cf_k vs wn tb) na nb (cf_s wn) zs x n := by
        rintro n ⟨hn, hx⟩
        rcases (h1 x n).mp hx with a | ⟨e, h5, a, b⟩
        · exact (hI x).2.1 n ⟨hn, a⟩
        · subst e
          exact gl_s ((hI x).2.1 _ ⟨ha, a⟩) ⟨h5, hn, k, hk', hc, b, Or.inl ⟨rfl, rfl⟩⟩
      refine gr_s (hI x) ?_ ?_ ?_
      · rintro n ⟨hn, hx⟩
        exact ⟨hn, (h2 x n).mpr (Or.inl ((h1 x n).mpr (Or.inl hx)))⟩
      · rintro n ⟨hn, hx⟩
        rcases (h2 x n).mp hx with a | ⟨e, h5, a, b⟩
        · exact s1 n ⟨hn, a⟩
        · subst e
          exact gl_s (s1 _ ⟨hb, a⟩) ⟨h5, hn, k, hk', hc, b, Or.inr ⟨rfl, rfl⟩⟩
      · rintro p q ⟨hp, hx⟩ ⟨h5, h11, _, hs', on⟩
        refine ⟨h11, ?_⟩
        rcases on with ⟨ep, eq⟩ | ⟨eq, ep⟩
        · subst ep eq
          exact (h2 x _).mpr (Or.inl ((h1 x _).mpr (Or.inr ⟨rfl, h5, hx, hs'⟩)))
        · subst ep eq
          exact (h2 x _).mpr (Or.inr ⟨rfl, h5, (h1 x _).mpr (Or.inl hx), hs'⟩)
    · rw [xc_shut hk'] at hc
      rintro p q _ ⟨_, _, h3, _⟩
      rw [hc] at h3
      exact absurd h3 (by decide)
theorem xw_27 (W : cf_W vs zs na nb wn) (S : cf_X inp fp ch sz ea eb kd ga sr vs zs na nb wn tb) {post : SX → Prop} (h : ∀ we : Nat → Int32, (∀ n, n < 11 → we n = nI ((ne_W (cf_k vs wn tb) na nb (cf_s wn) zs) n)) → post (fs, fp, ch, sz, ea, eb, kd, ga, sr, we, ro, se)) :
    ∀ d r (wt : Nat → Nat) (we : Nat → Int32), r + d = 11 → xw_N wt we → (∀ x, (∀ n, gl_L (fun n => n < 11 ∧ x ≤ zs n) (ne_T (cf_k vs wn tb) na nb (cf_s wn) x) r n → n < 11 ∧ x ≤ wt n) ∧ (∀ n, n < 11 ∧ x ≤ wt n → ne_R (cf_k vs wn tb) na nb (cf_s wn) zs x n)) → wX_weigh_27 post (sx_set (cf_k vs wn tb) 12) (d + 1) (nI r) fs fp ch sz ea eb kd ga sr we ro se := by
  intro d
  induction d with
  | zero =>
    intro r wt we hr hN hI
    have e : r = 11 := by omega
    subst e
    refine br_t (by decide) (h we ?_)
    intro n hn
    have : wt n = (ne_W (cf_k vs wn tb) na nb (cf_s wn) zs) n := by
      refine ne_W_eq (hN n hn).2 ?_
      intro x _ _
      refine ⟨fun hx => (hI x).2 n ⟨hn, hx⟩, fun hr => ((hI x).1 n (gl_fin ?_ ?_ hr)).2⟩
      · intro n h; exact h.1
      · intro p q e; exact e.2.1
    rw [(hN n hn).1, this]
  | succ d ih =>
    intro r wt we hr hN hI
    rw [wX_weigh_27]
    dsimp only
    refine br_f (nI_ge (b := 11) (by omega) (by decide)) ⟨13, xw_35 W S (fun wt' we' hN' hI' => ih (r + 1) wt' we' (by omega) hN' hI') 12 0 wt we rfl hN (fun x => gr_0 (hI x).1 (hI x).2)⟩
theorem xw_2 (W : cf_W vs zs na nb wn) (S : cf_X inp fp ch sz ea eb kd ga sr vs zs na nb wn tb) {post : SX → Prop} (h : ∀ we : Nat → Int32, (∀ n, n < 11 → we n = nI ((ne_W (cf_k vs wn tb) na nb (cf_s wn) zs) n)) → post (fs, fp, ch, sz, ea, eb, kd, ga, sr, we, ro, se)) :
    ∀ d k (we : Nat → Int32), k + d = 11 → (∀ n, n < k → we n = nI (zs n)) → wX_weigh_2 post (sx_set (cf_k vs wn tb) 12) fs fp (d + 1) (nI k) ch sz ea eb kd ga sr we ro se := by
  intro d
  induction d with
  | zero =>
    intro k we hk h0
    have e : k = 11 := by omega
    subst e
    refine br_t (by decide) ⟨12, xw_27 W S h 11 0 zs we rfl (fun n hn => ⟨h0 n hn, cf_z7 W n hn⟩) (fun x => ⟨fun n hn => hn, fun n hn => gl_b hn⟩)⟩
  | succ d ih =>
    intro k we hk h0
    have hk' : k < 11 := by omega
    rw [wX_weigh_2]
    dsimp only
    rw [nI_clamp (n := k) (by omega)]
    refine br_f (nI_ge (b := 11) hk' (by decide)) (xc_own W S hk' ⟨vp_in_nI hk' (by omega), nm_e (nm_r (nI_1 k) (ih (k + 1) _ (by omega) ?_))⟩)
    intro n hn
    by_cases c : n = k
    · subst c; exact pk_us
    · rw [pk_un c]; exact h0 n (by omega)
theorem xw_weigh (W : cf_W vs zs na nb wn) (S : cf_X inp fp ch sz ea eb kd ga sr vs zs na nb wn tb) {post : SX → Prop} (h : ∀ we : Nat → Int32, (∀ n, n < 11 → we n = nI ((ne_W (cf_k vs wn tb) na nb (cf_s wn) zs) n)) → post (fs, fp, ch, sz, ea, eb, kd, ga, sr, we, ro, se)) : wpX_weigh post (fs, fp, ch, sz, ea, eb, kd, ga, sr, we, ro, se) (sx_set (cf_k vs wn tb) 12) :=
  ⟨12, xw_2 W S h 11 0 we rfl (fun n hn => by omega)⟩
/-! roots -/
theorem xr_carry (hE : ∀ n, n < 11 → we n = nI ((ne_W (cf_k vs wn tb) na nb (cf_s wn) zs) n)) {p q s : Nat} (hp : p < 11) (hq : q < 11) (hs : s ≤ 6) {post : SX → Prop}
    (h : ∀ (ro' : Nat → Int32), (∀ m n, bt (ro' n) m = true ↔ bt (ro n) m = true ∨ (n = q ∧ 5 ≤ q ∧ Nat.min ((ne_W (cf_k vs wn tb) na nb (cf_s wn) zs) p) s = (ne_W (cf_k vs wn tb) na nb (cf_s wn) zs) q ∧ bt (ro p) m = true)) → post (fs, fp, ch, sz, ea, eb, kd, ga, sr, we, ro', se)) : wpX_carryRoots post (fs, fp, ch, sz, ea, eb, kd, ga, sr, we, ro, se) (nI p) (nI q) (nI s) := by
  have h1 := hE p hp
  have h2 := hE q hq
  have hW1 := ne_W_le (cf_k vs wn tb) na nb (cf_s wn) zs p
  have hW2 := ne_W_le (cf_k vs wn tb) na nb (cf_s wn) zs q
  have hmp : Nat.min ((ne_W (cf_k vs wn tb) na nb (cf_s wn) zs) p) s ≤ s := Nat.min_le_right _ _
  unfold wpX_carryRoots
  dsimp only
  rw [nI_clamp (n := p) (by omega), nI_clamp (n := q) (by omega), h1, h2]
  refine ⟨vp_in_nI hp (by omega), xc_lesser (by omega) (by omega) (xc_store (by omega) (fun h5 _ => br_f (by decide) ⟨vp_in_nI hq (by omega), ?_⟩) (fun h5 => br_t rfl (h ro ?_)))⟩
  · refine pk_eq (Nat.min ((ne_W (cf_k vs wn tb) na nb (cf_s wn) zs) p) s) ((ne_W (cf_k vs wn tb) na nb (cf_s wn) zs) q) (fun e => ⟨vp_in_nI hq (by omega), vp_in_nI hp (by omega), vp_in_nI hq (by omega), nm_e (h _ ?_)⟩) (fun e => h ro ?_)
    · intro m n
      by_cases c : n = q
      · subst c
        rw [pk_us, b_or, Bool.or_eq_true]
        constructor
        · rintro (a | a)
          · exact Or.inl a
          · exact Or.inr ⟨rfl, h5, e, a⟩
        · rintro (a | ⟨_, _, _, a⟩)
          · exact Or.inl a
          · exact Or.inr a
      · rw [pk_un c]
        refine ⟨Or.inl, ?_⟩
        rintro (a | ⟨z, _⟩)
        · exact a
        · exact absurd z c
    · intro m n
      refine ⟨Or.inl, ?_⟩
      rintro (a | ⟨_, _, z, _⟩)
      · exact a
      · exact absurd z e
  · intro m n
    refine ⟨Or.inl, ?_⟩
    rintro (a | ⟨_, z, _⟩)
    · exact a
    · omega
theorem xr_51 (W : cf_W vs zs na nb wn) (S : cf_X inp fp ch sz ea eb kd ga sr vs zs na nb wn tb) (hE : ∀ n, n < 11 → we n = nI ((ne_W (cf_k vs wn tb) na nb (cf_s wn) zs) n)) {r : Nat} {post : SX → Prop} {J : Int32 → Int32 → Int32 → (Nat → Int32) → (Nat → Int32) → (Nat → Int32) → (Nat → Int32) → (Nat → Int32) → (Nat → Int32) → (Nat → Int32) → (Nat → Int32) → (Nat → Int32) → (Nat → Int32) → Prop}
    (hJ : ∀ (ro : Nat → Int32), (∀ m, m < 32 → (∀ n, gl_L (fun n => n = m ∧ n < 11 ∧ (ne_W (cf_k vs wn tb) na nb (cf_s wn) zs) n = zs n) (ne_Qe (cf_k vs wn tb) na nb (cf_s wn) (ne_W (cf_k vs wn tb) na nb (cf_s wn) zs)) (r + 1) n → n < 11 ∧ bt (ro n) m = true) ∧ (∀ n, n < 11 ∧ bt (ro n) m = true → ne_Q (cf_k vs wn tb) na nb (cf_s wn) zs (ne_W (cf_k vs wn tb) na nb (cf_s wn) zs) m n)) → J (nI (r + 1)) fs fp ch sz ea eb kd ga sr we ro se) :
    ∀ d k (ro : Nat → Int32), k + d = 12 → (∀ m, m < 32 → gr_I (gl_L (fun n => n = m ∧ n < 11 ∧ (ne_W (cf_k vs wn tb) na nb (cf_s wn) zs) n = zs n) (ne_Qe (cf_k vs wn tb) na nb (cf_s wn) (ne_W (cf_k vs wn tb) na nb (cf_s wn) zs)) r) (fun n => n < 11 ∧ bt (ro n) m = true) (ne_Q (cf_k vs wn tb) na nb (cf_s wn) zs (ne_W (cf_k vs wn tb) na nb (cf_s wn) zs) m) (ne_q (cf_k vs wn tb) na nb (cf_s wn) (ne_W (cf_k vs wn tb) na nb (cf_s wn) zs)) k) → wX_findRoots_51 post J (sx_set (cf_k vs wn tb) 12) (nI r) (d + 1) (nI k) fs fp ch sz ea eb kd ga sr we ro se := by
  intro d
  induction d with
  | zero =>
    intro k ro hk hI
    have e : k = 12 := by omega
    subst e
    exact br_t (by decide) (nm_r (nI_1 r) (hJ ro (fun m hm => ⟨gr_e (fun p q h => h) (hI m hm), (hI m hm).2.1⟩)))
  | succ d ih =>
    intro k ro hk hI
    have hk' : k < 12 := by omega
    have hi : vp_in (nI k) 12 := vp_in_nI hk' (by omega)
    rw [wX_findRoots_51]
    dsimp only
    rw [nI_clamp (n := k) (by omega)]
    refine br_f (nI_ge (b := 12) hk' (by decide)) (xc_bit (by omega) (fun hc => br_f (by decide) ?_) (fun hc => br_t rfl (nm_r (nI_1 k) (ih (k + 1) ro (by omega) (fun m hm => gr_s (hI m hm) (fun n h => h) (hI m hm).2.1 ?_)))))
    · rw [xc_shut hk'] at hc
      obtain ⟨_, _, e3⟩ := S.2.2.2.2.2 k hk' (xc_tb hc)
      obtain ⟨e1, e2⟩ := S.2.2.2.2.1 k hk'
      obtain ⟨ha, hb, _⟩ := W.2.2.2.2.2.2 k hk'
      have hs := cf_s_le W k hk'
      rw [e1, e2, e3]
      refine ⟨hi, hi, hi, xr_carry hE ha hb hs ?_⟩
      intro ro1 h1
      dsimp only
      rw [e1, e2, e3]
      refine ⟨hi, hi, hi, xr_carry hE hb ha hs ?_⟩
      intro ro2 h2
      dsimp only
      refine nm_r (nI_1 k) (ih (k + 1) ro2 (by omega) (fun m hm => ?_))
      have s1 : ∀ n, n < 11 ∧ bt (ro1 n) m = true → ne_Q (cf_k vs wn tb) na nb (cf_s wn) zs (ne_W (cf_k vs wn tb) na nb (cf_s wn) zs) m n := by
        rintro n ⟨hn, hx⟩
        rcases (h1 m n).mp hx with a | ⟨e, h5, a, b⟩
        · exact (hI m hm).2.1 n ⟨hn, a⟩
        · subst e
          exact gl_s ((hI m hm).2.1 _ ⟨ha, b⟩) ⟨k, hk', h5, hn, hc, Or.inl ⟨rfl, rfl⟩, a⟩
      refine gr_s (hI m hm) ?_ ?_ ?_
      · rintro n ⟨hn, hx⟩
        exact ⟨hn, (h2 m n).mpr (Or.inl ((h1 m n).mpr (Or.inl hx)))⟩
      · rintro n ⟨hn, hx⟩
        rcases (h2 m n).mp hx with a | ⟨e, h5, a, b⟩
        · exact s1 n ⟨hn, a⟩
        · subst e
          exact gl_s (s1 _ ⟨hb, b⟩) ⟨k, hk', h5, hn, hc, Or.inr ⟨rfl, rfl⟩, a⟩
      · rintro p q ⟨hp, hx⟩ ⟨h5, h11, _, on, hs'⟩
        refine ⟨h11, ?_⟩
        rcases on with ⟨ep, eq⟩ | ⟨eq, ep⟩
        · subst ep eq
          exact (h2 m _).mpr (Or.inl ((h1 m _).mpr (Or.inr ⟨rfl, h5, hs', hx⟩)))
        · subst ep eq
          exact (h2 m _).mpr (Or.inr ⟨rfl, h5, hs', (h1 m _).mpr (Or.inl hx)⟩)
    · rw [xc_shut hk'] at hc
      rintro p q _ ⟨_, _, h3, _⟩
      rw [hc] at h3
      exact absurd h3 (by decide)
theorem xr_43 (W : cf_W vs zs na nb wn) (S : cf_X inp fp ch sz ea eb kd ga sr vs zs na nb wn tb) (hE : ∀ n, n < 11 → we n = nI ((ne_W (cf_k vs wn tb) na nb (cf_s wn) zs) n)) {post : SX → Prop} (h : ∀ ro : Nat → Int32, (∀ n, n < 11 → ro n = ne_rt (cf_k vs wn tb) na nb (cf_s wn) zs (ne_W (cf_k vs wn tb) na nb (cf_s wn) zs) n) → post (fs, fp, ch, sz, ea, eb, kd, ga, sr, we, ro, se)) :
    ∀ d r (ro : Nat → Int32), r + d = 11 → (∀ m, m < 32 → (∀ n, gl_L (fun n => n = m ∧ n < 11 ∧ (ne_W (cf_k vs wn tb) na nb (cf_s wn) zs) n = zs n) (ne_Qe (cf_k vs wn tb) na nb (cf_s wn) (ne_W (cf_k vs wn tb) na nb (cf_s wn) zs)) r n → n < 11 ∧ bt (ro n) m = true) ∧ (∀ n, n < 11 ∧ bt (ro n) m = true → ne_Q (cf_k vs wn tb) na nb (cf_s wn) zs (ne_W (cf_k vs wn tb) na nb (cf_s wn) zs) m n)) → wX_findRoots_43 post (sx_set (cf_k vs wn tb) 12) (d + 1) (nI r) fs fp ch sz ea eb kd ga sr we ro se := by
  intro d
  induction d with
  | zero =>
    intro r ro hr hI
    have e : r = 11 := by omega
    subst e
    refine br_t (by decide) (h ro ?_)
    intro n hn
    refine ne_rt_eq (fun i hi => ⟨fun z => (hI i hi).2 n ⟨hn, z⟩, fun z => ((hI i hi).1 n (gl_fin ?_ ?_ z)).2⟩)
    · intro n h; exact h.2.1
    · rintro p q ⟨_, _, e⟩; exact e.2.1
  | succ d ih =>
    intro r ro hr hI
    rw [wX_findRoots_43]
    dsimp only
    refine br_f (nI_ge (b := 11) (by omega) (by decide)) ⟨13, xr_51 W S hE (fun ro' hI' => ih (r + 1) ro' (by omega) hI') 12 0 ro rfl (fun m hm => gr_0 (hI m hm).1 (hI m hm).2)⟩
theorem xr_2 (W : cf_W vs zs na nb wn) (S : cf_X inp fp ch sz ea eb kd ga sr vs zs na nb wn tb) (hE : ∀ n, n < 11 → we n = nI ((ne_W (cf_k vs wn tb) na nb (cf_s wn) zs) n)) {post : SX → Prop} (h : ∀ ro : Nat → Int32, (∀ n, n < 11 → ro n = ne_rt (cf_k vs wn tb) na nb (cf_s wn) zs (ne_W (cf_k vs wn tb) na nb (cf_s wn) zs) n) → post (fs, fp, ch, sz, ea, eb, kd, ga, sr, we, ro, se)) :
    ∀ d k (ro : Nat → Int32), k + d = 11 → (∀ n, n < k → ∀ m, m < 32 → (bt (ro n) m = true ↔ n = m ∧ n < 11 ∧ (ne_W (cf_k vs wn tb) na nb (cf_s wn) zs) n = zs n)) → wX_findRoots_2 post (sx_set (cf_k vs wn tb) 12) fs fp (d + 1) (nI k) ch sz ea eb kd ga sr we ro se := by
  intro d
  induction d with
  | zero =>
    intro k ro hk h0
    have e : k = 11 := by omega
    subst e
    refine br_t (by decide) ⟨12, xr_43 W S hE h 11 0 ro rfl (fun m hm => ⟨fun n hn => ?_, fun n hn => gl_b ((h0 n hn.1 m hm).mp hn.2)⟩)⟩
    have hn' : n = m ∧ n < 11 ∧ (ne_W (cf_k vs wn tb) na nb (cf_s wn) zs) n = zs n := hn
    exact ⟨hn'.2.1, (h0 n hn'.2.1 m hm).mpr hn'⟩
  | succ d ih =>
    intro k ro hk h0
    have hk' : k < 11 := by omega
    have hi : vp_in (nI k) 11 := vp_in_nI hk' (by omega)
    have hW1 := ne_W_le (cf_k vs wn tb) na nb (cf_s wn) zs k
    have hz1 := cf_z7 W k hk'
    rw [wX_findRoots_2]
    dsimp only
    rw [nI_clamp (n := k) (by omega), hE k hk']
    refine br_f (nI_ge (b := 11) hk' (by decide)) ⟨hi, xc_own W S hk' (pk_eq ((ne_W (cf_k vs wn tb) na nb (cf_s wn) zs) k) (zs k) (fun e => ⟨hi, nm_e (nm_r (nI_1 k) (ih (k + 1) _ (by omega) ?_))⟩) (fun e => ⟨hi, nm_e (nm_r (nI_1 k) (ih (k + 1) _ (by omega) ?_))⟩))⟩
    · intro n hn m hm
      by_cases c : n = k
      · subst c
        rw [pk_us, sx_bit (by omega) hm, decide_eq_true_eq]
        exact ⟨fun z => ⟨z.symm, hk', e⟩, fun z => z.1.symm⟩
      · rw [pk_un c]; exact h0 n (by omega) m hm
    · intro n hn m hm
      by_cases c : n = k
      · subst c
        rw [pk_us, b_0]
        exact ⟨fun z => absurd z (by decide), fun z => absurd z.2.2 e⟩
      · rw [pk_un c]; exact h0 n (by omega) m hm
theorem xr_trace (W : cf_W vs zs na nb wn) (S : cf_X inp fp ch sz ea eb kd ga sr vs zs na nb wn tb) {post : SX → Prop} (h : ∀ we ro : Nat → Int32, (∀ n, n < 11 → we n = nI ((ne_W (cf_k vs wn tb) na nb (cf_s wn) zs) n)) → (∀ n, n < 11 → ro n = ne_rt (cf_k vs wn tb) na nb (cf_s wn) zs (ne_W (cf_k vs wn tb) na nb (cf_s wn) zs) n) → post (fs, fp, ch, sz, ea, eb, kd, ga, sr, we, ro, se)) : wpX_trace post (fs, fp, ch, sz, ea, eb, kd, ga, sr, we, ro, se) inp := by
  unfold wpX_trace
  dsimp only
  refine xc_closed W S (xw_weigh W S ?_)
  intro we hE
  exact ⟨12, xr_2 W S hE (fun ro hr => h we ro hE hr) 11 0 ro rfl (fun n hn => by omega)⟩
end
