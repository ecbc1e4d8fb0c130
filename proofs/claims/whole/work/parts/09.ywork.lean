/-! ===== work ===== -/
section
variable {ln : Int32} {vv zz tt aa bb ww yw yu yf ye ys yn : Nat → Int32} {vs zs na nb wn : Nat → Nat} {tb : Nat → Bool}
/-- what the weights in hand say while the way w is the last one that was walked -/
def yo_I (vs zs na nb wn : Nat → Nat) (tb : Nat → Bool) (w : Nat → Nat) (l : Nat) (ye : Nat → Int32) : Prop :=
  ∃ wt : Nat → Nat, (∀ n, n < 11 → ye n = nI (wt n) ∧ wt n ≤ 7) ∧ (∀ n, n < 11 → ∀ x, 1 ≤ x → x ≤ wt n → ne_R (cf_k vs wn tb) na nb (cf_s wn) zs x n) ∧ (∀ q m, ne_V (cf_k vs wn tb) na nb (cf_s wn) q (m + 1) → df_R w l 0 q (m + 1) ∨ ne_u (cf_k vs wn tb) na nb (cf_s wn) zs q m ≤ wt (q m))
def yo_J (vs zs na nb wn : Nat → Nat) (tb : Nat → Bool) (w : Nat → Nat) (l : Nat) (ys : Nat → Int32) : Prop :=
  (∀ n, n < 11 → ∀ i, i < 32 → bt (ys n) i = true → ne_Q (cf_k vs wn tb) na nb (cf_s wn) zs (ne_W (cf_k vs wn tb) na nb (cf_s wn) zs) i n) ∧ (∀ q m, ne_V (cf_k vs wn tb) na nb (cf_s wn) q (m + 1) → df_R w l 0 q (m + 1) ∨ (ne_F (cf_k vs wn tb) na nb (cf_s wn) zs (ne_W (cf_k vs wn tb) na nb (cf_s wn) zs) q m → bt (ys (q m)) (q 0) = true))
theorem yo_eqU {w' q : Nat → Nat} {K m : Nat} (h : df_eq w' (K + 1) q (m + 1)) : m = K ∧ ∀ j, j ≤ m → q j = w' j := by
  have e : m = K := by have := h.1; omega
  subst e
  exact ⟨rfl, fun j hj => h.2 j (by omega)⟩
theorem yo_Iend (W : cf_W vs zs na nb wn) {w : Nat → Nat} {l : Nat} (hI : yo_I vs zs na nb wn tb w l ye) (h : ∀ q m, ne_V (cf_k vs wn tb) na nb (cf_s wn) q m → ¬ df_R w l 0 q m) : ∀ n, n < 11 → ye n = nI ((ne_W (cf_k vs wn tb) na nb (cf_s wn) zs) n) := by
  obtain ⟨wt, h1, h2, h3⟩ := hI
  intro n hn
  have : wt n = (ne_W (cf_k vs wn tb) na nb (cf_s wn) zs) n := by
    refine ne_W_eq (h1 n hn).2 ?_
    intro x hx h7
    refine ⟨h2 n hn x hx, ?_⟩
    intro hr
    obtain ⟨f, l', hv, e, hu⟩ := ne_R_u (cf_s_1 wn) hx hr
    rcases h3 f l' hv with a | a
    · exact absurd a (h f _ hv)
    · rw [e] at a; omega
  rw [(h1 n hn).1, this]
theorem yo_Istep (W : cf_W vs zs na nb wn) {w w' : Nat → Nat} {l K : Nat} {ye : Nat → Int32} {wt : Nat → Nat} (hV : ne_V (cf_k vs wn tb) na nb (cf_s wn) w' (K + 1)) (hI1 : ∀ n, n < 11 → ye n = nI (wt n) ∧ wt n ≤ 7) (hI2 : ∀ n, n < 11 → ∀ x, 1 ≤ x → x ≤ wt n → ne_R (cf_k vs wn tb) na nb (cf_s wn) zs x n) (hI3 : ∀ q m, ne_V (cf_k vs wn tb) na nb (cf_s wn) q (m + 1) → df_R w l 0 q (m + 1) ∨ ne_u (cf_k vs wn tb) na nb (cf_s wn) zs q m ≤ wt (q m)) (hR : ∀ q m, ne_V (cf_k vs wn tb) na nb (cf_s wn) q m → df_R w l 0 q m → df_R w' (K + 1) 0 q m ∨ df_eq w' (K + 1) q m) (v : Nat) (hv1 : ne_u (cf_k vs wn tb) na nb (cf_s wn) zs w' K ≤ v) (hv2 : v = wt (w' K) ∨ v = ne_u (cf_k vs wn tb) na nb (cf_s wn) zs w' K) (hv3 : wt (w' K) ≤ v) : yo_I vs zs na nb wn tb w' (K + 1) (upd ye (w' K) (nI v)) := by
  have he : w' K < 11 := ne_V_lt hV (by omega)
  have hu7 : ne_u (cf_k vs wn tb) na nb (cf_s wn) zs w' K ≤ 7 := Nat.le_trans (yk_ule K) (cf_z7 W _ (ne_V_lt hV (by omega)))
  refine ⟨gp_u wt (w' K) v, ?_, ?_, ?_⟩
  · intro n hn
    by_cases c : n = w' K
    · subst c; rw [pk_us, gp_us]
      have := (hI1 _ hn).2
      exact ⟨rfl, by omega⟩
    · rw [pk_un c, gp_un c]; exact hI1 n hn
  · intro n hn x hx hle
    by_cases c : n = w' K
    · subst c
      rw [gp_us] at hle
      rcases hv2 with e | e
      · exact hI2 _ hn x hx (by omega)
      · exact ne_u_R hV hx K (by omega) (by omega)
    · rw [gp_un c] at hle; exact hI2 n hn x hx hle
  · intro q m hq
    have mono : ∀ n, wt n ≤ gp_u wt (w' K) v n := by
      intro n
      by_cases c : n = w' K
      · subst c; rw [gp_us]; exact hv3
      · rw [gp_un c]; exact Nat.le_refl _
    rcases hI3 q m hq with a | a
    · rcases hR q _ hq a with b | b
      · exact Or.inl b
      · refine Or.inr ?_
        obtain ⟨e, ag⟩ := yo_eqU b
        subst e
        rw [ne_u_cg m ag, ag m (Nat.le_refl _), gp_us]
        exact hv1
    · exact Or.inr (Nat.le_trans a (mono _))
theorem yo_Jend {w : Nat → Nat} {l : Nat} (hJ : yo_J vs zs na nb wn tb w l ys) (h : ∀ q m, ne_V (cf_k vs wn tb) na nb (cf_s wn) q m → ¬ df_R w l 0 q m) : ∀ n, n < 11 → ys n = ne_rt (cf_k vs wn tb) na nb (cf_s wn) zs (ne_W (cf_k vs wn tb) na nb (cf_s wn) zs) n := by
  intro n hn
  refine ne_rt_eq ?_
  intro i hi
  refine ⟨hJ.1 n hn i hi, ?_⟩
  intro hq
  obtain ⟨f, l', hv, e1, e2, hf⟩ := ne_Q_F (cf_s_1 wn) hq
  rcases hJ.2 f l' hv with a | a
  · exact absurd a (h f _ hv)
  · have := a hf
    rw [e1, e2] at this
    exact this
theorem yo_Jsame {w w' : Nat → Nat} {l K : Nat} {ys : Nat → Int32} (hJ : yo_J vs zs na nb wn tb w l ys) (hR : ∀ q m, ne_V (cf_k vs wn tb) na nb (cf_s wn) q m → df_R w l 0 q m → df_R w' (K + 1) 0 q m ∨ df_eq w' (K + 1) q m) (hf : ¬ ne_F (cf_k vs wn tb) na nb (cf_s wn) zs (ne_W (cf_k vs wn tb) na nb (cf_s wn) zs) w' K) : yo_J vs zs na nb wn tb w' (K + 1) (upd ys (w' K) (ys (w' K))) := by
  have e : upd ys (w' K) (ys (w' K)) = ys := by
    funext j
    by_cases c : j = w' K
    · subst c; exact pk_us
    · exact pk_un c
  rw [e]
  refine ⟨hJ.1, ?_⟩
  intro q m hq
  rcases hJ.2 q m hq with a | a
  · rcases hR q _ hq a with b | b
    · exact Or.inl b
    · refine Or.inr (fun z => absurd ?_ hf)
      obtain ⟨e, ag⟩ := yo_eqU b
      subst e
      exact ne_F_cg ag z
  · exact Or.inr a
theorem yo_Jstep {w w' : Nat → Nat} {l K : Nat} {ys : Nat → Int32} (hV : ne_V (cf_k vs wn tb) na nb (cf_s wn) w' (K + 1)) (hJ : yo_J vs zs na nb wn tb w l ys) (hR : ∀ q m, ne_V (cf_k vs wn tb) na nb (cf_s wn) q m → df_R w l 0 q m → df_R w' (K + 1) 0 q m ∨ df_eq w' (K + 1) q m) (hf : ne_F (cf_k vs wn tb) na nb (cf_s wn) zs (ne_W (cf_k vs wn tb) na nb (cf_s wn) zs) w' K) : yo_J vs zs na nb wn tb w' (K + 1) (upd ys (w' K) (ys (w' K) ||| ((1 : Int32) <<< (nI (w' 0) &&& 31)))) := by
  have he : w' K < 11 := ne_V_lt hV (by omega)
  have h0 : w' 0 < 11 := ne_V_lt hV (by omega)
  refine ⟨?_, ?_⟩
  · intro n hn i hi hb
    by_cases c : n = w' K
    · subst c
      rw [pk_us, b_or, sx_bit (by omega) hi, Bool.or_eq_true, decide_eq_true_eq] at hb
      rcases hb with hb | hb
      · exact hJ.1 _ hn i hi hb
      · subst hb; exact ne_F_Q hV K (by omega) hf
    · rw [pk_un c] at hb; exact hJ.1 n hn i hi hb
  · intro q m hq
    have h0q : q 0 < 11 := ne_V_lt hq (by omega)
    rcases hJ.2 q m hq with a | a
    · rcases hR q _ hq a with b | b
      · exact Or.inl b
      · refine Or.inr (fun _ => ?_)
        obtain ⟨e, ag⟩ := yo_eqU b
        subst e
        rw [ag m (Nat.le_refl _), ag 0 (by omega), pk_us, b_or, sx_bit (by omega) (by omega), decide_eq_true rfl, Bool.or_true]
    · refine Or.inr (fun z => ?_)
      have hb := a z
      by_cases c : q m = w' K
      · rw [c] at hb ⊢
        rw [pk_us, b_or, hb, Bool.true_or]
      · rw [pk_un c]; exact hb
theorem yo_106 (W : cf_W vs zs na nb wn) (S : cf_Y vv zz tt aa bb ww vs zs na nb wn tb) {post : SY → Prop} (hF : ∀ n, n < 11 → ye n = nI ((ne_W (cf_k vs wn tb) na nb (cf_s wn) zs) n)) (h : ∀ (yw yu yf ys : Nat → Int32), (∀ n, n < 11 → ys n = ne_rt (cf_k vs wn tb) na nb (cf_s wn) zs (ne_W (cf_k vs wn tb) na nb (cf_s wn) zs) n) → post (0, vv, zz, tt, aa, bb, ww, yw, yu, yf, ye, ys, yn)) :
    ∀ N (w : Nat → Nat) (l : Nat) (yw yu yf ys : Nat → Int32), df_n w l < N → (0 < l → ne_V (cf_k vs wn tb) na nb (cf_s wn) w l) → yk_S (cf_k vs wn tb) na nb (cf_s wn) zs True w l yw yu yf → yo_J vs zs na nb wn tb w l ys → wY_work_106 post N (nI l) vv zz tt aa bb ww yw yu yf ye ys yn := by
  intro N
  induction N with
  | zero => intro w l yw yu yf ys hn; omega
  | succ N ih =>
    intro w l yw yu yf ys hn hV hk hJ
    rw [wY_work_106]
    dsimp only
    refine ya_advance W S hV hk (fun _ => hF) ?_ ?_
    · intro w' l' yw' yu' yf' hV' hk' hR hm
      obtain ⟨K, rfl⟩ : ∃ K, l' = K + 1 := ⟨l' - 1, by have := hV'.1; omega⟩
      have hl := ne_V_len hV'
      have he : w' K < 11 := ne_V_lt hV' (by omega)
      have h0 : w' 0 < 11 := ne_V_lt hV' (by omega)
      have e1 : nI (K + 1) - 1 = nI K := nI_pred K
      have hi : vp_in (nI K) 11 := vp_in_nI (by omega) (by omega)
      have hi2 : vp_in (nI (w' K)) 11 := vp_in_nI he (by omega)
      refine br_f (by decide) ?_
      dsimp only
      rw [e1, nI_clamp (n := K) (by omega), hk'.1 K (by omega), hk'.1 0 (by omega)]
      refine ⟨hi, nm_e ?_⟩
      rw [nI_clamp (n := w' K) (by omega)]
      have f := hk'.2.2 trivial K (by omega)
      refine ⟨hi, br_c (fun z => ⟨hi2, hi2, nm_e ?_⟩) (fun z => ⟨hi2, hi2, nm_e ?_⟩)⟩
      · refine ih w' (K + 1) yw' yu' yf' _ (by omega) (fun _ => hV') hk' (yo_Jsame hJ hR ?_)
        intro hf
        rw [f.1 hf] at z
        exact absurd z (by decide)
      · refine ih w' (K + 1) yw' yu' yf' _ (by omega) (fun _ => hV') hk' (yo_Jstep hV' hJ hR ?_)
        exact Classical.byContradiction (fun hf => z (f.2 hf))
    · intro hN
      exact br_t rfl (h yw yu yf ys (yo_Jend hJ hN))
theorem yo_33 (W : cf_W vs zs na nb wn) (S : cf_Y vv zz tt aa bb ww vs zs na nb wn tb) {post : SY → Prop} (h0s : ∀ n, n < 11 → ys n = 0) (h : ∀ (yw yu yf ye ys : Nat → Int32), (∀ n, n < 11 → ye n = nI ((ne_W (cf_k vs wn tb) na nb (cf_s wn) zs) n)) → (∀ n, n < 11 → ys n = ne_rt (cf_k vs wn tb) na nb (cf_s wn) zs (ne_W (cf_k vs wn tb) na nb (cf_s wn) zs) n) → post (0, vv, zz, tt, aa, bb, ww, yw, yu, yf, ye, ys, yn)) :
    ∀ N (w : Nat → Nat) (l : Nat) (yw yu yf ye : Nat → Int32), df_n w l < N → (0 < l → ne_V (cf_k vs wn tb) na nb (cf_s wn) w l) → yk_S (cf_k vs wn tb) na nb (cf_s wn) zs False w l yw yu yf → yo_I vs zs na nb wn tb w l ye → wY_work_33 post N (nI l) vv zz tt aa bb ww yw yu yf ye ys yn := by
  intro N
  induction N with
  | zero => intro w l yw yu yf ye hn; omega
  | succ N ih =>
    intro w l yw yu yf ye hn hV hk hI
    rw [wY_work_33]
    dsimp only
    refine ya_advance W S hV hk (fun z => z.elim) ?_ ?_
    · intro w' l' yw' yu' yf' hV' hk' hR hm
      obtain ⟨K, rfl⟩ : ∃ K, l' = K + 1 := ⟨l' - 1, by have := hV'.1; omega⟩
      have hl := ne_V_len hV'
      have he : w' K < 11 := ne_V_lt hV' (by omega)
      have hu7 : ne_u (cf_k vs wn tb) na nb (cf_s wn) zs w' K ≤ 7 := Nat.le_trans (yk_ule K) (cf_z7 W _ (ne_V_lt hV' (by omega)))
      have e1 : nI (K + 1) - 1 = nI K := nI_pred K
      have hi : vp_in (nI K) 11 := vp_in_nI (by omega) (by omega)
      have hi2 : vp_in (nI (w' K)) 11 := vp_in_nI he (by omega)
      obtain ⟨wt, h1, h2, h3⟩ := hI
      have hw7 := (h1 _ he).2
      refine br_f (by decide) ?_
      dsimp only
      rw [e1, nI_clamp (n := K) (by omega), hk'.1 K (by omega), hk'.2.1 K (by omega)]
      refine ⟨hi, nm_e ?_⟩
      rw [nI_clamp (n := w' K) (by omega), (h1 _ he).1]
      refine ⟨hi, hi2, pk_le (ne_u (cf_k vs wn tb) na nb (cf_s wn) zs w' K) (wt (w' K)) (fun z => ⟨hi2, hi2, nm_e ?_⟩) (fun z => ⟨hi, hi2, nm_e ?_⟩)⟩
      · exact ih w' (K + 1) yw' yu' yf' _ (by omega) (fun _ => hV') hk' (yo_Istep W hV' h1 h2 h3 hR (wt (w' K)) z (Or.inl rfl) (Nat.le_refl _))
      · exact ih w' (K + 1) yw' yu' yf' _ (by omega) (fun _ => hV') hk' (yo_Istep W hV' h1 h2 h3 hR (ne_u (cf_k vs wn tb) na nb (cf_s wn) zs w' K) (Nat.le_refl _) (Or.inr rfl) (by omega))
    · intro hN
      refine br_t rfl ⟨df_n (fun _ => 0) 0 + 1, ?_⟩
      refine yo_106 W S (yo_Iend W hI hN) (fun yw yu yf ys hs => h yw yu yf ye ys (yo_Iend W hI hN) hs) _ (fun _ => 0) 0 yw yu yf ys (Nat.lt_succ_self _) (fun z => by omega) yk_S0 ⟨?_, ?_⟩
      · intro n hn i hi hb
        rw [h0s n hn, b_0] at hb
        exact absurd hb (by decide)
      · intro q m _
        exact Or.inl (Or.inr ⟨by omega, fun j hj => by omega, Nat.zero_le _⟩)
theorem yo_2 (W : cf_W vs zs na nb wn) (S : cf_Y vv zz tt aa bb ww vs zs na nb wn tb) {post : SY → Prop} (h : ∀ (yw yu yf ye ys : Nat → Int32), (∀ n, n < 11 → ye n = nI ((ne_W (cf_k vs wn tb) na nb (cf_s wn) zs) n)) → (∀ n, n < 11 → ys n = ne_rt (cf_k vs wn tb) na nb (cf_s wn) zs (ne_W (cf_k vs wn tb) na nb (cf_s wn) zs) n) → post (0, vv, zz, tt, aa, bb, ww, yw, yu, yf, ye, ys, yn)) :
    ∀ d k (ye ys : Nat → Int32), k + d = 11 → (∀ n, n < k → ye n = 0 ∧ ys n = 0) → wY_work_2 post ln (d + 1) (nI k) vv zz tt aa bb ww yw yu yf ye ys yn := by
  intro d
  induction d with
  | zero =>
    intro k ye ys hk h0
    have e : k = 11 := by omega
    subst e
    refine br_t (by decide) ⟨df_n (fun _ => 0) 0 + 1, ?_⟩
    refine yo_33 W S (fun n hn => (h0 n hn).2) h _ (fun _ => 0) 0 yw yu yf ye (Nat.lt_succ_self _) (fun z => by omega) yk_S0 ⟨fun _ => 0, ?_, ?_, ?_⟩
    · intro n hn
      exact ⟨(h0 n hn).1, Nat.zero_le 7⟩
    · intro n hn x h1 h2
      have h3 : x ≤ 0 := h2
      omega
    · intro q m _
      exact Or.inl (Or.inr ⟨by omega, fun j hj => by omega, Nat.zero_le _⟩)
  | succ d ih =>
    intro k ye ys hk h0
    have hi : vp_in (nI k) 11 := vp_in_nI (by omega) (by omega)
    rw [wY_work_2]
    dsimp only
    rw [nI_clamp (n := k) (by omega)]
    refine br_f (nI_ge (b := 11) (by omega) (by decide)) ⟨hi, nm_e ⟨hi, nm_e (nm_r (nI_1 k) (ih (k + 1) _ _ (by omega) ?_))⟩⟩
    intro n hn
    by_cases c : n = k
    · subst c; exact ⟨pk_us, pk_us⟩
    · rw [pk_un c, pk_un c]; exact h0 n (by omega)
theorem yo_work (W : cf_W vs zs na nb wn) (S : cf_Y vv zz tt aa bb ww vs zs na nb wn tb) {post : SY → Prop} (h : ∀ (yw yu yf ye ys : Nat → Int32), (∀ n, n < 11 → ye n = nI ((ne_W (cf_k vs wn tb) na nb (cf_s wn) zs) n)) → (∀ n, n < 11 → ys n = ne_rt (cf_k vs wn tb) na nb (cf_s wn) zs (ne_W (cf_k vs wn tb) na nb (cf_s wn) zs) n) → post (0, vv, zz, tt, aa, bb, ww, yw, yu, yf, ye, ys, yn)) : wpY_work post (ln, vv, zz, tt, aa, bb, ww, yw, yu, yf, ye, ys, yn) :=
  ⟨12, yo_2 W S h 11 0 ye ys rfl (fun n hn => by omega)⟩
end
