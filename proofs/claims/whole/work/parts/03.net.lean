/-! ===== the net: closed switches, ways, weights, roots ===== -/
abbrev ne_on (na nb : Nat → Nat) (k p q : Nat) : Prop := (na k = p ∧ nb k = q) ∨ (na k = q ∧ nb k = p)
theorem ne_on_s {na nb : Nat → Nat} {k p q : Nat} (h : ne_on na nb k p q) : ne_on na nb k q p := by
  rcases h with h | h
  · exact Or.inr h
  · exact Or.inl h
def ne_E (c : Nat → Bool) (na nb st : Nat → Nat) (x p q : Nat) : Prop := ∃ k, k < 12 ∧ c k = true ∧ x ≤ st k ∧ ne_on na nb k p q
def ne_b (c : Nat → Bool) (na nb st : Nat → Nat) (p q : Nat) : Nat → Nat
  | 0 => 0
  | k + 1 => if ne_on na nb k p q ∧ c k = true ∧ ne_b c na nb st p q k < st k then st k else ne_b c na nb st p q k
def ne_B (c : Nat → Bool) (na nb st : Nat → Nat) (p q : Nat) : Nat := ne_b c na nb st p q 12
theorem ne_b_iff (c : Nat → Bool) (na nb st : Nat → Nat) (p q : Nat) {x : Nat} (hx : 1 ≤ x) : ∀ n, x ≤ ne_b c na nb st p q n ↔ ∃ k, k < n ∧ c k = true ∧ x ≤ st k ∧ ne_on na nb k p q := by
  intro n
  induction n with
  | zero => simp only [ne_b]; exact ⟨fun h => by omega, fun ⟨k, h, _⟩ => by omega⟩
  | succ n ih =>
    rw [ne_b]
    by_cases h : ne_on na nb n p q ∧ c n = true ∧ ne_b c na nb st p q n < st n
    · rw [if_pos h]
      constructor
      · intro hs; exact ⟨n, by omega, h.2.1, hs, h.1⟩
      · rintro ⟨k, hk, hc, hs, ho⟩
        by_cases e : k = n
        · subst e; exact hs
        · have := ih.mpr ⟨k, by omega, hc, hs, ho⟩
          omega
    · rw [if_neg h, ih]
      constructor
      · rintro ⟨k, hk, r⟩; exact ⟨k, by omega, r⟩
      · rintro ⟨k, hk, hc, hs, ho⟩
        by_cases e : k = n
        · subst e
          refine ih.mp ?_
          by_cases c2 : ne_b c na nb st p q k < st k
          · exact absurd ⟨ho, hc, c2⟩ h
          · omega
        · exact ⟨k, by omega, hc, hs, ho⟩
theorem ne_B_iff {c : Nat → Bool} {na nb st : Nat → Nat} {p q x : Nat} (hx : 1 ≤ x) : x ≤ ne_B c na nb st p q ↔ ne_E c na nb st x p q :=
  ne_b_iff c na nb st p q hx 12
theorem ne_b_le (c : Nat → Bool) (na nb st : Nat → Nat) (p q : Nat) (hs : ∀ k, k < 12 → st k ≤ 6) : ∀ n, n ≤ 12 → ne_b c na nb st p q n ≤ 6 := by
  intro n
  induction n with
  | zero => intro _; simp only [ne_b]; omega
  | succ n ih =>
    intro hn
    have := ih (by omega)
    have := hs n (by omega)
    rw [ne_b]
    split <;> omega
def ne_T (c : Nat → Bool) (na nb st : Nat → Nat) (x p q : Nat) : Prop := 5 ≤ q ∧ q < 11 ∧ ne_E c na nb st x p q
def ne_A (c : Nat → Bool) (na nb st : Nat → Nat) (x k p q : Nat) : Prop := 5 ≤ q ∧ q < 11 ∧ c k = true ∧ x ≤ st k ∧ ne_on na nb k p q
theorem ne_TA {c : Nat → Bool} {na nb st : Nat → Nat} {x p q : Nat} (h : ne_T c na nb st x p q) : ∃ k, k < 12 ∧ ne_A c na nb st x k p q := by
  obtain ⟨h1, h2, k, hk, hc, hs, ho⟩ := h
  exact ⟨k, hk, h1, h2, hc, hs, ho⟩
def ne_R (c : Nat → Bool) (na nb st ow : Nat → Nat) (x n : Nat) : Prop := gl_C (fun n => n < 11 ∧ x ≤ ow n) (ne_T c na nb st x) n
theorem ne_R_down {c : Nat → Bool} {na nb st ow : Nat → Nat} {x y n : Nat} (hy : y ≤ x) (h : ne_R c na nb st ow x n) : ne_R c na nb st ow y n := by
  refine gl_mono ?_ ?_ h
  · intro n hn; exact ⟨hn.1, by omega⟩
  · rintro p q ⟨h1, h2, k, hk, hc, hs, ho⟩; exact ⟨h1, h2, k, hk, hc, by omega, ho⟩
theorem ne_R_le {c : Nat → Bool} {na nb st ow : Nat → Nat} {x n : Nat} (ho : ∀ n, n < 11 → ow n ≤ 7) (h : ne_R c na nb st ow x n) : x ≤ 7 := by
  refine gl_i h (fun _ => x ≤ 7) ?_ ?_
  · intro n hn; have := ho n hn.1; omega
  · intro p q _ hp _; exact hp
theorem ne_R_lt {c : Nat → Bool} {na nb st ow : Nat → Nat} {x n : Nat} (h : ne_R c na nb st ow x n) : n < 11 := by
  refine gl_i h (fun n => n < 11) ?_ ?_
  · intro n hn; exact hn.1
  · intro p q _ hp e; exact e.2.1
theorem ne_R_in {c : Nat → Bool} {na nb st ow : Nat → Nat} {x n : Nat} (hn : n < 5) : ne_R c na nb st ow x n ↔ x ≤ ow n := by
  constructor
  · intro h
    have : n < 5 → x ≤ ow n := by
      refine gl_i h (fun n => n < 5 → x ≤ ow n) ?_ ?_
      · intro n hn _; exact hn.2
      · intro p q _ _ e h5; have := e.1; omega
    exact this hn
  · intro h; exact gl_b ⟨by omega, h⟩
noncomputable def ne_m (P : Nat → Prop) : Nat → Nat
  | 0 => 0
  | x + 1 => if sx_d (P (x + 1)) = true then x + 1 else ne_m P x
theorem ne_m_le (P : Nat → Prop) : ∀ n, ne_m P n ≤ n := by
  intro n
  induction n with
  | zero => exact Nat.le_refl _
  | succ n ih =>
    rw [ne_m]
    split <;> omega
theorem ne_m_iff (P : Nat → Prop) (hP : ∀ x y, y ≤ x → P x → P y) : ∀ n x, 1 ≤ x → x ≤ n → (x ≤ ne_m P n ↔ P x) := by
  intro n
  induction n with
  | zero => intro x h1 h2; omega
  | succ n ih =>
    intro x h1 h2
    rw [ne_m]
    by_cases h : P (n + 1)
    · rw [if_pos (sx_dt.mpr h)]
      exact ⟨fun _ => hP _ _ h2 h, fun _ => h2⟩
    · rw [if_neg (by rw [sx_dt]; exact h)]
      by_cases e : x = n + 1
      · subst e
        have := ne_m_le P n
        exact ⟨fun hx => by omega, fun hx => absurd hx h⟩
      · exact ih x h1 (by omega)
noncomputable def ne_W (c : Nat → Bool) (na nb st ow : Nat → Nat) (n : Nat) : Nat := ne_m (fun x => ne_R c na nb st ow x n) 7
theorem ne_W_iff {c : Nat → Bool} {na nb st ow : Nat → Nat} {n x : Nat} (h1 : 1 ≤ x) (h7 : x ≤ 7) : x ≤ ne_W c na nb st ow n ↔ ne_R c na nb st ow x n :=
  ne_m_iff _ (fun _ _ hy h => ne_R_down hy h) 7 x h1 h7
theorem ne_W_le (c : Nat → Bool) (na nb st ow : Nat → Nat) (n : Nat) : ne_W c na nb st ow n ≤ 7 := ne_m_le _ 7
theorem ne_W_eq {c : Nat → Bool} {na nb st ow : Nat → Nat} {n w : Nat} (hw : w ≤ 7) (h : ∀ x, 1 ≤ x → x ≤ 7 → (x ≤ w ↔ ne_R c na nb st ow x n)) : w = ne_W c na nb st ow n := by
  have hW := ne_W_le c na nb st ow n
  apply Nat.le_antisymm
  · rcases Nat.eq_zero_or_pos w with z | z
    · omega
    · exact (ne_W_iff z hw).mpr ((h w z hw).mp (Nat.le_refl _))
  · rcases Nat.eq_zero_or_pos (ne_W c na nb st ow n) with z | z
    · omega
    · exact (h _ z hW).mpr ((ne_W_iff z hW).mp (Nat.le_refl _))
theorem ne_W_ow {c : Nat → Bool} {na nb st ow : Nat → Nat} {n : Nat} (hn : n < 11) (ho : ow n ≤ 7) : ow n ≤ ne_W c na nb st ow n := by
  rcases Nat.eq_zero_or_pos (ow n) with z | z
  · omega
  · exact (ne_W_iff z ho).mpr (gl_b ⟨hn, Nat.le_refl _⟩)
theorem ne_W_in {c : Nat → Bool} {na nb st ow : Nat → Nat} {n : Nat} (hn : n < 5) (ho : ow n ≤ 7) : ne_W c na nb st ow n = ow n := by
  refine (ne_W_eq ho ?_).symm
  intro x _ _
  exact (ne_R_in hn).symm
theorem ne_W_step {c : Nat → Bool} {na nb st ow : Nat → Nat} {p q x : Nat} (e : ne_T c na nb st x p q) (hp : x ≤ ne_W c na nb st ow p) : x ≤ ne_W c na nb st ow q := by
  rcases Nat.eq_zero_or_pos x with z | z
  · omega
  · have h7 : x ≤ 7 := Nat.le_trans hp (ne_W_le c na nb st ow p)
    exact (ne_W_iff z h7).mpr (gl_s ((ne_W_iff z h7).mp hp) e)
def ne_q (c : Nat → Bool) (na nb st W : Nat → Nat) (k p q : Nat) : Prop := 5 ≤ q ∧ q < 11 ∧ c k = true ∧ ne_on na nb k p q ∧ Nat.min (W p) (st k) = W q
def ne_Qe (c : Nat → Bool) (na nb st W : Nat → Nat) (p q : Nat) : Prop := ∃ k, k < 12 ∧ ne_q c na nb st W k p q
def ne_Q (c : Nat → Bool) (na nb st ow W : Nat → Nat) (m n : Nat) : Prop := gl_C (fun n => n = m ∧ n < 11 ∧ W n = ow n) (ne_Qe c na nb st W) n
theorem ne_Q_lt {c : Nat → Bool} {na nb st ow W : Nat → Nat} {m n : Nat} (h : ne_Q c na nb st ow W m n) : n < 11 ∧ m < 11 := by
  refine gl_i h (fun n => n < 11 ∧ m < 11) ?_ ?_
  · rintro n ⟨e, h, _⟩; exact ⟨h, by omega⟩
  · rintro p q _ hp ⟨k, _, e⟩; exact ⟨e.2.1, hp.2⟩
theorem ne_Q_in {c : Nat → Bool} {na nb st ow W : Nat → Nat} {m n : Nat} (hn : n < 5) (hW : W n = ow n) : ne_Q c na nb st ow W m n ↔ m = n := by
  constructor
  · intro h
    have : n < 5 → m = n := by
      refine gl_i h (fun n => n < 5 → m = n) ?_ ?_
      · rintro n ⟨e, _⟩ _; exact e.symm
      · rintro p q _ _ ⟨k, _, e⟩ h5; have := e.1; omega
    exact this hn
  · intro h; subst h; exact gl_b ⟨rfl, by omega, hW⟩
noncomputable def ne_rt (c : Nat → Bool) (na nb st ow W : Nat → Nat) (n : Nat) : Int32 := sx_set (fun m => sx_d (ne_Q c na nb st ow W m n)) 11
theorem ne_rt_eq {c : Nat → Bool} {na nb st ow W : Nat → Nat} {n : Nat} {x : Int32} (h : ∀ i, i < 32 → (bt x i = true ↔ ne_Q c na nb st ow W i n)) : x = ne_rt c na nb st ow W n := by
  apply b_ext
  intro i hi
  unfold ne_rt
  rw [sx_set_bt _ 11 (by omega) i hi, Bool.eq_iff_iff, h i hi, Bool.and_eq_true, sx_dt, decide_eq_true_eq]
  exact ⟨fun q => ⟨(ne_Q_lt q).2, q⟩, fun q => q.2⟩
theorem ne_rt_bt {c : Nat → Bool} {na nb st ow W : Nat → Nat} {n i : Nat} (hi : i < 32) : bt (ne_rt c na nb st ow W n) i = true ↔ ne_Q c na nb st ow W i n := by
  unfold ne_rt
  rw [sx_set_bt _ 11 (by omega) i hi, Bool.and_eq_true, sx_dt, decide_eq_true_eq]
  exact ⟨fun q => q.2, fun q => ⟨(ne_Q_lt q).2, q⟩⟩
def ne_H (c : Nat → Bool) (na nb st : Nat → Nat) (m n : Nat) : Prop := gl_C (fun n => n = m) (ne_T c na nb st 0) n
theorem ne_H_in {c : Nat → Bool} {na nb st : Nat → Nat} {m n : Nat} (h : ne_H c na nb st m n) : n = m ∨ (5 ≤ n ∧ n < 11) := by
  refine gl_i h (fun n => n = m ∨ (5 ≤ n ∧ n < 11)) ?_ ?_
  · intro n e; exact Or.inl e
  · intro p q _ _ e; exact Or.inr ⟨e.1, e.2.1⟩
noncomputable def ne_rs (c : Nat → Bool) (na nb st : Nat → Nat) (m : Nat) : Int32 := sx_set (fun n => sx_d (ne_H c na nb st m n)) 11
theorem ne_rs_eq {c : Nat → Bool} {na nb st : Nat → Nat} {m : Nat} (hm : m < 11) {x : Int32} (h : ∀ i, i < 32 → (bt x i = true ↔ ne_H c na nb st m i)) : x = ne_rs c na nb st m := by
  apply b_ext
  intro i hi
  unfold ne_rs
  rw [sx_set_bt _ 11 (by omega) i hi, Bool.eq_iff_iff, h i hi, Bool.and_eq_true, sx_dt, decide_eq_true_eq]
  refine ⟨fun q => ⟨?_, q⟩, fun q => q.2⟩
  have := ne_H_in q
  omega
theorem ne_rs_bt {c : Nat → Bool} {na nb st : Nat → Nat} {m : Nat} (hm : m < 11) {i : Nat} (hi : i < 32) : bt (ne_rs c na nb st m) i = true ↔ ne_H c na nb st m i := by
  unfold ne_rs
  rw [sx_set_bt _ 11 (by omega) i hi, Bool.and_eq_true, sx_dt, decide_eq_true_eq]
  refine ⟨fun q => q.2, fun q => ⟨?_, q⟩⟩
  have := ne_H_in q
  omega
/-! the ways that the reference walks -/
def ne_V (c : Nat → Bool) (na nb st : Nat → Nat) (f : Nat → Nat) (l : Nat) : Prop := gp_V (fun n => n < 11) (fun p q => 5 ≤ q ∧ q < 11 ∧ 0 < ne_B c na nb st p q) f l
def ne_u (c : Nat → Bool) (na nb st ow : Nat → Nat) (f : Nat → Nat) : Nat → Nat
  | 0 => ow (f 0)
  | i + 1 => Nat.min (ne_B c na nb st (f i) (f (i + 1))) (ne_u c na nb st ow f i)
def ne_F (c : Nat → Bool) (na nb st ow W : Nat → Nat) (f : Nat → Nat) (i : Nat) : Prop := ∀ j, j ≤ i → ne_u c na nb st ow f j = W (f j)
theorem ne_u_cg {c : Nat → Bool} {na nb st ow : Nat → Nat} {f g : Nat → Nat} : ∀ i, (∀ j, j ≤ i → f j = g j) → ne_u c na nb st ow f i = ne_u c na nb st ow g i := by
  intro i
  induction i with
  | zero => intro h; simp only [ne_u]; rw [h 0 (Nat.le_refl _)]
  | succ i ih =>
    intro h
    simp only [ne_u]
    rw [ih (fun j hj => h j (by omega)), h i (by omega), h (i + 1) (Nat.le_refl _)]
theorem ne_F_cg {c : Nat → Bool} {na nb st ow W : Nat → Nat} {f g : Nat → Nat} {i : Nat} (h : ∀ j, j ≤ i → f j = g j) (hf : ne_F c na nb st ow W f i) : ne_F c na nb st ow W g i := by
  intro j hj
  rw [← ne_u_cg j (fun j' h' => h j' (by omega)), hf j hj, h j hj]
theorem ne_V_lt {c : Nat → Bool} {na nb st : Nat → Nat} {f : Nat → Nat} {l : Nat} (h : ne_V c na nb st f l) {i : Nat} (hi : i < l) : f i < 11 :=
  gp_below (fun _ h => h) (fun _ _ e => e.2.1) h i hi
theorem ne_V_len {c : Nat → Bool} {na nb st : Nat → Nat} {f : Nat → Nat} {l : Nat} (h : ne_V c na nb st f l) : l ≤ 11 :=
  gp_len (fun _ h => h) (fun _ _ e => e.2.1) h
theorem ne_u_R {c : Nat → Bool} {na nb st ow : Nat → Nat} {f : Nat → Nat} {l : Nat} (h : ne_V c na nb st f l) {x : Nat} (hx : 1 ≤ x) : ∀ i, i < l → x ≤ ne_u c na nb st ow f i → ne_R c na nb st ow x (f i) := by
  intro i
  induction i with
  | zero => intro hi hu; exact gl_b ⟨h.2.1, hu⟩
  | succ i ih =>
    intro hi hu
    simp only [ne_u] at hu
    have h1 : x ≤ ne_B c na nb st (f i) (f (i + 1)) := Nat.le_trans hu (Nat.min_le_left _ _)
    have h2 : x ≤ ne_u c na nb st ow f i := Nat.le_trans hu (Nat.min_le_right _ _)
    have e := h.2.2.1 i hi
    exact gl_s (ih (by omega) h2) ⟨e.1, e.2.1, (ne_B_iff hx).mp h1⟩
theorem ne_R_u {c : Nat → Bool} {na nb st ow : Nat → Nat} (hs : ∀ k, k < 12 → 1 ≤ st k) {x n : Nat} (hx : 1 ≤ x) (h : ne_R c na nb st ow x n) : ∃ f l, ne_V c na nb st f (l + 1) ∧ f l = n ∧ x ≤ ne_u c na nb st ow f l := by
  obtain ⟨f, l, hv, hl⟩ := gp_ex h
  refine ⟨f, l, ⟨hv.1, hv.2.1.1, ?_, hv.2.2.2⟩, hl, ?_⟩
  · intro i hi
    obtain ⟨h1, h2, e⟩ := hv.2.2.1 i hi
    exact ⟨h1, h2, Nat.lt_of_lt_of_le hx ((ne_B_iff hx).mpr e)⟩
  · have : ∀ i, i < l + 1 → x ≤ ne_u c na nb st ow f i := by
      intro i
      induction i with
      | zero => intro _; exact hv.2.1.2
      | succ i ih =>
        intro hi
        simp only [ne_u]
        exact Nat.le_min.mpr ⟨(ne_B_iff hx).mpr (hv.2.2.1 i hi).2.2, ih (by omega)⟩
    exact this l (by omega)
theorem ne_F_Q {c : Nat → Bool} {na nb st ow : Nat → Nat} {W : Nat → Nat} {f : Nat → Nat} {l : Nat} (h : ne_V c na nb st f l) : ∀ i, i < l → ne_F c na nb st ow W f i → ne_Q c na nb st ow W (f 0) (f i) := by
  intro i
  induction i with
  | zero => intro hi hf; exact gl_b ⟨rfl, h.2.1, (hf 0 (Nat.le_refl _)).symm⟩
  | succ i ih =>
    intro hi hf
    have e := h.2.2.1 i hi
    refine gl_s (ih (by omega) (fun j hj => hf j (by omega))) ?_
    have a := hf (i + 1) (Nat.le_refl _)
    have b := hf i (by omega)
    simp only [ne_u] at a
    rw [b] at a
    obtain ⟨k, hk, hc, hs, ho⟩ := (ne_B_iff (c := c) (na := na) (nb := nb) (st := st) e.2.2).mp (Nat.le_refl _)
    have hs2 : st k ≤ ne_B c na nb st (f i) (f (i + 1)) := by
      have h1 : 1 ≤ st k := Nat.le_trans e.2.2 hs
      exact (ne_B_iff h1).mpr ⟨k, hk, hc, Nat.le_refl _, ho⟩
    refine ⟨k, hk, e.1, e.2.1, hc, ho, ?_⟩
    have : st k = ne_B c na nb st (f i) (f (i + 1)) := Nat.le_antisymm hs2 hs
    rw [this, ← a]
    exact Nat.min_comm _ _
theorem ne_Q_F {c : Nat → Bool} {na nb st ow : Nat → Nat} (hs : ∀ k, k < 12 → 1 ≤ st k) {m n : Nat} (h : ne_Q c na nb st ow (ne_W c na nb st ow) m n) : ∃ f l, ne_V c na nb st f (l + 1) ∧ f l = n ∧ f 0 = m ∧ ne_F c na nb st ow (ne_W c na nb st ow) f l := by
  obtain ⟨f, l, hv, hl⟩ := gp_ex h
  have hB : ∀ i, i + 1 < l + 1 → 0 < ne_B c na nb st (f i) (f (i + 1)) := by
    intro i hi
    obtain ⟨k, hk, h1, h2, hc, ho, _⟩ := hv.2.2.1 i hi
    exact (ne_B_iff (Nat.le_refl 1)).mpr ⟨k, hk, hc, hs k hk, ho⟩
  refine ⟨f, l, ⟨hv.1, hv.2.1.2.1, ?_, hv.2.2.2⟩, hl, hv.2.1.1, ?_⟩
  · intro i hi
    obtain ⟨k, hk, h1, h2, hc, ho, _⟩ := hv.2.2.1 i hi
    exact ⟨h1, h2, hB i hi⟩
  · intro i
    induction i with
    | zero => intro _; exact hv.2.1.2.2.symm
    | succ i ih =>
      intro hi
      have a := ih (by omega)
      obtain ⟨k, hk, h1, h2, hc, ho, em⟩ := hv.2.2.1 i (by omega)
      simp only [ne_u]
      rw [a]
      have hB1 := hB i (by omega)
      have hk2 : st k ≤ ne_B c na nb st (f i) (f (i + 1)) := (ne_B_iff (hs k hk)).mpr ⟨k, hk, hc, Nat.le_refl _, ho⟩
      apply Nat.le_antisymm
      · refine ne_W_step (p := f i) ⟨h1, h2, ?_⟩ (Nat.min_le_right _ _)
        obtain ⟨k', hk', hc', hs', ho'⟩ := (ne_B_iff (c := c) (na := na) (nb := nb) (st := st) hB1).mp (Nat.le_refl _)
        exact ⟨k', hk', hc', Nat.le_trans (Nat.min_le_left _ _) hs', ho'⟩
      · rw [← em]
        exact Nat.le_min.mpr ⟨Nat.le_trans (Nat.min_le_right _ _) hk2, Nat.min_le_left _ _⟩
