/-! ===== least closed sets, layers, simple ways ===== -/
def gl_C (B : Nat → Prop) (A : Nat → Nat → Prop) (n : Nat) : Prop :=
  ∀ P : Nat → Prop, (∀ n, B n → P n) → (∀ p q, P p → A p q → P q) → P n
theorem gl_b {B : Nat → Prop} {A : Nat → Nat → Prop} {n : Nat} (h : B n) : gl_C B A n := fun _ hb _ => hb n h
theorem gl_s {B : Nat → Prop} {A : Nat → Nat → Prop} {p q : Nat} (h : gl_C B A p) (e : A p q) : gl_C B A q :=
  fun P hb hs => hs p q (h P hb hs) e
theorem gl_i {B : Nat → Prop} {A : Nat → Nat → Prop} {n : Nat} (h : gl_C B A n) (P : Nat → Prop) (hb : ∀ n, B n → P n) (hs : ∀ p q, gl_C B A p → P p → A p q → P q) : P n :=
  (h (fun n => gl_C B A n ∧ P n) (fun n b => ⟨gl_b b, hb n b⟩) (fun p q hp e => ⟨gl_s hp.1 e, hs p q hp.1 hp.2 e⟩)).2
theorem gl_mono {B B' : Nat → Prop} {A A' : Nat → Nat → Prop} (hB : ∀ n, B n → B' n) (hA : ∀ p q, A p q → A' p q) {n : Nat} (h : gl_C B A n) : gl_C B' A' n :=
  gl_i h _ (fun n b => gl_b (hB n b)) (fun p q _ hp e => gl_s hp (hA p q e))
def gl_L (B : Nat → Prop) (A : Nat → Nat → Prop) : Nat → Nat → Prop
  | 0 => B
  | d + 1 => fun q => gl_L B A d q ∨ ∃ p, gl_L B A d p ∧ A p q
theorem gl_L_mono {B : Nat → Prop} {A : Nat → Nat → Prop} {n : Nat} : ∀ d e, d ≤ e → gl_L B A d n → gl_L B A e n := by
  intro d e
  induction e with
  | zero => intro h hl; have : d = 0 := by omega
            subst this; exact hl
  | succ e ih =>
    intro h hl
    by_cases c : d = e + 1
    · subst c; exact hl
    · exact Or.inl (ih (by omega) hl)
/-- a simple way: f 0 .. f (l - 1) -/
def gp_V (B : Nat → Prop) (A : Nat → Nat → Prop) (f : Nat → Nat) (l : Nat) : Prop :=
  0 < l ∧ B (f 0) ∧ (∀ i, i + 1 < l → A (f i) (f (i + 1))) ∧ (∀ i j, i < j → j < l → f i ≠ f j)
def gp_u (f : Nat → Nat) (l t : Nat) : Nat → Nat := fun j => if j = l then t else f j
theorem gp_us {f : Nat → Nat} {l t : Nat} : gp_u f l t l = t := if_pos rfl
theorem gp_un {f : Nat → Nat} {l t j : Nat} (h : j ≠ l) : gp_u f l t j = f j := if_neg h
theorem gp_one {B : Nat → Prop} {A : Nat → Nat → Prop} {f : Nat → Nat} (h : B (f 0)) : gp_V B A f 1 :=
  ⟨by omega, h, fun i hi => by omega, fun i j h1 h2 => by omega⟩
theorem gp_pre {B : Nat → Prop} {A : Nat → Nat → Prop} {f : Nat → Nat} {l m : Nat} (h : gp_V B A f l) (h0 : 0 < m) (hm : m ≤ l) : gp_V B A f m :=
  ⟨h0, h.2.1, fun i hi => h.2.2.1 i (by omega), fun i j h1 h2 => h.2.2.2 i j h1 (by omega)⟩
theorem gp_app {B : Nat → Prop} {A : Nat → Nat → Prop} {f : Nat → Nat} {l t : Nat} (h : gp_V B A f l) (e : A (f (l - 1)) t) (hn : ∀ j, j < l → f j ≠ t) : gp_V B A (gp_u f l t) (l + 1) := by
  obtain ⟨h0, h1, h2, h3⟩ := h
  refine ⟨by omega, ?_, ?_, ?_⟩
  · rw [gp_un (by omega)]; exact h1
  · intro i hi
    rw [gp_un (by omega)]
    by_cases c : i + 1 = l
    · rw [c, gp_us]
      have : i = l - 1 := by omega
      rw [this]; exact e
    · rw [gp_un c]; exact h2 i (by omega)
  · intro i j hij hj
    rw [gp_un (by omega)]
    by_cases c : j = l
    · rw [c, gp_us]; exact hn i (by omega)
    · rw [gp_un c]; exact h3 i j hij (by omega)
theorem gp_ex {B : Nat → Prop} {A : Nat → Nat → Prop} {n : Nat} (h : gl_C B A n) : ∃ f l, gp_V B A f (l + 1) ∧ f l = n := by
  refine gl_i h (fun n => ∃ f l, gp_V B A f (l + 1) ∧ f l = n) ?_ ?_
  · intro n hb
    exact ⟨fun _ => n, 0, gp_one hb, rfl⟩
  · intro p q _ hp e
    obtain ⟨f, l, hv, hl⟩ := hp
    by_cases c : ∃ j, j < l + 1 ∧ f j = q
    · obtain ⟨j, hj, ej⟩ := c
      exact ⟨f, j, gp_pre hv (by omega) (by omega), ej⟩
    · refine ⟨gp_u f (l + 1) q, l + 1, gp_app hv ?_ ?_, gp_us⟩
      · show A (f l) q
        rw [hl]; exact e
      · intro j hj ej
        exact c ⟨j, hj, ej⟩
/-- no more than N different numbers lie below N -/
theorem gp_pig : ∀ (N : Nat) (f : Nat → Nat) (l : Nat), (∀ i, i < l → f i < N) → (∀ i j, i < j → j < l → f i ≠ f j) → l ≤ N := by
  intro N
  induction N with
  | zero =>
    intro f l h _
    rcases Nat.eq_zero_or_pos l with c | c
    · omega
    · exact absurd (h 0 c) (by omega)
  | succ N ih =>
    intro f l h hd
    by_cases c : ∃ k, k < l ∧ f k = N
    · obtain ⟨k, hk, ek⟩ := c
      have : l - 1 ≤ N := by
        refine ih (fun i => if i < k then f i else f (i + 1)) (l - 1) ?_ ?_
        · intro i hi
          by_cases c1 : i < k
          · rw [if_pos c1]
            have a := h i (by omega)
            have b := hd i k c1 hk
            omega
          · rw [if_neg c1]
            have a := h (i + 1) (by omega)
            have b := hd k (i + 1) (by omega) (by omega)
            omega
        · intro i j hij hj
          by_cases c1 : i < k
          · rw [if_pos c1]
            by_cases c2 : j < k
            · rw [if_pos c2]; exact hd i j hij (by omega)
            · rw [if_neg c2]; exact hd i (j + 1) (by omega) (by omega)
          · rw [if_neg c1, if_neg (by omega)]
            exact hd (i + 1) (j + 1) (by omega) (by omega)
      omega
    · have : l ≤ N := by
        refine ih f l ?_ hd
        intro i hi
        have a := h i hi
        have b : f i ≠ N := fun e => c ⟨i, hi, e⟩
        omega
      omega
theorem gp_below {B : Nat → Prop} {A : Nat → Nat → Prop} {N : Nat} (hB : ∀ n, B n → n < N) (hA : ∀ p q, A p q → q < N) {f : Nat → Nat} {l : Nat} (h : gp_V B A f l) : ∀ i, i < l → f i < N := by
  intro i hi
  cases i with
  | zero => exact hB _ h.2.1
  | succ i => exact hA _ _ (h.2.2.1 i hi)
theorem gp_len {B : Nat → Prop} {A : Nat → Nat → Prop} {N : Nat} (hB : ∀ n, B n → n < N) (hA : ∀ p q, A p q → q < N) {f : Nat → Nat} {l : Nat} (h : gp_V B A f l) : l ≤ N :=
  gp_pig N f l (gp_below hB hA h) h.2.2.2
theorem gp_lay {B : Nat → Prop} {A : Nat → Nat → Prop} {f : Nat → Nat} {l : Nat} (h : gp_V B A f l) : ∀ i, i < l → gl_L B A i (f i) := by
  intro i
  induction i with
  | zero => intro _; exact h.2.1
  | succ i ih => intro hi; exact Or.inr ⟨f i, ih (by omega), h.2.2.1 i hi⟩
theorem gl_fin {B : Nat → Prop} {A : Nat → Nat → Prop} (hB : ∀ n, B n → n < 11) (hA : ∀ p q, A p q → q < 11) {n : Nat} (h : gl_C B A n) : gl_L B A 11 n := by
  obtain ⟨f, l, hv, hl⟩ := gp_ex h
  have hn := gp_len hB hA hv
  have := gp_lay hv l (by omega)
  rw [hl] at this
  exact gl_L_mono l 11 (by omega) this
theorem gl_L_C {B : Nat → Prop} {A : Nat → Nat → Prop} : ∀ d n, gl_L B A d n → gl_C B A n := by
  intro d
  induction d with
  | zero => intro n h; exact gl_b h
  | succ d ih =>
    intro n h
    rcases h with h | ⟨p, hp, e⟩
    · exact ih n h
    · exact gl_s (ih p hp) e
/-- the set in hand while the j-th of the edges' bundles of a round is next -/
def gr_I (L C M : Nat → Prop) (A : Nat → Nat → Nat → Prop) (k : Nat) : Prop :=
  (∀ n, L n → C n) ∧ (∀ n, C n → M n) ∧ (∀ j, j < k → ∀ p q, L p → A j p q → C q)
theorem gr_0 {L C M : Nat → Prop} {A : Nat → Nat → Nat → Prop} (h1 : ∀ n, L n → C n) (h2 : ∀ n, C n → M n) : gr_I L C M A 0 :=
  ⟨h1, h2, fun j hj => by omega⟩
theorem gr_s {L C C' M : Nat → Prop} {A : Nat → Nat → Nat → Prop} {k : Nat} (h : gr_I L C M A k) (h1 : ∀ n, C n → C' n) (h2 : ∀ n, C' n → M n) (h3 : ∀ p q, C p → A k p q → C' q) : gr_I L C' M A (k + 1) := by
  refine ⟨fun n hn => h1 n (h.1 n hn), h2, ?_⟩
  intro j hj p q hp e
  by_cases c : j = k
  · subst c; exact h3 p q (h.1 p hp) e
  · exact h1 q (h.2.2 j (by omega) p q hp e)
theorem gr_e {B : Nat → Prop} {A : Nat → Nat → Prop} {A' : Nat → Nat → Nat → Prop} {N r : Nat} (hA : ∀ p q, A p q → ∃ j, j < N ∧ A' j p q) {C M : Nat → Prop} (h : gr_I (gl_L B A r) C M A' N) : ∀ n, gl_L B A (r + 1) n → C n := by
  intro n hn
  rcases hn with hn | ⟨p, hp, e⟩
  · exact h.1 n hn
  · obtain ⟨j, hj, e'⟩ := hA p n e
    exact h.2.2 j hj p n hp e'
