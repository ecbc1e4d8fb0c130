/-! ===== the order in which the reference walks the ways ===== -/
/-- (q, m) is still to come when at depth L the digit t is next -/
def df_R (w : Nat → Nat) (L t : Nat) (q : Nat → Nat) (m : Nat) : Prop :=
  (∃ i, i < L ∧ i < m ∧ (∀ j, j < i → q j = w j) ∧ w i < q i) ∨ (L < m ∧ (∀ j, j < L → q j = w j) ∧ t ≤ q L)
def df_eq (w : Nat → Nat) (L : Nat) (q : Nat → Nat) (m : Nat) : Prop := m = L ∧ ∀ j, j < L → q j = w j
theorem df_next {w : Nat → Nat} {L t : Nat} {q : Nat → Nat} {m : Nat} (h : df_R w L t q m) (hn : L < m → (∀ j, j < L → q j = w j) → q L ≠ t) : df_R w L (t + 1) q m := by
  rcases h with h | ⟨h1, h2, h3⟩
  · exact Or.inl h
  · have := hn h1 h2
    exact Or.inr ⟨h1, h2, by omega⟩
theorem df_skip {w : Nat → Nat} {L t u : Nat} {q : Nat → Nat} {m : Nat} (h : df_R w L t q m) (hn : L < m → (∀ j, j < L → q j = w j) → t ≤ q L → u ≤ q L) : df_R w L u q m := by
  rcases h with h | ⟨h1, h2, h3⟩
  · exact Or.inl h
  · exact Or.inr ⟨h1, h2, hn h1 h2 h3⟩
theorem df_pop {w : Nat → Nat} {L t : Nat} {q : Nat → Nat} {m : Nat} (h : df_R w (L + 1) t q m) (hn : L + 1 < m → (∀ j, j < L + 1 → q j = w j) → t ≤ q (L + 1) → False) : df_R w L (w L + 1) q m := by
  rcases h with ⟨i, h1, h2, h3, h4⟩ | ⟨h1, h2, h3⟩
  · by_cases c : i = L
    · subst c; exact Or.inr ⟨h2, h3, h4⟩
    · exact Or.inl ⟨i, by omega, h2, h3, h4⟩
  · exact (hn h1 h2 h3).elim
theorem df_push {w : Nat → Nat} {L t : Nat} {q : Nat → Nat} {m : Nat} (h : df_R w L t q m) : df_R (gp_u w L t) (L + 1) 0 q m ∨ df_eq (gp_u w L t) (L + 1) q m := by
  rcases h with ⟨i, h1, h2, h3, h4⟩ | ⟨h1, h2, h3⟩
  · refine Or.inl (Or.inl ⟨i, by omega, h2, ?_, ?_⟩)
    · intro j hj; rw [gp_un (by omega)]; exact h3 j hj
    · rw [gp_un (by omega)]; exact h4
  · by_cases c : q L = t
    · have ag : ∀ j, j < L + 1 → q j = gp_u w L t j := by
        intro j hj
        by_cases e : j = L
        · subst e; rw [gp_us]; exact c
        · rw [gp_un e]; exact h2 j (by omega)
      by_cases e : m = L + 1
      · exact Or.inr ⟨e, ag⟩
      · exact Or.inl (Or.inr ⟨by omega, ag, Nat.zero_le _⟩)
    · refine Or.inl (Or.inl ⟨L, by omega, h1, ?_, ?_⟩)
      · intro j hj; rw [gp_un (by omega)]; exact h2 j hj
      · rw [gp_us]; omega
/-! a number that grows -/
def df_c (f : Nat → Nat) : Nat → Nat → Nat
  | 0, _ => 0
  | d + 1, i => f i * 12 ^ d + df_c f d (i + 1)
theorem df_c_lt (f : Nat → Nat) (h : ∀ i, f i ≤ 11) : ∀ d i, df_c f d i < 12 ^ d := by
  intro d
  induction d with
  | zero => intro i; simp [df_c]
  | succ d ih =>
    intro i
    rw [df_c, Nat.pow_succ]
    have a := ih (i + 1)
    have b := Nat.mul_le_mul_right (12 ^ d) (h i)
    generalize 12 ^ d = X at *
    omega
theorem df_c_grow (f g : Nat → Nat) (h : ∀ i, f i ≤ 11) : ∀ d i k, i ≤ k → k < i + d → (∀ j, i ≤ j → j < k → f j = g j) → f k < g k → df_c f d i < df_c g d i := by
  intro d
  induction d with
  | zero => intro i k h1 h2; omega
  | succ d ih =>
    intro i k h1 h2 h3 h4
    rw [df_c, df_c]
    by_cases e : i = k
    · subst e
      have a := df_c_lt f h d (i + 1)
      have b : (f i + 1) * 12 ^ d ≤ g i * 12 ^ d := Nat.mul_le_mul_right _ h4
      rw [Nat.add_mul, Nat.one_mul] at b
      omega
    · have a := ih (i + 1) k (by omega) (by omega) (fun j hj hk => h3 j (by omega) hk) h4
      rw [h3 i (Nat.le_refl _) (by omega)]
      omega
def df_g (w : Nat → Nat) (l : Nat) : Nat → Nat := fun i => if i < l ∧ w i < 11 then w i + 1 else 0
theorem df_g_le (w : Nat → Nat) (l i : Nat) : df_g w l i ≤ 11 := by
  unfold df_g
  split <;> omega
def df_n (w : Nat → Nat) (l : Nat) : Nat := 12 ^ 11 - df_c (df_g w l) 11 0
theorem df_n_fall {w : Nat → Nat} {l L t : Nat} (hw : ∀ i, i < l → w i < 11) (h1 : L ≤ l) (h2 : L < l → w L < t) (ht : t < 11) (hL : L < 11) : df_n (gp_u w L t) (L + 1) < df_n w l := by
  have a := df_c_grow (df_g w l) (df_g (gp_u w L t) (L + 1)) (df_g_le w l) 11 0 L (by omega) (by omega) ?_ ?_
  · have b := df_c_lt (df_g (gp_u w L t) (L + 1)) (df_g_le _ _) 11 0
    unfold df_n
    generalize 12 ^ 11 = X at *
    omega
  · intro j _ hj
    unfold df_g
    have e : gp_u w L t j = w j := gp_un (by omega)
    have := hw j (by omega)
    rw [e, if_pos ⟨by omega, this⟩, if_pos ⟨by omega, this⟩]
  · unfold df_g
    rw [gp_us, if_pos (show L < L + 1 ∧ t < 11 from ⟨by omega, ht⟩)]
    by_cases c : L < l
    · have := h2 c
      rw [if_pos ⟨c, by omega⟩]; omega
    · rw [if_neg (fun z => c z.1)]; omega
