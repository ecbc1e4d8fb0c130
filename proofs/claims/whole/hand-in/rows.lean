section
theorem pk_us {f : Nat → Int32} {k : Nat} {x : Int32} : upd f k x k = x := if_pos rfl
theorem pk_un {f : Nat → Int32} {k j : Nat} {x : Int32} (h : j ≠ k) : upd f k x j = f j := if_neg h
theorem pk_sub {a b : Nat} (h : b ≤ a) : nI a - nI b = nI (a - b) := by
  obtain ⟨c, rfl⟩ : ∃ c, a = c + b := ⟨a - b, by omega⟩
  rw [← nI_add, Int32.add_sub_cancel, Nat.add_sub_cancel]
theorem pk_m1 (n : Nat) : nI (n + 1) + (-1) = nI n := by
  rw [← nI_1, Int32.add_assoc, show (1 : Int32) + (-1) = 0 from rfl, Int32.add_zero]
theorem pk_mul (a b : Nat) : nI a * nI b = nI (a * b) := (Int32.ofNat_mul a b).symm
theorem pk_div {a d : Nat} (ha : a < 2 ^ 31) (h0 : 0 < d) (hd : d < 2 ^ 31) : nI a / nI d = nI (a / d) := by
  apply Int32.toInt_inj.mp
  rw [lg_idiv_nonneg (by rw [nI_toInt ha]; omega) (by rw [nI_toInt hd]; omega), nI_toInt ha, nI_toInt hd, nI_toInt (Nat.lt_of_le_of_lt (Nat.div_le_self a d) ha)]
  first | rfl | exact (Int.natCast_ediv _ _).symm
theorem pk_rem {a d : Nat} (ha : a < 2 ^ 31) (h0 : 0 < d) (hd : d < 2 ^ 31) : nI a - nI a / nI d * nI d = nI (a % d) := by
  rw [pk_div ha h0 hd, pk_mul, pk_sub (Nat.div_mul_le_self a d)]
  exact congrArg nI (by have := Nat.div_add_mod' a d; omega)
theorem pk_ix (x : Int32) {n : Nat} (hn : n < 2 ^ 31) : x < 0 ∨ nI n ≤ x ∨ ∃ j : Nat, j < n ∧ x = nI j := by
  by_cases h : x < 0
  · exact Or.inl h
  · obtain ⟨j, hj, rfl⟩ := nI_of h
    by_cases h2 : j < n
    · exact Or.inr (Or.inr ⟨j, h2, rfl⟩)
    · exact Or.inr (Or.inl (nI_le (by omega) hj))
theorem pk_le {x y : Int32} {A B : Prop} (a b : Nat) (f : a ≤ b → A) (g : b < a → B) (hx : x = nI a := by rfl) (hy : y = nI b := by rfl) (ha : a < 2 ^ 31 := by omega) (hb : b < 2 ^ 31 := by omega) : (x ≤ y → A) ∧ (¬ x ≤ y → B) := by
  subst hx hy
  rw [nI_leI ha hb]
  exact ⟨f, fun z => g (by omega)⟩
theorem pk_lt {x y : Int32} {A B : Prop} (a b : Nat) (f : a < b → A) (g : b ≤ a → B) (hx : x = nI a := by rfl) (hy : y = nI b := by rfl) (ha : a < 2 ^ 31 := by omega) (hb : b < 2 ^ 31 := by omega) : (x < y → A) ∧ (¬ x < y → B) := by
  subst hx hy
  rw [nI_ltI ha hb]
  exact ⟨f, fun z => g (by omega)⟩
theorem pk_eq {x y : Int32} {A B : Prop} (a b : Nat) (f : a = b → A) (g : a ≠ b → B) (hx : x = nI a := by rfl) (hy : y = nI b := by rfl) (ha : a < 2 ^ 31 := by omega) (hb : b < 2 ^ 31 := by omega) : (x = y → A) ∧ (¬ x = y → B) := by
  subst hx hy
  rw [nI_eq ha hb]
  exact ⟨f, g⟩
theorem pk_in {x : Int32} (n N : Nat) (h : n < N) (hx : x = nI n := by rfl) (hN : N < 2 ^ 31 := by omega) : vp_in x N := by
  subst hx
  exact vp_in_nI h hN
theorem pk_cl {x : Int32} (n : Nat) (hx : x = nI n := by rfl) (h : n < 2 ^ 31 := by omega) : x.toNatClampNeg = n := by
  subst hx
  exact nI_clamp h
theorem pk_tn {n : Nat} (h : n < 2 ^ 32) : (nI n).toBitVec.toNat = n := Nat.mod_eq_of_lt h
theorem pk_and (x : Int32) {m : Int32} (k : Nat) (hm : m.toBitVec.toNat = 2 ^ k - 1) : x &&& m = nI (x.toBitVec.toNat % 2 ^ k) := by
  apply Int32.toBitVec_inj.mp
  apply BitVec.eq_of_toNat_eq
  rw [Int32.toBitVec_and, BitVec.toNat_and, hm, Nat.and_two_pow_sub_one_eq_mod]
  show _ = (BitVec.ofNat 32 _).toNat
  rw [BitVec.toNat_ofNat]
  exact (Nat.mod_eq_of_lt (Nat.lt_of_le_of_lt (Nat.mod_le _ _) x.toBitVec.isLt)).symm
theorem pk_andN {n : Nat} (h : n < 2 ^ 32) {m : Int32} (k : Nat) (hm : m.toBitVec.toNat = 2 ^ k - 1) : nI n &&& m = nI (n % 2 ^ k) := by
  rw [pk_and _ k hm, pk_tn h]
theorem pk_andE (x : Int32) {m : Int32} (k : Nat) (hm : m.toBitVec.toNat = 2 ^ k - 1) : ∃ j : Nat, j < 2 ^ k ∧ x &&& m = nI j := ⟨_, Nat.mod_lt _ (Nat.two_pow_pos k), pk_and x k hm⟩
theorem pk_andIn (x : Int32) {m : Int32} (k : Nat) (hm : m.toBitVec.toNat = 2 ^ k - 1) (hk : k ≤ 30) : vp_in (x &&& m) (2 ^ k) := by
  obtain ⟨j, hj, e⟩ := pk_andE x k hm
  rw [e]
  exact vp_in_nI hj (Nat.lt_of_le_of_lt (Nat.pow_le_pow_right (by decide) hk) (by decide))
theorem pk_shl (a s : Int32) (k : Nat) (hs : (s.toBitVec.smod 32).toNat = k) : (a <<< s).toBitVec.toNat = a.toBitVec.toNat * 2 ^ k % 2 ^ 32 := by
  show (a.toBitVec <<< (s.toBitVec.smod 32).toNat).toNat = _
  rw [hs, BitVec.toNat_shiftLeft, Nat.shiftLeft_eq]
theorem pk_shlN {n : Nat} (s : Int32) (k : Nat) (hs : (s.toBitVec.smod 32).toNat = k) (h : n * 2 ^ k < 2 ^ 32) : nI n <<< s = nI (n * 2 ^ k) := by
  apply Int32.toBitVec_inj.mp
  apply BitVec.eq_of_toNat_eq
  have hn : n < 2 ^ 32 := Nat.lt_of_le_of_lt (Nat.le_mul_of_pos_right n (Nat.two_pow_pos k)) h
  rw [pk_shl _ _ k hs, pk_tn hn, pk_tn h, Nat.mod_eq_of_lt h]
theorem pk_shr (a s : Int32) (k : Nat) (hs : (s.toBitVec.smod 32).toNat = k) : (a >>> s).toInt = a.toInt >>> k := by
  show (a.toBitVec.sshiftRight (s.toBitVec.smod 32).toNat).toInt = _
  rw [hs, BitVec.toInt_sshiftRight]
  rfl
theorem pk_shrN {n : Nat} (h : n < 2 ^ 31) (s : Int32) (k : Nat) (hs : (s.toBitVec.smod 32).toNat = k) : nI n >>> s = nI (n / 2 ^ k) := by
  apply Int32.toInt_inj.mp
  have h2 : n / 2 ^ k ≤ n := Nat.div_le_self _ _
  rw [pk_shr _ _ k hs, nI_toInt h, nI_toInt (by omega), Int.shiftRight_eq_div_pow]
  rfl
def bt (x : Int32) (i : Nat) : Bool := x.toBitVec.getLsbD i
theorem b_ext {x y : Int32} (h : ∀ i, i < 32 → bt x i = bt y i) : x = y := Int32.toBitVec_inj.mp (BitVec.eq_of_getLsbD_eq (fun i hi => h i hi))
theorem b_or (x y : Int32) (i : Nat) : bt (x ||| y) i = (bt x i || bt y i) := by unfold bt; rw [Int32.toBitVec_or, BitVec.getLsbD_or]
theorem b_and (x y : Int32) (i : Nat) : bt (x &&& y) i = (bt x i && bt y i) := by unfold bt; rw [Int32.toBitVec_and, BitVec.getLsbD_and]
theorem b_xor (x y : Int32) (i : Nat) : bt (x ^^^ y) i = (bt x i ^^ bt y i) := by unfold bt; rw [Int32.toBitVec_xor, BitVec.getLsbD_xor]
theorem b_big {x : Int32} {i : Nat} (h : 32 ≤ i) : bt x i = false := BitVec.getLsbD_of_ge _ _ h
theorem b_255 (i : Nat) : bt 255 i = decide (i < 8) := by
  rcases Nat.lt_or_ge i 32 with h | h
  · exact (by decide +kernel : ∀ i, i < 32 → bt 255 i = decide (i < 8)) i h
  · rw [b_big h, decide_eq_false (by omega)]
theorem b_65535 (i : Nat) : bt 65535 i = decide (i < 16) := by
  rcases Nat.lt_or_ge i 32 with h | h
  · exact (by decide +kernel : ∀ i, i < 32 → bt 65535 i = decide (i < 16)) i h
  · rw [b_big h, decide_eq_false (by omega)]
theorem b_m1 : ∀ i, i < 32 → bt (-1) i = true := by decide +kernel
theorem b_0 (i : Nat) : bt 0 i = false := BitVec.getLsbD_zero
theorem s_l : ∀ n, n < 32 → ((nI n &&& 31).toBitVec.smod 32).toNat = n := by decide +kernel
theorem s_u : ∀ n, n < 32 → (((nI n).toUInt32 &&& Int32.toUInt32 31).toBitVec % 32).toNat = n := by decide +kernel
theorem b_shl (n : Nat) (hn : n < 32) (x : Int32) {i : Nat} (hi : i < 32) : bt (x <<< (nI n &&& 31)) i = (decide (n ≤ i) && bt x (i - n)) := by
  unfold bt
  rw [Int32.toBitVec_shiftLeft]
  show (x.toBitVec <<< ((nI n &&& 31).toBitVec.smod 32).toNat).getLsbD i = _
  rw [s_l n hn, BitVec.getLsbD_shiftLeft]
  rcases Nat.lt_or_ge i n with h | h
  · simp [h, Nat.not_le.mpr h]
  · simp [hi, h, Nat.not_lt.mpr h]
theorem b_ushr (n : Nat) (hn : n < 32) (x : Int32) (i : Nat) : bt ((x.toUInt32 >>> ((nI n).toUInt32 &&& Int32.toUInt32 31)).toInt32) i = bt x (n + i) := by
  show (x.toUInt32 >>> ((nI n).toUInt32 &&& Int32.toUInt32 31)).toBitVec.getLsbD i = x.toUInt32.toBitVec.getLsbD (n + i)
  rw [UInt32.toBitVec_shiftRight]
  show (x.toUInt32.toBitVec >>> (((nI n).toUInt32 &&& Int32.toUInt32 31).toBitVec % 32).toNat).getLsbD i = _
  rw [s_u n hn, BitVec.getLsbD_ushiftRight]
theorem b_sshr (n : Nat) (hn : n < 32) (x : Int32) {i : Nat} (hi : i < 32) : bt (x >>> (nI n &&& 31)) i = if n + i < 32 then bt x (n + i) else bt x 31 := by
  unfold bt
  rw [Int32.toBitVec_shiftRight]
  show (x.toBitVec.sshiftRight ((nI n &&& 31).toBitVec.smod 32).toNat).getLsbD i = _
  rw [s_l n hn, BitVec.getLsbD_sshiftRight, BitVec.msb_eq_getLsbD_last]
  simp [hi]
/-! ===== own: one bit, and a set of bits built up ===== -/
theorem sx_one (i : Nat) (hi : i < 32) : bt 1 i = decide (i = 0) := by
  exact (by decide +kernel : ∀ i, i < 32 → bt 1 i = decide (i = 0)) i hi
theorem sx_get (x : Int32) {k : Nat} (hk : k < 32) : ((x >>> (nI k &&& 31)) &&& 1) = if bt x k = true then 1 else 0 := by
  apply b_ext
  intro i hi
  rw [b_and, sx_one i hi, b_sshr k hk x hi]
  by_cases h0 : i = 0
  · subst h0
    simp only [Nat.add_zero, hk, if_true, decide_true, Bool.and_true]
    cases h : bt x k
    · simp [b_0]
    · simp [sx_one 0 (by omega)]
  · rw [decide_eq_false h0, Bool.and_false]
    cases h : bt x k
    · simp [b_0]
    · simp [sx_one i hi, h0]
theorem sx_t {x : Int32} {k : Nat} (hk : k < 32) (h : bt x k = true) : ((x >>> (nI k &&& 31)) &&& 1) = 1 := by
  rw [sx_get x hk, if_pos h]
theorem sx_f {x : Int32} {k : Nat} (hk : k < 32) (h : bt x k = false) : ¬ ((x >>> (nI k &&& 31)) &&& 1) = 1 := by
  rw [sx_get x hk, if_neg (by rw [h]; decide)]
  decide
theorem sx_bit {k : Nat} (hk : k < 32) {i : Nat} (hi : i < 32) : bt ((1 : Int32) <<< (nI k &&& 31)) i = decide (i = k) := by
  rw [b_shl k hk 1 hi]
  by_cases h : k ≤ i
  · rw [sx_one (i - k) (by omega), decide_eq_true h, Bool.true_and]
    by_cases e : i = k
    · rw [decide_eq_true e, decide_eq_true (by omega)]
    · rw [decide_eq_false e, decide_eq_false (by omega)]
  · rw [decide_eq_false h, Bool.false_and, decide_eq_false (by omega)]
/-- the number whose bits below n are those of c -/
def sx_set (c : Nat → Bool) : Nat → Int32
  | 0 => 0
  | k + 1 => if c k = true then sx_set c k ||| ((1 : Int32) <<< (nI k &&& 31)) else sx_set c k
theorem sx_set_bt (c : Nat → Bool) : ∀ n, n ≤ 32 → ∀ i, i < 32 → bt (sx_set c n) i = (decide (i < n) && c i) := by
  intro n
  induction n with
  | zero => intro _ i _; simp [sx_set, b_0]
  | succ n ih =>
    intro hn i hi
    have h := ih (by omega) i hi
    rw [sx_set]
    by_cases hc : c n = true
    · rw [if_pos hc, b_or, h, sx_bit (by omega) hi]
      by_cases e : i = n
      · subst e; simp [hc]
      · by_cases e2 : i < n
        · simp [e, e2, show i < n + 1 from by omega]
        · simp [e, e2, show ¬ i < n + 1 from by omega]
    · rw [if_neg hc, h]
      by_cases e : i = n
      · subst e; simp [hc]
      · by_cases e2 : i < n
        · simp [e2, show i < n + 1 from by omega]
        · simp [e2, show ¬ i < n + 1 from by omega]
theorem sx_unset {x : Int32} {k : Nat} (hk : k < 32) {i : Nat} (hi : i < 32) : bt (x &&& (((1 : Int32) <<< (nI k &&& 31)) ^^^ (-1))) i = (bt x i && !decide (i = k)) := by
  rw [b_and, b_xor, sx_bit hk hi, b_m1 i hi, Bool.xor_true]
theorem sx_up (f : Nat → Int32) (k : Nat) (x : Int32) (j : Nat) : upd f k x j = if j = k then x else f j := rfl
noncomputable def sx_d (p : Prop) : Bool := @decide p (Classical.propDecidable p)
theorem sx_dt {p : Prop} : sx_d p = true ↔ p := @decide_eq_true_iff p (Classical.propDecidable p)
theorem sx_df {p : Prop} : sx_d p = false ↔ ¬ p := @decide_eq_false_iff_not p (Classical.propDecidable p)
end
section
/-! ===== least closed sets, layers, simple ways ===== -/
def gl_C (B : Nat → Prop) (A : Nat → Nat → Prop) (n : Nat) : Prop :=
  ∀ P : Nat → Prop, (∀ n, B n → P n) → (∀ p q, P p → A p q → P q) → P n
theorem gl_b {B : Nat → Prop} {A : Nat → Nat → Prop} {n : Nat} (h : B n) : gl_C B A n := fun _ hb _ => hb n h
theorem gl_s {B : Nat → Prop} {A : Nat → Nat → Prop} {p q : Nat} (h : gl_C B A p) (e : A p q) : gl_C B A q :=
  fun P hb hs => hs p q (h P hb hs) e
theorem gl_i {B : Nat → Prop} {A : Nat → Nat → Prop} {n : Nat} (h : gl_C B A n) (P : Nat → Prop) (hb : ∀ n, B n → P n) (hs : ∀ p q, gl_C B A p → P p → A p q → P q) : P n :=
  (h (fun n => gl_C B A n ∧ P n) (fun n b => ⟨gl_b b, hb n b⟩) (fun p q hp e => ⟨gl_s hp.1 e, hs p q hp.1 hp.2 e⟩)).2
theorem gl_mono {B B' : Nat → Prop} {A A' : Nat → Nat → Prop} (hB : ∀ n, B n → B' n) (hA : ∀ p q, A p q → A' p q) {n : Nat} (h : gl_C B A n) : gl_C B' A' n :=
  gl_i h _ (fun n b => gl_b (hB n b)) (fun p q _ hp e => gl_s hp (hA p q e))
def gl_L (B : Nat → Prop) (A : Nat → Nat → Prop) : Nat → Nat → Prop
  | 0 => B
  | d + 1 => fun q => gl_L B A d q ∨ ∃ p, gl_L B A d p ∧ A p q
theorem gl_L_mono {B : Nat → Prop} {A : Nat → Nat → Prop} {n : Nat} : ∀ d e, d ≤ e → gl_L B A d n → gl_L B A e n := by
  intro d e
  induction e with
  | zero => intro h hl; have : d = 0 := by omega
            subst this; exact hl
  | succ e ih =>
    intro h hl
    by_cases c : d = e + 1
    · subst c; exact hl
    · exact Or.inl (ih (by omega) hl)
/-- a simple way: f 0 .. f (l - 1) -/
def gp_V (B : Nat → Prop) (A : Nat → Nat → Prop) (f : Nat → Nat) (l : Nat) : Prop :=
  0 < l ∧ B (f 0) ∧ (∀ i, i + 1 < l → A (f i) (f (i + 1))) ∧ (∀ i j, i < j → j < l → f i ≠ f j)
def gp_u (f : Nat → Nat) (l t : Nat) : Nat → Nat := fun j => if j = l then t else f j
theorem gp_us {f : Nat → Nat} {l t : Nat} : gp_u f l t l = t := if_pos rfl
theorem gp_un {f : Nat → Nat} {l t j : Nat} (h : j ≠ l) : gp_u f l t j = f j := if_neg h
theorem gp_one {B : Nat → Prop} {A : Nat → Nat → Prop} {f : Nat → Nat} (h : B (f 0)) : gp_V B A f 1 :=
  ⟨by omega, h, fun i hi => by omega, fun i j h1 h2 => by omega⟩
theorem gp_pre {B : Nat → Prop} {A : Nat → Nat → Prop} {f : Nat → Nat} {l m : Nat} (h : gp_V B A f l) (h0 : 0 < m) (hm : m ≤ l) : gp_V B A f m :=
  ⟨h0, h.2.1, fun i hi => h.2.2.1 i (by omega), fun i j h1 h2 => h.2.2.2 i j h1 (by omega)⟩
theorem gp_app {B : Nat → Prop} {A : Nat → Nat → Prop} {f : Nat → Nat} {l t : Nat} (h : gp_V B A f l) (e : A (f (l - 1)) t) (hn : ∀ j, j < l → f j ≠ t) : gp_V B A (gp_u f l t) (l + 1) := by
  obtain ⟨h0, h1, h2, h3⟩ := h
  refine ⟨by omega, ?_, ?_, ?_⟩
  · rw [gp_un (by omega)]; exact h1
  · intro i hi
    rw [gp_un (by omega)]
    by_cases c : i + 1 = l
    · rw [c, gp_us]
      have : i = l - 1 := by omega
      rw [this]; exact e
    · rw [gp_un c]; exact h2 i (by omega)
  · intro i j hij hj
    rw [gp_un (by omega)]
    by_cases c : j = l
    · rw [c, gp_us]; exact hn i (by omega)
    · rw [gp_un c]; exact h3 i j hij (by omega)
theorem gp_ex {B : Nat → Prop} {A : Nat → Nat → Prop} {n : Nat} (h : gl_C B A n) : ∃ f l, gp_V B A f (l + 1) ∧ f l = n := by
  refine gl_i h (fun n => ∃ f l, gp_V B A f (l + 1) ∧ f l = n) ?_ ?_
  · intro n hb
    exact ⟨fun _ => n, 0, gp_one hb, rfl⟩
  · intro p q _ hp e
    obtain ⟨f, l, hv, hl⟩ := hp
    by_cases c : ∃ j, j < l + 1 ∧ f j = q
    · obtain ⟨j, hj, ej⟩ := c
      exact ⟨f, j, gp_pre hv (by omega) (by omega), ej⟩
    · refine ⟨gp_u f (l + 1) q, l + 1, gp_app hv ?_ ?_, gp_us⟩
      · show A (f l) q
        rw [hl]; exact e
      · intro j hj ej
        exact c ⟨j, hj, ej⟩
/-- no more than N different numbers lie below N -/
theorem gp_pig : ∀ (N : Nat) (f : Nat → Nat) (l : Nat), (∀ i, i < l → f i < N) → (∀ i j, i < j → j < l → f i ≠ f j) → l ≤ N := by
  intro N
  induction N with
  | zero =>
    intro f l h _
    rcases Nat.eq_zero_or_pos l with c | c
    · omega
    · exact absurd (h 0 c) (by omega)
  | succ N ih =>
    intro f l h hd
    by_cases c : ∃ k, k < l ∧ f k = N
    · obtain ⟨k, hk, ek⟩ := c
      have : l - 1 ≤ N := by
        refine ih (fun i => if i < k then f i else f (i + 1)) (l - 1) ?_ ?_
        · intro i hi
          by_cases c1 : i < k
          · rw [if_pos c1]
            have a := h i (by omega)
            have b := hd i k c1 hk
            omega
          · rw [if_neg c1]
            have a := h (i + 1) (by omega)
            have b := hd k (i + 1) (by omega) (by omega)
            omega
        · intro i j hij hj
          by_cases c1 : i < k
          · rw [if_pos c1]
            by_cases c2 : j < k
            · rw [if_pos c2]; exact hd i j hij (by omega)
            · rw [if_neg c2]; exact hd i (j + 1) (by omega) (by omega)
          · rw [if_neg c1, if_neg (by omega)]
            exact hd (i + 1) (j + 1) (by omega) (by omega)
      omega
    · have : l ≤ N := by
        refine ih f l ?_ hd
        intro i hi
        have a := h i hi
        have b : f i ≠ N := fun e => c ⟨i, hi, e⟩
        omega
      omega
theorem gp_below {B : Nat → Prop} {A : Nat → Nat → Prop} {N : Nat} (hB : ∀ n, B n → n < N) (hA : ∀ p q, A p q → q < N) {f : Nat → Nat} {l : Nat} (h : gp_V B A f l) : ∀ i, i < l → f i < N := by
  intro i hi
  cases i with
  | zero => exact hB _ h.2.1
  | succ i => exact hA _ _ (h.2.2.1 i hi)
theorem gp_len {B : Nat → Prop} {A : Nat → Nat → Prop} {N : Nat} (hB : ∀ n, B n → n < N) (hA : ∀ p q, A p q → q < N) {f : Nat → Nat} {l : Nat} (h : gp_V B A f l) : l ≤ N :=
  gp_pig N f l (gp_below hB hA h) h.2.2.2
theorem gp_lay {B : Nat → Prop} {A : Nat → Nat → Prop} {f : Nat → Nat} {l : Nat} (h : gp_V B A f l) : ∀ i, i < l → gl_L B A i (f i) := by
  intro i
  induction i with
  | zero => intro _; exact h.2.1
  | succ i ih => intro hi; exact Or.inr ⟨f i, ih (by omega), h.2.2.1 i hi⟩
theorem gl_fin {B : Nat → Prop} {A : Nat → Nat → Prop} (hB : ∀ n, B n → n < 11) (hA : ∀ p q, A p q → q < 11) {n : Nat} (h : gl_C B A n) : gl_L B A 11 n := by
  obtain ⟨f, l, hv, hl⟩ := gp_ex h
  have hn := gp_len hB hA hv
  have := gp_lay hv l (by omega)
  rw [hl] at this
  exact gl_L_mono l 11 (by omega) this
theorem gl_L_C {B : Nat → Prop} {A : Nat → Nat → Prop} : ∀ d n, gl_L B A d n → gl_C B A n := by
  intro d
  induction d with
  | zero => intro n h; exact gl_b h
  | succ d ih =>
    intro n h
    rcases h with h | ⟨p, hp, e⟩
    · exact ih n h
    · exact gl_s (ih p hp) e
/-- the set in hand while the j-th of the edges' bundles of a round is next -/
def gr_I (L C M : Nat → Prop) (A : Nat → Nat → Nat → Prop) (k : Nat) : Prop :=
  (∀ n, L n → C n) ∧ (∀ n, C n → M n) ∧ (∀ j, j < k → ∀ p q, L p → A j p q → C q)
theorem gr_0 {L C M : Nat → Prop} {A : Nat → Nat → Nat → Prop} (h1 : ∀ n, L n → C n) (h2 : ∀ n, C n → M n) : gr_I L C M A 0 :=
  ⟨h1, h2, fun j hj => by omega⟩
theorem gr_s {L C C' M : Nat → Prop} {A : Nat → Nat → Nat → Prop} {k : Nat} (h : gr_I L C M A k) (h1 : ∀ n, C n → C' n) (h2 : ∀ n, C' n → M n) (h3 : ∀ p q, C p → A k p q → C' q) : gr_I L C' M A (k + 1) := by
  refine ⟨fun n hn => h1 n (h.1 n hn), h2, ?_⟩
  intro j hj p q hp e
  by_cases c : j = k
  · subst c; exact h3 p q (h.1 p hp) e
  · exact h1 q (h.2.2 j (by omega) p q hp e)
theorem gr_e {B : Nat → Prop} {A : Nat → Nat → Prop} {A' : Nat → Nat → Nat → Prop} {N r : Nat} (hA : ∀ p q, A p q → ∃ j, j < N ∧ A' j p q) {C M : Nat → Prop} (h : gr_I (gl_L B A r) C M A' N) : ∀ n, gl_L B A (r + 1) n → C n := by
  intro n hn
  rcases hn with hn | ⟨p, hp, e⟩
  · exact h.1 n hn
  · obtain ⟨j, hj, e'⟩ := hA p n e
    exact h.2.2 j hj p n hp e'
end
section
/-! ===== the net: closed switches, ways, weights, roots ===== -/
abbrev ne_on (na nb : Nat → Nat) (k p q : Nat) : Prop := (na k = p ∧ nb k = q) ∨ (na k = q ∧ nb k = p)
theorem ne_on_s {na nb : Nat → Nat} {k p q : Nat} (h : ne_on na nb k p q) : ne_on na nb k q p := by
  rcases h with h | h
  · exact Or.inr h
  · exact Or.inl h
def ne_E (c : Nat → Bool) (na nb st : Nat → Nat) (x p q : Nat) : Prop := ∃ k, k < 12 ∧ c k = true ∧ x ≤ st k ∧ ne_on na nb k p q
def ne_b (c : Nat → Bool) (na nb st : Nat → Nat) (p q : Nat) : Nat → Nat
  | 0 => 0
  | k + 1 => if ne_on na nb k p q ∧ c k = true ∧ ne_b c na nb st p q k < st k then st k else ne_b c na nb st p q k
def ne_B (c : Nat → Bool) (na nb st : Nat → Nat) (p q : Nat) : Nat := ne_b c na nb st p q 12
theorem ne_b_iff (c : Nat → Bool) (na nb st : Nat → Nat) (p q : Nat) {x : Nat} (hx : 1 ≤ x) : ∀ n, x ≤ ne_b c na nb st p q n ↔ ∃ k, k < n ∧ c k = true ∧ x ≤ st k ∧ ne_on na nb k p q := by
  intro n
  induction n with
  | zero => simp only [ne_b]; exact ⟨fun h => by omega, fun ⟨k, h, _⟩ => by omega⟩
  | succ n ih =>
    rw [ne_b]
    by_cases h : ne_on na nb n p q ∧ c n = true ∧ ne_b c na nb st p q n < st n
    · rw [if_pos h]
      constructor
      · intro hs; exact ⟨n, by omega, h.2.1, hs, h.1⟩
      · rintro ⟨k, hk, hc, hs, ho⟩
        by_cases e : k = n
        · subst e; exact hs
        · have := ih.mpr ⟨k, by omega, hc, hs, ho⟩
          omega
    · rw [if_neg h, ih]
      constructor
      · rintro ⟨k, hk, r⟩; exact ⟨k, by omega, r⟩
      · rintro ⟨k, hk, hc, hs, ho⟩
        by_cases e : k = n
        · subst e
          refine ih.mp ?_
          by_cases c2 : ne_b c na nb st p q k < st k
          · exact absurd ⟨ho, hc, c2⟩ h
          · omega
        · exact ⟨k, by omega, hc, hs, ho⟩
theorem ne_B_iff {c : Nat → Bool} {na nb st : Nat → Nat} {p q x : Nat} (hx : 1 ≤ x) : x ≤ ne_B c na nb st p q ↔ ne_E c na nb st x p q :=
  ne_b_iff c na nb st p q hx 12
theorem ne_b_le (c : Nat → Bool) (na nb st : Nat → Nat) (p q : Nat) (hs : ∀ k, k < 12 → st k ≤ 6) : ∀ n, n ≤ 12 → ne_b c na nb st p q n ≤ 6 := by
  intro n
  induction n with
  | zero => intro _; simp only [ne_b]; omega
  | succ n ih =>
    intro hn
    have := ih (by omega)
    have := hs n (by omega)
    rw [ne_b]
    split <;> omega
def ne_T (c : Nat → Bool) (na nb st : Nat → Nat) (x p q : Nat) : Prop := 5 ≤ q ∧ q < 11 ∧ ne_E c na nb st x p q
def ne_A (c : Nat → Bool) (na nb st : Nat → Nat) (x k p q : Nat) : Prop := 5 ≤ q ∧ q < 11 ∧ c k = true ∧ x ≤ st k ∧ ne_on na nb k p q
theorem ne_TA {c : Nat → Bool} {na nb st : Nat → Nat} {x p q : Nat} (h : ne_T c na nb st x p q) : ∃ k, k < 12 ∧ ne_A c na nb st x k p q := by
  obtain ⟨h1, h2, k, hk, hc, hs, ho⟩ := h
  exact ⟨k, hk, h1, h2, hc, hs, ho⟩
def ne_R (c : Nat → Bool) (na nb st ow : Nat → Nat) (x n : Nat) : Prop := gl_C (fun n => n < 11 ∧ x ≤ ow n) (ne_T c na nb st x) n
theorem ne_R_down {c : Nat → Bool} {na nb st ow : Nat → Nat} {x y n : Nat} (hy : y ≤ x) (h : ne_R c na nb st ow x n) : ne_R c na nb st ow y n := by
  refine gl_mono ?_ ?_ h
  · intro n hn; exact ⟨hn.1, by omega⟩
  · rintro p q ⟨h1, h2, k, hk, hc, hs, ho⟩; exact ⟨h1, h2, k, hk, hc, by omega, ho⟩
theorem ne_R_le {c : Nat → Bool} {na nb st ow : Nat → Nat} {x n : Nat} (ho : ∀ n, n < 11 → ow n ≤ 7) (h : ne_R c na nb st ow x n) : x ≤ 7 := by
  refine gl_i h (fun _ => x ≤ 7) ?_ ?_
  · intro n hn; have := ho n hn.1; omega
  · intro p q _ hp _; exact hp
theorem ne_R_lt {c : Nat → Bool} {na nb st ow : Nat → Nat} {x n : Nat} (h : ne_R c na nb st ow x n) : n < 11 := by
  refine gl_i h (fun n => n < 11) ?_ ?_
  · intro n hn; exact hn.1
  · intro p q _ hp e; exact e.2.1
theorem ne_R_in {c : Nat → Bool} {na nb st ow : Nat → Nat} {x n : Nat} (hn : n < 5) : ne_R c na nb st ow x n ↔ x ≤ ow n := by
  constructor
  · intro h
    have : n < 5 → x ≤ ow n := by
      refine gl_i h (fun n => n < 5 → x ≤ ow n) ?_ ?_
      · intro n hn _; exact hn.2
      · intro p q _ _ e h5; have := e.1; omega
    exact this hn
  · intro h; exact gl_b ⟨by omega, h⟩
noncomputable def ne_m (P : Nat → Prop) : Nat → Nat
  | 0 => 0
  | x + 1 => if sx_d (P (x + 1)) = true then x + 1 else ne_m P x
theorem ne_m_le (P : Nat → Prop) : ∀ n, ne_m P n ≤ n := by
  intro n
  induction n with
  | zero => exact Nat.le_refl _
  | succ n ih =>
    rw [ne_m]
    split <;> omega
theorem ne_m_iff (P : Nat → Prop) (hP : ∀ x y, y ≤ x → P x → P y) : ∀ n x, 1 ≤ x → x ≤ n → (x ≤ ne_m P n ↔ P x) := by
  intro n
  induction n with
  | zero => intro x h1 h2; omega
  | succ n ih =>
    intro x h1 h2
    rw [ne_m]
    by_cases h : P (n + 1)
    · rw [if_pos (sx_dt.mpr h)]
      exact ⟨fun _ => hP _ _ h2 h, fun _ => h2⟩
    · rw [if_neg (by rw [sx_dt]; exact h)]
      by_cases e : x = n + 1
      · subst e
        have := ne_m_le P n
        exact ⟨fun hx => by omega, fun hx => absurd hx h⟩
      · exact ih x h1 (by omega)
noncomputable def ne_W (c : Nat → Bool) (na nb st ow : Nat → Nat) (n : Nat) : Nat := ne_m (fun x => ne_R c na nb st ow x n) 7
theorem ne_W_iff {c : Nat → Bool} {na nb st ow : Nat → Nat} {n x : Nat} (h1 : 1 ≤ x) (h7 : x ≤ 7) : x ≤ ne_W c na nb st ow n ↔ ne_R c na nb st ow x n :=
  ne_m_iff _ (fun _ _ hy h => ne_R_down hy h) 7 x h1 h7
theorem ne_W_le (c : Nat → Bool) (na nb st ow : Nat → Nat) (n : Nat) : ne_W c na nb st ow n ≤ 7 := ne_m_le _ 7
theorem ne_W_eq {c : Nat → Bool} {na nb st ow : Nat → Nat} {n w : Nat} (hw : w ≤ 7) (h : ∀ x, 1 ≤ x → x ≤ 7 → (x ≤ w ↔ ne_R c na nb st ow x n)) : w = ne_W c na nb st ow n := by
  have hW := ne_W_le c na nb st ow n
  apply Nat.le_antisymm
  · rcases Nat.eq_zero_or_pos w with z | z
    · omega
    · exact (ne_W_iff z hw).mpr ((h w z hw).mp (Nat.le_refl _))
  · rcases Nat.eq_zero_or_pos (ne_W c na nb st ow n) with z | z
    · omega
    · exact (h _ z hW).mpr ((ne_W_iff z hW).mp (Nat.le_refl _))
theorem ne_W_ow {c : Nat → Bool} {na nb st ow : Nat → Nat} {n : Nat} (hn : n < 11) (ho : ow n ≤ 7) : ow n ≤ ne_W c na nb st ow n := by
  rcases Nat.eq_zero_or_pos (ow n) with z | z
  · omega
  · exact (ne_W_iff z ho).mpr (gl_b ⟨hn, Nat.le_refl _⟩)
theorem ne_W_in {c : Nat → Bool} {na nb st ow : Nat → Nat} {n : Nat} (hn : n < 5) (ho : ow n ≤ 7) : ne_W c na nb st ow n = ow n := by
  refine (ne_W_eq ho ?_).symm
  intro x _ _
  exact (ne_R_in hn).symm
theorem ne_W_step {c : Nat → Bool} {na nb st ow : Nat → Nat} {p q x : Nat} (e : ne_T c na nb st x p q) (hp : x ≤ ne_W c na nb st ow p) : x ≤ ne_W c na nb st ow q := by
  rcases Nat.eq_zero_or_pos x with z | z
  · omega
  · have h7 : x ≤ 7 := Nat.le_trans hp (ne_W_le c na nb st ow p)
    exact (ne_W_iff z h7).mpr (gl_s ((ne_W_iff z h7).mp hp) e)
def ne_q (c : Nat → Bool) (na nb st W : Nat → Nat) (k p q : Nat) : Prop := 5 ≤ q ∧ q < 11 ∧ c k = true ∧ ne_on na nb k p q ∧ Nat.min (W p) (st k) = W q
def ne_Qe (c : Nat → Bool) (na nb st W : Nat → Nat) (p q : Nat) : Prop := ∃ k, k < 12 ∧ ne_q c na nb st W k p q
def ne_Q (c : Nat → Bool) (na nb st ow W : Nat → Nat) (m n : Nat) : Prop := gl_C (fun n => n = m ∧ n < 11 ∧ W n = ow n) (ne_Qe c na nb st W) n
theorem ne_Q_lt {c : Nat → Bool} {na nb st ow W : Nat → Nat} {m n : Nat} (h : ne_Q c na nb st ow W m n) : n < 11 ∧ m < 11 := by
  refine gl_i h (fun n => n < 11 ∧ m < 11) ?_ ?_
  · rintro n ⟨e, h, _⟩; exact ⟨h, by omega⟩
  · rintro p q _ hp ⟨k, _, e⟩; exact ⟨e.2.1, hp.2⟩
theorem ne_Q_in {c : Nat → Bool} {na nb st ow W : Nat → Nat} {m n : Nat} (hn : n < 5) (hW : W n = ow n) : ne_Q c na nb st ow W m n ↔ m = n := by
  constructor
  · intro h
    have : n < 5 → m = n := by
      refine gl_i h (fun n => n < 5 → m = n) ?_ ?_
      · rintro n ⟨e, _⟩ _; exact e.symm
      · rintro p q _ _ ⟨k, _, e⟩ h5; have := e.1; omega
    exact this hn
  · intro h; subst h; exact gl_b ⟨rfl, by omega, hW⟩
noncomputable def ne_rt (c : Nat → Bool) (na nb st ow W : Nat → Nat) (n : Nat) : Int32 := sx_set (fun m => sx_d (ne_Q c na nb st ow W m n)) 11
theorem ne_rt_eq {c : Nat → Bool} {na nb st ow W : Nat → Nat} {n : Nat} {x : Int32} (h : ∀ i, i < 32 → (bt x i = true ↔ ne_Q c na nb st ow W i n)) : x = ne_rt c na nb st ow W n := by
  apply b_ext
  intro i hi
  unfold ne_rt
  rw [sx_set_bt _ 11 (by omega) i hi, Bool.eq_iff_iff, h i hi, Bool.and_eq_true, sx_dt, decide_eq_true_eq]
  exact ⟨fun q => ⟨(ne_Q_lt q).2, q⟩, fun q => q.2⟩
theorem ne_rt_bt {c : Nat → Bool} {na nb st ow W : Nat → Nat} {n i : Nat} (hi : i < 32) : bt (ne_rt c na nb st ow W n) i = true ↔ ne_Q c na nb st ow W i n := by
  unfold ne_rt
  rw [sx_set_bt _ 11 (by omega) i hi, Bool.and_eq_true, sx_dt, decide_eq_true_eq]
  exact ⟨fun q => q.2, fun q => ⟨(ne_Q_lt q).2, q⟩⟩
def ne_H (c : Nat → Bool) (na nb st : Nat → Nat) (m n : Nat) : Prop := gl_C (fun n => n = m) (ne_T c na nb st 0) n
theorem ne_H_in {c : Nat → Bool} {na nb st : Nat → Nat} {m n : Nat} (h : ne_H c na nb st m n) : n = m ∨ (5 ≤ n ∧ n < 11) := by
  refine gl_i h (fun n => n = m ∨ (5 ≤ n ∧ n < 11)) ?_ ?_
  · intro n e; exact Or.inl e
  · intro p q _ _ e; exact Or.inr ⟨e.1, e.2.1⟩
noncomputable def ne_rs (c : Nat → Bool) (na nb st : Nat → Nat) (m : Nat) : Int32 := sx_set (fun n => sx_d (ne_H c na nb st m n)) 11
theorem ne_rs_eq {c : Nat → Bool} {na nb st : Nat → Nat} {m : Nat} (hm : m < 11) {x : Int32} (h : ∀ i, i < 32 → (bt x i = true ↔ ne_H c na nb st m i)) : x = ne_rs c na nb st m := by
  apply b_ext
  intro i hi
  unfold ne_rs
  rw [sx_set_bt _ 11 (by omega) i hi, Bool.eq_iff_iff, h i hi, Bool.and_eq_true, sx_dt, decide_eq_true_eq]
  refine ⟨fun q => ⟨?_, q⟩, fun q => q.2⟩
  have := ne_H_in q
  omega
theorem ne_rs_bt {c : Nat → Bool} {na nb st : Nat → Nat} {m : Nat} (hm : m < 11) {i : Nat} (hi : i < 32) : bt (ne_rs c na nb st m) i = true ↔ ne_H c na nb st m i := by
  unfold ne_rs
  rw [sx_set_bt _ 11 (by omega) i hi, Bool.and_eq_true, sx_dt, decide_eq_true_eq]
  refine ⟨fun q => q.2, fun q => ⟨?_, q⟩⟩
  have := ne_H_in q
  omega
/-! the ways that the reference walks -/
def ne_V (c : Nat → Bool) (na nb st : Nat → Nat) (f : Nat → Nat) (l : Nat) : Prop := gp_V (fun n => n < 11) (fun p q => 5 ≤ q ∧ q < 11 ∧ 0 < ne_B c na nb st p q) f l
def ne_u (c : Nat → Bool) (na nb st ow : Nat → Nat) (f : Nat → Nat) : Nat → Nat
  | 0 => ow (f 0)
  | i + 1 => Nat.min (ne_B c na nb st (f i) (f (i + 1))) (ne_u c na nb st ow f i)
def ne_F (c : Nat → Bool) (na nb st ow W : Nat → Nat) (f : Nat → Nat) (i : Nat) : Prop := ∀ j, j ≤ i → ne_u c na nb st ow f j = W (f j)
theorem ne_u_cg {c : Nat → Bool} {na nb st ow : Nat → Nat} {f g : Nat → Nat} : ∀ i, (∀ j, j ≤ i → f j = g j) → ne_u c na nb st ow f i = ne_u c na nb st ow g i := by
  intro i
  induction i with
  | zero => intro h; simp only [ne_u]; rw [h 0 (Nat.le_refl _)]
  | succ i ih =>
    intro h
    simp only [ne_u]
    rw [ih (fun j hj => h j (by omega)), h i (by omega), h (i + 1) (Nat.le_refl _)]
theorem ne_F_cg {c : Nat → Bool} {na nb st ow W : Nat → Nat} {f g : Nat → Nat} {i : Nat} (h : ∀ j, j ≤ i → f j = g j) (hf : ne_F c na nb st ow W f i) : ne_F c na nb st ow W g i := by
  intro j hj
  rw [← ne_u_cg j (fun j' h' => h j' (by omega)), hf j hj, h j hj]
theorem ne_V_lt {c : Nat → Bool} {na nb st : Nat → Nat} {f : Nat → Nat} {l : Nat} (h : ne_V c na nb st f l) {i : Nat} (hi : i < l) : f i < 11 :=
  gp_below (fun _ h => h) (fun _ _ e => e.2.1) h i hi
theorem ne_V_len {c : Nat → Bool} {na nb st : Nat → Nat} {f : Nat → Nat} {l : Nat} (h : ne_V c na nb st f l) : l ≤ 11 :=
  gp_len (fun _ h => h) (fun _ _ e => e.2.1) h
theorem ne_u_R {c : Nat → Bool} {na nb st ow : Nat → Nat} {f : Nat → Nat} {l : Nat} (h : ne_V c na nb st f l) {x : Nat} (hx : 1 ≤ x) : ∀ i, i < l → x ≤ ne_u c na nb st ow f i → ne_R c na nb st ow x (f i) := by
  intro i
  induction i with
  | zero => intro hi hu; exact gl_b ⟨h.2.1, hu⟩
  | succ i ih =>
    intro hi hu
    simp only [ne_u] at hu
    have h1 : x ≤ ne_B c na nb st (f i) (f (i + 1)) := Nat.le_trans hu (Nat.min_le_left _ _)
    have h2 : x ≤ ne_u c na nb st ow f i := Nat.le_trans hu (Nat.min_le_right _ _)
    have e := h.2.2.1 i hi
    exact gl_s (ih (by omega) h2) ⟨e.1, e.2.1, (ne_B_iff hx).mp h1⟩
theorem ne_R_u {c : Nat → Bool} {na nb st ow : Nat → Nat} (hs : ∀ k, k < 12 → 1 ≤ st k) {x n : Nat} (hx : 1 ≤ x) (h : ne_R c na nb st ow x n) : ∃ f l, ne_V c na nb st f (l + 1) ∧ f l = n ∧ x ≤ ne_u c na nb st ow f l := by
  obtain ⟨f, l, hv, hl⟩ := gp_ex h
  refine ⟨f, l, ⟨hv.1, hv.2.1.1, ?_, hv.2.2.2⟩, hl, ?_⟩
  · intro i hi
    obtain ⟨h1, h2, e⟩ := hv.2.2.1 i hi
    exact ⟨h1, h2, Nat.lt_of_lt_of_le hx ((ne_B_iff hx).mpr e)⟩
  · have : ∀ i, i < l + 1 → x ≤ ne_u c na nb st ow f i := by
      intro i
      induction i with
      | zero => intro _; exact hv.2.1.2
      | succ i ih =>
        intro hi
        simp only [ne_u]
        exact Nat.le_min.mpr ⟨(ne_B_iff hx).mpr (hv.2.2.1 i hi).2.2, ih (by omega)⟩
    exact this l (by omega)
theorem ne_F_Q {c : Nat → Bool} {na nb st ow : Nat → Nat} {W : Nat → Nat} {f : Nat → Nat} {l : Nat} (h : ne_V c na nb st f l) : ∀ i, i < l → ne_F c na nb st ow W f i → ne_Q c na nb st ow W (f 0) (f i) := by
  intro i
  induction i with
  | zero => intro hi hf; exact gl_b ⟨rfl, h.2.1, (hf 0 (Nat.le_refl _)).symm⟩
  | succ i ih =>
    intro hi hf
    have e := h.2.2.1 i hi
    refine gl_s (ih (by omega) (fun j hj => hf j (by omega))) ?_
    have a := hf (i + 1) (Nat.le_refl _)
    have b := hf i (by omega)
    simp only [ne_u] at a
    rw [b] at a
    obtain ⟨k, hk, hc, hs, ho⟩ := (ne_B_iff (c := c) (na := na) (nb := nb) (st := st) e.2.2).mp (Nat.le_refl _)
    have hs2 : st k ≤ ne_B c na nb st (f i) (f (i + 1)) := by
      have h1 : 1 ≤ st k := Nat.le_trans e.2.2 hs
      exact (ne_B_iff h1).mpr ⟨k, hk, hc, Nat.le_refl _, ho⟩
    refine ⟨k, hk, e.1, e.2.1, hc, ho, ?_⟩
    have : st k = ne_B c na nb st (f i) (f (i + 1)) := Nat.le_antisymm hs2 hs
    rw [this, ← a]
    exact Nat.min_comm _ _
theorem ne_Q_F {c : Nat → Bool} {na nb st ow : Nat → Nat} (hs : ∀ k, k < 12 → 1 ≤ st k) {m n : Nat} (h : ne_Q c na nb st ow (ne_W c na nb st ow) m n) : ∃ f l, ne_V c na nb st f (l + 1) ∧ f l = n ∧ f 0 = m ∧ ne_F c na nb st ow (ne_W c na nb st ow) f l := by
  obtain ⟨f, l, hv, hl⟩ := gp_ex h
  have hB : ∀ i, i + 1 < l + 1 → 0 < ne_B c na nb st (f i) (f (i + 1)) := by
    intro i hi
    obtain ⟨k, hk, h1, h2, hc, ho, _⟩ := hv.2.2.1 i hi
    exact (ne_B_iff (Nat.le_refl 1)).mpr ⟨k, hk, hc, hs k hk, ho⟩
  refine ⟨f, l, ⟨hv.1, hv.2.1.2.1, ?_, hv.2.2.2⟩, hl, hv.2.1.1, ?_⟩
  · intro i hi
    obtain ⟨k, hk, h1, h2, hc, ho, _⟩ := hv.2.2.1 i hi
    exact ⟨h1, h2, hB i hi⟩
  · intro i
    induction i with
    | zero => intro _; exact hv.2.1.2.2.symm
    | succ i ih =>
      intro hi
      have a := ih (by omega)
      obtain ⟨k, hk, h1, h2, hc, ho, em⟩ := hv.2.2.1 i (by omega)
      simp only [ne_u]
      rw [a]
      have hB1 := hB i (by omega)
      have hk2 : st k ≤ ne_B c na nb st (f i) (f (i + 1)) := (ne_B_iff (hs k hk)).mpr ⟨k, hk, hc, Nat.le_refl _, ho⟩
      apply Nat.le_antisymm
      · refine ne_W_step (p := f i) ⟨h1, h2, ?_⟩ (Nat.min_le_right _ _)
        obtain ⟨k', hk', hc', hs', ho'⟩ := (ne_B_iff (c := c) (na := na) (nb := nb) (st := st) hB1).mp (Nat.le_refl _)
        exact ⟨k', hk', hc', Nat.le_trans (Nat.min_le_left _ _) hs', ho'⟩
      · rw [← em]
        exact Nat.le_min.mpr ⟨Nat.le_trans (Nat.min_le_right _ _) hk2, Nat.min_le_left _ _⟩
end
section
/-! ===== the order in which the reference walks the ways ===== -/
/-- (q, m) is still to come when at depth L the digit t is next -/
def df_R (w : Nat → Nat) (L t : Nat) (q : Nat → Nat) (m : Nat) : Prop :=
  (∃ i, i < L ∧ i < m ∧ (∀ j, j < i → q j = w j) ∧ w i < q i) ∨ (L < m ∧ (∀ j, j < L → q j = w j) ∧ t ≤ q L)
def df_eq (w : Nat → Nat) (L : Nat) (q : Nat → Nat) (m : Nat) : Prop := m = L ∧ ∀ j, j < L → q j = w j
theorem df_next {w : Nat → Nat} {L t : Nat} {q : Nat → Nat} {m : Nat} (h : df_R w L t q m) (hn : L < m → (∀ j, j < L → q j = w j) → q L ≠ t) : df_R w L (t + 1) q m := by
  rcases h with h | ⟨h1, h2, h3⟩
  · exact Or.inl h
  · have := hn h1 h2
    exact Or.inr ⟨h1, h2, by omega⟩
theorem df_skip {w : Nat → Nat} {L t u : Nat} {q : Nat → Nat} {m : Nat} (h : df_R w L t q m) (hn : L < m → (∀ j, j < L → q j = w j) → t ≤ q L → u ≤ q L) : df_R w L u q m := by
  rcases h with h | ⟨h1, h2, h3⟩
  · exact Or.inl h
  · exact Or.inr ⟨h1, h2, hn h1 h2 h3⟩
theorem df_pop {w : Nat → Nat} {L t : Nat} {q : Nat → Nat} {m : Nat} (h : df_R w (L + 1) t q m) (hn : L + 1 < m → (∀ j, j < L + 1 → q j = w j) → t ≤ q (L + 1) → False) : df_R w L (w L + 1) q m := by
  rcases h with ⟨i, h1, h2, h3, h4⟩ | ⟨h1, h2, h3⟩
  · by_cases c : i = L
    · subst c; exact Or.inr ⟨h2, h3, h4⟩
    · exact Or.inl ⟨i, by omega, h2, h3, h4⟩
  · exact (hn h1 h2 h3).elim
theorem df_push {w : Nat → Nat} {L t : Nat} {q : Nat → Nat} {m : Nat} (h : df_R w L t q m) : df_R (gp_u w L t) (L + 1) 0 q m ∨ df_eq (gp_u w L t) (L + 1) q m := by
  rcases h with ⟨i, h1, h2, h3, h4⟩ | ⟨h1, h2, h3⟩
  · refine Or.inl (Or.inl ⟨i, by omega, h2, ?_, ?_⟩)
    · intro j hj; rw [gp_un (by omega)]; exact h3 j hj
    · rw [gp_un (by omega)]; exact h4
  · by_cases c : q L = t
    · have ag : ∀ j, j < L + 1 → q j = gp_u w L t j := by
        intro j hj
        by_cases e : j = L
        · subst e; rw [gp_us]; exact c
        · rw [gp_un e]; exact h2 j (by omega)
      by_cases e : m = L + 1
      · exact Or.inr ⟨e, ag⟩
      · exact Or.inl (Or.inr ⟨by omega, ag, Nat.zero_le _⟩)
    · refine Or.inl (Or.inl ⟨L, by omega, h1, ?_, ?_⟩)
      · intro j hj; rw [gp_un (by omega)]; exact h2 j hj
      · rw [gp_us]; omega
/-! a number that grows -/
def df_c (f : Nat → Nat) : Nat → Nat → Nat
  | 0, _ => 0
  | d + 1, i => f i * 12 ^ d + df_c f d (i + 1)
theorem df_c_lt (f : Nat → Nat) (h : ∀ i, f i ≤ 11) : ∀ d i, df_c f d i < 12 ^ d := by
  intro d
  induction d with
  | zero => intro i; simp [df_c]
  | succ d ih =>
    intro i
    rw [df_c, Nat.pow_succ]
    have a := ih (i + 1)
    have b := Nat.mul_le_mul_right (12 ^ d) (h i)
    generalize 12 ^ d = X at *
    omega
theorem df_c_grow (f g : Nat → Nat) (h : ∀ i, f i ≤ 11) : ∀ d i k, i ≤ k → k < i + d → (∀ j, i ≤ j → j < k → f j = g j) → f k < g k → df_c f d i < df_c g d i := by
  intro d
  induction d with
  | zero => intro i k h1 h2; omega
  | succ d ih =>
    intro i k h1 h2 h3 h4
    rw [df_c, df_c]
    by_cases e : i = k
    · subst e
      have a := df_c_lt f h d (i + 1)
      have b : (f i + 1) * 12 ^ d ≤ g i * 12 ^ d := Nat.mul_le_mul_right _ h4
      rw [Nat.add_mul, Nat.one_mul] at b
      omega
    · have a := ih (i + 1) k (by omega) (by omega) (fun j hj hk => h3 j (by omega) hk) h4
      rw [h3 i (Nat.le_refl _) (by omega)]
      omega
def df_g (w : Nat → Nat) (l : Nat) : Nat → Nat := fun i => if i < l ∧ w i < 11 then w i + 1 else 0
theorem df_g_le (w : Nat → Nat) (l i : Nat) : df_g w l i ≤ 11 := by
  unfold df_g
  split <;> omega
def df_n (w : Nat → Nat) (l : Nat) : Nat := 12 ^ 11 - df_c (df_g w l) 11 0
theorem df_n_fall {w : Nat → Nat} {l L t : Nat} (hw : ∀ i, i < l → w i < 11) (h1 : L ≤ l) (h2 : L < l → w L < t) (ht : t < 11) (hL : L < 11) : df_n (gp_u w L t) (L + 1) < df_n w l := by
  have a := df_c_grow (df_g w l) (df_g (gp_u w L t) (L + 1)) (df_g_le w l) 11 0 L (by omega) (by omega) ?_ ?_
  · have b := df_c_lt (df_g (gp_u w L t) (L + 1)) (df_g_le _ _) 11 0
    unfold df_n
    generalize 12 ^ 11 = X at *
    omega
  · intro j _ hj
    unfold df_g
    have e : gp_u w L t j = w j := gp_un (by omega)
    have := hw j (by omega)
    rw [e, if_pos ⟨by omega, this⟩, if_pos ⟨by omega, this⟩]
  · unfold df_g
    rw [gp_us, if_pos (show L < L + 1 ∧ t < 11 from ⟨by omega, ht⟩)]
    by_cases c : L < l
    · have := h2 c
      rw [if_pos ⟨c, by omega⟩]; omega
    · rw [if_neg (fun z => c z.1)]; omega
end
section
/-! ===== the two states against one pure picture ===== -/
def cf_k (vs wn : Nat → Nat) (tb : Nat → Bool) (k : Nat) : Bool := tb k && (decide (wn k % 3 = 2) || decide (vs (2 + wn k / 3 % 3) = 1 - wn k % 3))
def cf_s (wn : Nat → Nat) (k : Nat) : Nat := 4 + wn k / 9
def cf_W (vs zs na nb wn : Nat → Nat) : Prop :=
  vs 0 = 0 ∧ vs 1 = 1 ∧ (∀ n, n < 5 → vs n ≤ 1) ∧ (∀ n, n < 11 → vs n ≤ 2) ∧ (∀ n, n < 5 → zs n = 7) ∧ (∀ n, 5 ≤ n → n < 11 → 1 ≤ zs n ∧ zs n ≤ 3) ∧ (∀ k, k < 12 → na k < 11 ∧ nb k < 11 ∧ wn k < 27)
def cf_X (fs fp : Int32) (ch sz ea eb kd ga sr : Nat → Int32) (vs zs na nb wn : Nat → Nat) (tb : Nat → Bool) : Prop :=
  (∀ i, i < 3 → bt fs i = decide (vs (2 + i) = 1)) ∧ (∀ i, i < 32 → bt fp i = (decide (i < 12) && tb i)) ∧ (∀ n, 5 ≤ n → n < 11 → ch n = nI (vs n)) ∧ (∀ n, 5 ≤ n → n < 11 → sz n = nI (zs n)) ∧ (∀ k, k < 12 → ea k = nI (na k) ∧ eb k = nI (nb k)) ∧ (∀ k, k < 12 → tb k = true → kd k = nI (wn k % 3) ∧ ga k = nI (2 + wn k / 3 % 3) ∧ sr k = nI (cf_s wn k))
def cf_Y (vv zz tt aa bb ww : Nat → Int32) (vs zs na nb wn : Nat → Nat) (tb : Nat → Bool) : Prop :=
  (∀ n, n < 11 → vv n = nI (vs n)) ∧ (∀ n, n < 11 → zz n = nI (zs n)) ∧ (∀ k, k < 12 → tt k = if tb k = true then 1 else 0) ∧ (∀ k, k < 12 → aa k = nI (na k) ∧ bb k = nI (nb k) ∧ ww k = nI (wn k))
def i_Rel (k : Nat) (u : SX) (v : SY) : Prop :=
  ∃ (fs fp : Int32) (ch sz ea eb kd ga sr we ro se : Nat → Int32) (ln : Int32) (vv zz tt aa bb ww yw yu yf ye ys yn : Nat → Int32) (vs zs na nb wn : Nat → Nat) (tb : Nat → Bool),
    u = (fs, fp, ch, sz, ea, eb, kd, ga, sr, we, ro, se) ∧ v = (ln, vv, zz, tt, aa, bb, ww, yw, yu, yf, ye, ys, yn) ∧ cf_W vs zs na nb wn ∧ cf_X fs fp ch sz ea eb kd ga sr vs zs na nb wn tb ∧ cf_Y vv zz tt aa bb ww vs zs na nb wn tb
theorem i_up {k : Nat} {u : SX} {v : SY} (h : i_Rel k u v) : i_Rel (k + 4) u v := h
theorem cf_s_le {vs zs na nb wn : Nat → Nat} (h : cf_W vs zs na nb wn) : ∀ k, k < 12 → cf_s wn k ≤ 6 := by
  intro k hk
  have := (h.2.2.2.2.2.2 k hk).2.2
  unfold cf_s
  omega
theorem cf_s_1 (wn : Nat → Nat) : ∀ k, k < 12 → 1 ≤ cf_s wn k := by
  intro k _
  unfold cf_s
  omega
theorem cf_z7 {vs zs na nb wn : Nat → Nat} (h : cf_W vs zs na nb wn) : ∀ n, n < 11 → zs n ≤ 7 := by
  intro n hn
  by_cases c : n < 5
  · have := h.2.2.2.2.1 n c; omega
  · have := h.2.2.2.2.2.1 n (by omega) hn; omega
/-! own small rows on branches -/
theorem cf_if {P : Prop} {post : Int32 → Prop} {x : Int32} (a : P → post 1) (b : ¬ P → post 0) (h : (P → x = 1) ∧ (¬ P → x = 0)) : post x := by
  by_cases c : P
  · rw [h.1 c]; exact a c
  · rw [h.2 c]; exact b c
theorem cf_nar1 : vp_nar .boolean 1 = 1 := by rfl
theorem cf_nar0 : vp_nar .boolean 0 = 0 := by rfl
theorem cf_n1 : narrow .boolean (.int 1) = .int 1 := by rfl
theorem cf_n0 : narrow .boolean (.int 0) = .int 0 := by rfl
end
section
/-! ===== the reference's small methods ===== -/
section
variable {ln : Int32} {vv zz tt aa bb ww yw yu yf ye ys yn : Nat → Int32} {vs zs na nb wn : Nat → Nat} {tb : Nat → Bool}
theorem yc_node {n : Nat} (hn : n < 2 ^ 31) {post : Int32 → Prop} (h1 : n < 11 → post 1) (h0 : 11 ≤ n → post 0) : wpY_node post (ln, vv, zz, tt, aa, bb, ww, yw, yu, yf, ye, ys, yn) (nI n) := by
  unfold wpY_node
  dsimp only
  exact br_f (nI_pos hn) (pk_lt 10 n (fun h => h0 h) (fun h => h1 (by omega)))
theorem yc_nodeN {x : Int32} (hx : x < 0) {post : Int32 → Prop} (h0 : post 0) : wpY_node post (ln, vv, zz, tt, aa, bb, ww, yw, yu, yf, ye, ys, yn) x := by
  unfold wpY_node
  dsimp only
  exact br_t hx h0
theorem yc_store {n : Nat} (hn : n < 2 ^ 31) {post : Int32 → Prop} (h1 : 5 ≤ n → n < 11 → post 1) (h0 : ¬ (5 ≤ n ∧ n < 11) → post 0) : wpY_store post (ln, vv, zz, tt, aa, bb, ww, yw, yu, yf, ye, ys, yn) (nI n) := by
  unfold wpY_store
  dsimp only
  exact pk_lt n 5 (fun h => h0 (by omega)) (fun h5 => pk_lt 10 n (fun h => h0 (by omega)) (fun h => h1 h5 (by omega)))
theorem yc_storeN {x : Int32} (hx : x < 0) {post : Int32 → Prop} (h0 : post 0) : wpY_store post (ln, vv, zz, tt, aa, bb, ww, yw, yu, yf, ye, ys, yn) x := by
  unfold wpY_store
  dsimp only
  exact br_t (Int32.lt_trans hx (by decide)) h0
theorem yc_closed (W : cf_W vs zs na nb wn) (S : cf_Y vv zz tt aa bb ww vs zs na nb wn tb) {k : Nat} (hk : k < 12) {post : Int32 → Prop} (h1 : cf_k vs wn tb k = true → post 1) (h0 : cf_k vs wn tb k = false → post 0) : wpY_isClosed post (ln, vv, zz, tt, aa, bb, ww, yw, yu, yf, ye, ys, yn) (nI k) := by
  have ek : (nI k).toNatClampNeg = k := nI_clamp (by omega)
  have hi : vp_in (nI k) 12 := vp_in_nI hk (by omega)
  have ew := (S.2.2.2 k hk).2.2
  have et := S.2.2.1 k hk
  have hw := (W.2.2.2.2.2.2 k hk).2.2
  have e2 : ww k - ww k / 3 * 3 = nI (wn k % 3) := by
    rw [ew]; exact pk_rem (by omega) (by decide) (by decide)
  have e3 : 2 + ((ww k / 3) - (ww k / 3) / 3 * 3) = nI (2 + wn k / 3 % 3) := by
    have a : nI (wn k) / 3 = nI (wn k / 3) := pk_div (d := 3) (by omega) (by decide) (by decide)
    have b : nI (wn k / 3) - nI (wn k / 3) / 3 * 3 = nI (wn k / 3 % 3) := pk_rem (d := 3) (by omega) (by decide) (by decide)
    rw [ew, a, b]
    exact nI_add 2 _
  have hg : 2 + wn k / 3 % 3 < 11 := by omega
  unfold wpY_isClosed
  dsimp only
  rw [ek]
  refine ⟨hi, by decide, nm_r e2 ⟨hi, by decide, by decide, nm_r e3 ⟨hi, ?_⟩⟩⟩
  cases ht : tb k with
  | false =>
    rw [ht] at et
    exact br_t et (h0 (by unfold cf_k; rw [ht]; rfl))
  | true =>
    rw [ht] at et
    refine br_f (by rw [et]; decide) (pk_eq (wn k % 3) 2 (fun e => h1 ?_) (fun e => ⟨vp_in_nI hg (by omega), ?_⟩))
    · unfold cf_k; rw [ht, decide_eq_true e]; rfl
    · rw [nI_clamp (by omega), S.1 _ hg]
      have e1 : (1 : Int32) - nI (wn k % 3) = nI (1 - wn k % 3) := pk_sub (a := 1) (by omega)
      have hv := W.2.2.2.1 _ hg
      refine pk_eq (vs (2 + wn k / 3 % 3)) (1 - wn k % 3) (fun e' => h1 ?_) (fun e' => h0 ?_) rfl e1
      · unfold cf_k; rw [ht, decide_eq_true e', Bool.or_true]; rfl
      · unfold cf_k; rw [ht, decide_eq_false e', decide_eq_false e]; rfl
theorem yc_b61t (W : cf_W vs zs na nb wn) (S : cf_Y vv zz tt aa bb ww vs zs na nb wn tb) {k p q : Nat} (hk : k < 12) {post : Int32 → Prop} {J : Int32 → Int32 → Prop} {x1 x2 : Int32} (on : ne_on na nb k p q) (hJ : J (nI (ne_b (cf_k vs wn tb) na nb (cf_s wn) p q (k + 1))) (nI (k + 1))) : wY_between_61 post J x1 x2 (nI (ne_b (cf_k vs wn tb) na nb (cf_s wn) p q k)) (nI k) 1 ln vv zz tt aa bb ww yw yu yf ye ys yn := by
  have ek : (nI k).toNatClampNeg = k := nI_clamp (by omega)
  have hi : vp_in (nI k) 12 := vp_in_nI hk (by omega)
  have ew := (S.2.2.2 k hk).2.2
  have hw := (W.2.2.2.2.2.2 k hk).2.2
  have e6 : 4 + ww k / 9 = nI (cf_s wn k) := by
    have a : nI (wn k) / 9 = nI (wn k / 9) := pk_div (d := 9) (by omega) (by decide) (by decide)
    rw [ew, a]
    exact nI_add 4 _
  have h6 := cf_s_le W k hk
  have hb := ne_b_le (cf_k vs wn tb) na nb (cf_s wn) p q (cf_s_le W) k (by omega)
  unfold wY_between_61
  rw [ek]
  refine ⟨hi, by decide, nm_r e6 (br_f (by decide) (yc_closed W S hk (fun hc => br_f (by decide) ?_) (fun hc => br_t rfl (nm_r (nI_1 k) ?_))))⟩
  · refine pk_le (cf_s wn k) (ne_b (cf_k vs wn tb) na nb (cf_s wn) p q k) (fun h => nm_r (nI_1 k) ?_) (fun h => nm_r (nI_1 k) ?_)
    · rw [ne_b, if_neg (fun z => absurd z.2.2 (by omega))] at hJ; exact hJ
    · rw [ne_b, if_pos ⟨on, hc, h⟩] at hJ; exact hJ
  · rw [ne_b, if_neg (fun z => absurd z.2.1 (by rw [hc]; decide))] at hJ; exact hJ
theorem yc_b61f (W : cf_W vs zs na nb wn) (S : cf_Y vv zz tt aa bb ww vs zs na nb wn tb) {k p q : Nat} (hk : k < 12) {post : Int32 → Prop} {J : Int32 → Int32 → Prop} {x1 x2 : Int32} (on : ¬ ne_on na nb k p q) (hJ : J (nI (ne_b (cf_k vs wn tb) na nb (cf_s wn) p q (k + 1))) (nI (k + 1))) : wY_between_61 post J x1 x2 (nI (ne_b (cf_k vs wn tb) na nb (cf_s wn) p q k)) (nI k) 0 ln vv zz tt aa bb ww yw yu yf ye ys yn := by
  have hi : vp_in (nI k) 12 := vp_in_nI hk (by omega)
  unfold wY_between_61
  rw [ne_b, if_neg (fun z => on z.1)] at hJ
  exact ⟨hi, by decide, nm_e (br_t rfl (nm_r (nI_1 k) hJ))⟩
theorem yc_b34 (W : cf_W vs zs na nb wn) (S : cf_Y vv zz tt aa bb ww vs zs na nb wn tb) {k p q : Nat} (hk : k < 12) (hp : p < 11) (hq : q < 11) {post : Int32 → Prop} {J : Int32 → Int32 → Prop} (no : ¬ (na k = p ∧ nb k = q)) (hJ : J (nI (ne_b (cf_k vs wn tb) na nb (cf_s wn) p q (k + 1))) (nI (k + 1))) : wY_between_34 post J (nI p) (nI q) (nI (ne_b (cf_k vs wn tb) na nb (cf_s wn) p q k)) (nI k) ln vv zz tt aa bb ww yw yu yf ye ys yn := by
  have ek : (nI k).toNatClampNeg = k := nI_clamp (by omega)
  have hi : vp_in (nI k) 12 := vp_in_nI hk (by omega)
  have hw := W.2.2.2.2.2.2 k hk
  unfold wY_between_34
  rw [ek, (S.2.2.2 k hk).1, (S.2.2.2 k hk).2.1]
  refine ⟨hi, pk_eq (na k) q (fun e => ⟨hi, pk_eq (nb k) p (fun e' => ?_) (fun e' => ?_)⟩) (fun e => ?_)⟩
  · exact yc_b61t W S hk (Or.inr ⟨e, e'⟩) hJ
  · exact yc_b61f W S hk (fun z => z.elim no (fun z => e' z.2)) hJ
  · exact yc_b61f W S hk (fun z => z.elim no (fun z => e z.1)) hJ
theorem yc_b5 (W : cf_W vs zs na nb wn) (S : cf_Y vv zz tt aa bb ww vs zs na nb wn tb) {p q : Nat} (hp : p < 11) (hq : q < 11) {post : Int32 → Prop} (h : post (nI (ne_B (cf_k vs wn tb) na nb (cf_s wn) p q))) : ∀ d k, k + d = 12 → wY_between_5 post (nI p) (nI q) ln vv zz tt aa bb ww yw yu yf ye ys yn (d + 1) (nI (ne_b (cf_k vs wn tb) na nb (cf_s wn) p q k)) (nI k) := by
  intro d
  induction d with
  | zero =>
    intro k hk
    have e : k = 12 := by omega
    subst e
    exact br_t (by decide) h
  | succ d ih =>
    intro k hk
    have ek : (nI k).toNatClampNeg = k := nI_clamp (by omega)
    have hk' : k < 12 := by omega
    have hi : vp_in (nI k) 12 := vp_in_nI hk' (by omega)
    have hw := W.2.2.2.2.2.2 k hk'
    have J := ih (k + 1) (by omega)
    rw [wY_between_5]
    dsimp only
    rw [ek, (S.2.2.2 k hk').1, (S.2.2.2 k hk').2.1]
    refine br_f (nI_ge (b := 12) hk' (by decide)) ⟨hi, pk_eq (na k) p (fun e => ⟨hi, pk_eq (nb k) q (fun e' => ?_) (fun e' => ?_)⟩) (fun e => ?_)⟩
    · exact yc_b61t W S hk' (Or.inl ⟨e, e'⟩) J
    · exact yc_b34 W S hk' hp hq (fun z => e' z.2) J
    · exact yc_b34 W S hk' hp hq (fun z => e z.1) J
theorem yc_between (W : cf_W vs zs na nb wn) (S : cf_Y vv zz tt aa bb ww vs zs na nb wn tb) {p q : Nat} (hp : p < 11) (hq : q < 11) {post : Int32 → Prop} (h : post (nI (ne_B (cf_k vs wn tb) na nb (cf_s wn) p q))) : wpY_between post (ln, vv, zz, tt, aa, bb, ww, yw, yu, yf, ye, ys, yn) (nI p) (nI q) :=
  ⟨13, yc_b5 W S hp hq h 12 0 rfl⟩
theorem yc_on4 {w : Nat → Nat} {l t : Nat} (hl : l ≤ 11) (ht : t < 11) (hw : ∀ i, i < l → yw i = nI (w i) ∧ w i < 11) {post : Int32 → Prop} (h1 : (∃ j, j < l ∧ w j = t) → post 1) (h0 : (∀ j, j < l → w j ≠ t) → post 0) : ∀ d i, i + d = l → ((∃ j, j < i ∧ w j = t) → wY_onWay_4 post (nI t) (nI l) vv zz tt aa bb ww yw yu yf ye ys yn (d + 1) 1 (nI i)) ∧ ((∀ j, j < i → w j ≠ t) → wY_onWay_4 post (nI t) (nI l) vv zz tt aa bb ww yw yu yf ye ys yn (d + 1) 0 (nI i)) := by
  intro d
  induction d with
  | zero =>
    intro i hi
    have e : i = l := by omega
    subst e
    exact ⟨fun z => br_t (nI_le (Nat.le_refl _) (by omega)) ⟨cf_n1, h1 z⟩, fun z => br_t (nI_le (Nat.le_refl _) (by omega)) ⟨cf_n0, h0 z⟩⟩
  | succ d ih =>
    intro i hi
    have ek : (nI i).toNatClampNeg = i := nI_clamp (by omega)
    have hi' : vp_in (nI i) 11 := vp_in_nI (by omega) (by omega)
    have J := ih (i + 1) (by omega)
    constructor
    · rintro ⟨j, hj, ej⟩
      rw [wY_onWay_4]
      dsimp only
      exact br_f (nI_ge (by omega) (by omega)) (br_f (by decide) (nm_r (nI_1 i) (J.1 ⟨j, by omega, ej⟩)))
    · intro z
      rw [wY_onWay_4]
      dsimp only
      rw [ek, (hw i (by omega)).1]
      have := (hw i (by omega)).2
      refine br_f (nI_ge (by omega) (by omega)) (br_t rfl ⟨hi', pk_eq (w i) t (fun e => nm_r (nI_1 i) (J.1 ⟨i, by omega, e⟩)) (fun e => nm_r (nI_1 i) (J.2 ?_))⟩)
      intro j hj
      by_cases c : j = i
      · subst c; exact e
      · exact z j (by omega)
theorem yc_onWay {w : Nat → Nat} {l t : Nat} (hl : l ≤ 11) (ht : t < 11) (hw : ∀ i, i < l → yw i = nI (w i) ∧ w i < 11) {post : Int32 → Prop} (h1 : (∃ j, j < l ∧ w j = t) → post 1) (h0 : (∀ j, j < l → w j ≠ t) → post 0) : wpY_onWay post (nI l, vv, zz, tt, aa, bb, ww, yw, yu, yf, ye, ys, yn) (nI t) :=
  ⟨l + 1, (yc_on4 hl ht hw h1 h0 l 0 (by omega)).2 (fun j hj => by omega)⟩
end
end
section
/-! ===== the reference walks all ways ===== -/
theorem yk_ule {c : Nat → Bool} {na nb st ow : Nat → Nat} {f : Nat → Nat} : ∀ i, ne_u c na nb st ow f i ≤ ow (f 0) := by
  intro i
  induction i with
  | zero => exact Nat.le_refl _
  | succ i ih => simp only [ne_u]; exact Nat.le_trans (Nat.min_le_right _ _) ih
def yk_S (c : Nat → Bool) (na nb st ow : Nat → Nat) (F : Prop) (w : Nat → Nat) (l : Nat) (yw yu yf : Nat → Int32) : Prop :=
  (∀ i, i < l → yw i = nI (w i)) ∧ (∀ i, i < l → yu i = nI (ne_u c na nb st ow w i)) ∧ (F → ∀ i, i < l → (ne_F c na nb st ow (ne_W c na nb st ow) w i → yf i = 1) ∧ (¬ ne_F c na nb st ow (ne_W c na nb st ow) w i → yf i = 0))
theorem yk_S0 {c : Nat → Bool} {na nb st ow : Nat → Nat} {F : Prop} {w : Nat → Nat} {yw yu yf : Nat → Int32} : yk_S c na nb st ow F w 0 yw yu yf :=
  ⟨fun i hi => by omega, fun i hi => by omega, fun _ i hi => by omega⟩
theorem yk_Sp {c : Nat → Bool} {na nb st ow : Nat → Nat} {F : Prop} {w : Nat → Nat} {l m : Nat} {yw yu yf : Nat → Int32} (h : yk_S c na nb st ow F w l yw yu yf) (hm : m ≤ l) : yk_S c na nb st ow F w m yw yu yf :=
  ⟨fun i hi => h.1 i (by omega), fun i hi => h.2.1 i (by omega), fun f i hi => h.2.2 f i (by omega)⟩
theorem yk_Sn {c : Nat → Bool} {na nb st ow : Nat → Nat} {F : Prop} {w : Nat → Nat} {L t m : Nat} {yw yu yf : Nat → Int32} {z : Int32} (h : yk_S c na nb st ow F w L yw yu yf) (hm : ne_u c na nb st ow (gp_u w L t) L = m)
    (hz : F → (((L = 0 ∨ ne_F c na nb st ow (ne_W c na nb st ow) w (L - 1)) ∧ m = ne_W c na nb st ow t) → z = 1) ∧ (¬ ((L = 0 ∨ ne_F c na nb st ow (ne_W c na nb st ow) w (L - 1)) ∧ m = ne_W c na nb st ow t) → z = 0)) :
    yk_S c na nb st ow F (gp_u w L t) (L + 1) (upd yw L (nI t)) (upd yu L (nI m)) (upd yf L z) := by
  have ag : ∀ i, i < L → ∀ j, j ≤ i → w j = gp_u w L t j := fun i hi j hj => (gp_un (by omega)).symm
  refine ⟨?_, ?_, ?_⟩
  · intro i hi
    by_cases e : i = L
    · subst e; rw [pk_us, gp_us]
    · rw [pk_un e, gp_un e]; exact h.1 i (by omega)
  · intro i hi
    by_cases e : i = L
    · subst e; rw [pk_us, hm]
    · rw [pk_un e, ← ne_u_cg i (ag i (by omega))]; exact h.2.1 i (by omega)
  · intro f i hi
    by_cases e : i = L
    · subst e
      rw [pk_us]
      have key : ne_F c na nb st ow (ne_W c na nb st ow) (gp_u w i t) i ↔ ((i = 0 ∨ ne_F c na nb st ow (ne_W c na nb st ow) w (i - 1)) ∧ m = ne_W c na nb st ow t) := by
        constructor
        · intro hf
          have a := hf i (Nat.le_refl _)
          rw [gp_us, hm] at a
          refine ⟨?_, a⟩
          rcases Nat.eq_zero_or_pos i with z0 | z0
          · exact Or.inl z0
          · refine Or.inr (ne_F_cg (f := gp_u w i t) ?_ (fun j hj => hf j (by omega)))
            intro j hj
            exact gp_un (by omega)
        · rintro ⟨h1, h2⟩ j hj
          by_cases e : j = i
          · subst e; rw [gp_us, hm]; exact h2
          · rcases h1 with h1 | h1
            · omega
            · have a := ne_F_cg (g := gp_u w i t) (fun j hj => (gp_un (by omega)).symm) h1
              exact a j (by omega)
      rw [key]
      exact hz f
    · rw [pk_un e]
      have key : ne_F c na nb st ow (ne_W c na nb st ow) (gp_u w L t) i ↔ ne_F c na nb st ow (ne_W c na nb st ow) w i :=
        ⟨ne_F_cg (fun j hj => (ag i (by omega) j hj).symm), ne_F_cg (ag i (by omega))⟩
      rw [key]
      exact h.2.2 f i (by omega)
section
variable {ln : Int32} {vv zz tt aa bb ww yw yu yf ye ys yn : Nat → Int32} {vs zs na nb wn : Nat → Nat} {tb : Nat → Bool}
theorem yk_137 {L : Nat} (hL : L < 11) {z : Int32} (hz : z = 0 ∨ z = 1) {post : SY → Prop} (h : post (nI (L + 1), vv, zz, tt, aa, bb, ww, yw, yu, upd yf L z, ye, ys, yn)) : wY_append_137 post z (nI L) (nI L) vv zz tt aa bb ww yw yu yf ye ys yn := by
  have ek : (nI L).toNatClampNeg = L := nI_clamp (by omega)
  have hi : vp_in (nI L) 11 := vp_in_nI hL (by omega)
  have en : vp_nar .boolean z = z := by rcases hz with e | e <;> subst e <;> rfl
  unfold wY_append_137
  rw [ek, en]
  exact ⟨hi, nm_e (nm_r (nI_1 L) h)⟩
theorem yk_114 {L t : Nat} (hL : L < 11) (ht : t < 11) {post : SY → Prop} (h1 : yu L = ye t → post (nI (L + 1), vv, zz, tt, aa, bb, ww, yw, yu, upd yf L 1, ye, ys, yn)) (h0 : yu L ≠ ye t → post (nI (L + 1), vv, zz, tt, aa, bb, ww, yw, yu, upd yf L 0, ye, ys, yn)) : wY_append_114 post (nI t) (nI L) (nI L) vv zz tt aa bb ww yw yu yf ye ys yn := by
  unfold wY_append_114 wY_append_136
  rw [nI_clamp (n := L) (by omega), nI_clamp (n := t) (by omega)]
  exact ⟨vp_in_nI hL (by omega), vp_in_nI ht (by omega), br_c (fun e => yk_137 hL (Or.inr rfl) (h1 e)) (fun e => yk_137 hL (Or.inl rfl) (h0 e))⟩
theorem yk_84 {L t m : Nat} (hL : L < 11) (ht : t < 11) {post : SY → Prop} (h : ∀ z : Int32, (z = 1 ∧ (L = 0 ∨ yf (L - 1) ≠ 0) ∧ nI m = ye t) ∨ (z = 0 ∧ ¬ ((L = 0 ∨ yf (L - 1) ≠ 0) ∧ nI m = ye t)) → post (nI (L + 1), vv, zz, tt, aa, bb, ww, yw, upd yu L (nI m), upd yf L z, ye, ys, yn)) : wY_append_84 post (nI t) (nI m) (nI L) (nI L) vv zz tt aa bb ww yw yu yf ye ys yn := by
  have ek : (nI L).toNatClampNeg = L := nI_clamp (by omega)
  have hi : vp_in (nI L) 11 := vp_in_nI hL (by omega)
  unfold wY_append_84 wY_append_136
  rw [ek]
  refine ⟨hi, nm_e ?_⟩
  refine pk_eq L 0 (fun e => ?_) (fun e => ?_)
  · refine yk_114 hL ht (fun z => h 1 (Or.inl ⟨rfl, Or.inl e, ?_⟩)) (fun z => h 0 (Or.inr ⟨rfl, fun z' => z ?_⟩))
    · rw [pk_us] at z; exact z
    · rw [pk_us]; exact z'.2
  · obtain ⟨K, rfl⟩ : ∃ K, L = K + 1 := ⟨L - 1, by omega⟩
    have e1 : nI (K + 1) - 1 = nI K := nI_pred K
    rw [e1, nI_clamp (n := K) (by omega)]
    refine ⟨vp_in_nI (by omega) (by omega), br_c (fun z => ?_) (fun z => ?_)⟩
    · refine yk_137 hL (Or.inl rfl) (h 0 (Or.inr ⟨rfl, fun z' => ?_⟩))
      rcases z'.1 with a | a
      · omega
      · exact a z
    · refine yk_114 hL ht (fun q => h 1 (Or.inl ⟨rfl, Or.inr z, ?_⟩)) (fun q => h 0 (Or.inr ⟨rfl, fun z' => q ?_⟩))
      · rw [pk_us] at q; exact q
      · rw [pk_us]; exact z'.2
theorem yk_55 {L t o b m : Nat} (hL : L < 11) (ht : t < 11) (ho : o ≤ 7) (hb : b ≤ 7) (hm : Nat.min o b = m) {post : SY → Prop} (h : ∀ z : Int32, (z = 1 ∧ (L = 0 ∨ yf (L - 1) ≠ 0) ∧ nI m = ye t) ∨ (z = 0 ∧ ¬ ((L = 0 ∨ yf (L - 1) ≠ 0) ∧ nI m = ye t)) → post (nI (L + 1), vv, zz, tt, aa, bb, ww, upd yw L (nI t), upd yu L (nI m), upd yf L z, ye, ys, yn)) : wY_append_55 post (nI t) (nI o) (nI b) (nI L) vv zz tt aa bb ww yw yu yf ye ys yn := by
  have ek : (nI L).toNatClampNeg = L := nI_clamp (by omega)
  have hi : vp_in (nI L) 11 := vp_in_nI hL (by omega)
  unfold wY_append_55
  rw [ek]
  refine ⟨hi, nm_e (pk_le b o (fun hle => ?_) (fun hlt => ?_))⟩
  · have : b = m := by rw [← hm]; exact (Nat.min_eq_right hle).symm
    subst this
    exact yk_84 hL ht h
  · have : o = m := by rw [← hm]; exact (Nat.min_eq_left (by omega)).symm
    subst this
    exact yk_84 hL ht h
theorem yk_append (W : cf_W vs zs na nb wn) (S : cf_Y vv zz tt aa bb ww vs zs na nb wn tb) {F : Prop} {w : Nat → Nat} {L t : Nat} (hL : L < 11) (ht : t < 11) (hw : ∀ i, i < L → w i < 11) (hk : yk_S (cf_k vs wn tb) na nb (cf_s wn) zs F w L yw yu yf) (hF : F → ∀ n, n < 11 → ye n = nI ((ne_W (cf_k vs wn tb) na nb (cf_s wn) zs) n)) {post : SY → Prop} (h : ∀ yw' yu' yf' : Nat → Int32, yk_S (cf_k vs wn tb) na nb (cf_s wn) zs F (gp_u w L t) (L + 1) yw' yu' yf' → post (nI (L + 1), vv, zz, tt, aa, bb, ww, yw', yu', yf', ye, ys, yn)) : wpY_append post (nI L, vv, zz, tt, aa, bb, ww, yw, yu, yf, ye, ys, yn) (nI t) := by
  have hz7 := cf_z7 W
  unfold wpY_append
  dsimp only
  have hz : ∀ (m : Nat) (z : Int32), m ≤ 7 → (z = 1 ∧ (L = 0 ∨ yf (L - 1) ≠ 0) ∧ nI m = ye t) ∨ (z = 0 ∧ ¬ ((L = 0 ∨ yf (L - 1) ≠ 0) ∧ nI m = ye t)) → (F → (((L = 0 ∨ ne_F (cf_k vs wn tb) na nb (cf_s wn) zs (ne_W (cf_k vs wn tb) na nb (cf_s wn) zs) w (L - 1)) ∧ m = (ne_W (cf_k vs wn tb) na nb (cf_s wn) zs) t) → z = 1) ∧ (¬ ((L = 0 ∨ ne_F (cf_k vs wn tb) na nb (cf_s wn) zs (ne_W (cf_k vs wn tb) na nb (cf_s wn) zs) w (L - 1)) ∧ m = (ne_W (cf_k vs wn tb) na nb (cf_s wn) zs) t) → z = 0)) := by
    intro m z hm hz f
    have e1 : nI m = ye t ↔ m = (ne_W (cf_k vs wn tb) na nb (cf_s wn) zs) t := by
      rw [hF f t ht]
      exact nI_eq (by omega) (by have := ne_W_le (cf_k vs wn tb) na nb (cf_s wn) zs t; omega)
    have e2 : (L = 0 ∨ yf (L - 1) ≠ 0) ↔ (L = 0 ∨ ne_F (cf_k vs wn tb) na nb (cf_s wn) zs (ne_W (cf_k vs wn tb) na nb (cf_s wn) zs) w (L - 1)) := by
      rcases Nat.eq_zero_or_pos L with z0 | z0
      · exact ⟨fun _ => Or.inl z0, fun _ => Or.inl z0⟩
      · have a := hk.2.2 f (L - 1) (by omega)
        by_cases c : ne_F (cf_k vs wn tb) na nb (cf_s wn) zs (ne_W (cf_k vs wn tb) na nb (cf_s wn) zs) w (L - 1)
        · rw [a.1 c]; exact ⟨fun _ => Or.inr c, fun _ => Or.inr (by decide)⟩
        · rw [a.2 c]
          exact ⟨fun z => z.elim (fun z => Or.inl z) (fun z => absurd rfl z), fun z => z.elim (fun z => Or.inl z) (fun z => absurd z c)⟩
    rw [← e1, ← e2]
    rcases hz with ⟨a, b⟩ | ⟨a, b⟩
    · exact ⟨fun _ => a, fun q => absurd b q⟩
    · exact ⟨fun q => absurd q b, fun _ => a⟩
  refine pk_eq L 0 (fun e => ⟨vp_in_nI ht (by omega), ?_⟩) (fun e => ?_)
  · subst e
    rw [nI_clamp (by omega), S.2.1 t ht]
    have h7 := hz7 t ht
    have hm : ne_u (cf_k vs wn tb) na nb (cf_s wn) zs (gp_u w 0 t) 0 = zs t := by simp only [ne_u]; rw [gp_us]
    unfold wY_append_32
    exact br_t rfl (yk_55 hL ht h7 h7 (Nat.min_self _) (fun z hh => h _ _ _ (yk_Sn hk hm (hz _ _ h7 hh))))
  · obtain ⟨K, rfl⟩ : ∃ K, L = K + 1 := ⟨L - 1, by omega⟩
    have e1 : nI (K + 1) - 1 = nI K := nI_pred K
    have hi : vp_in (nI K) 11 := vp_in_nI (by omega) (by omega)
    rw [e1, nI_clamp (n := K) (by omega), hk.1 K (by omega)]
    refine ⟨hi, yc_between W S (hw K (by omega)) ht ?_⟩
    unfold wY_append_32
    rw [e1, nI_clamp (n := K) (by omega), hk.2.1 K (by omega)]
    have h0 : w 0 < 11 := hw 0 (by omega)
    have hu : ne_u (cf_k vs wn tb) na nb (cf_s wn) zs w K ≤ 7 := Nat.le_trans (yk_ule K) (hz7 _ h0)
    have hb : ne_B (cf_k vs wn tb) na nb (cf_s wn) (w K) t ≤ 7 := Nat.le_trans (ne_b_le (cf_k vs wn tb) na nb (cf_s wn) (w K) t (cf_s_le W) 12 (Nat.le_refl _)) (by omega)
    have hm : ne_u (cf_k vs wn tb) na nb (cf_s wn) zs (gp_u w (K + 1) t) (K + 1) = Nat.min (ne_B (cf_k vs wn tb) na nb (cf_s wn) (w K) t) (ne_u (cf_k vs wn tb) na nb (cf_s wn) zs w K) := by
      simp only [ne_u]
      rw [gp_us, gp_un (by omega), ne_u_cg (f := gp_u w (K + 1) t) (g := w) K (fun j hj => gp_un (by omega))]
    have h7 : Nat.min (ne_B (cf_k vs wn tb) na nb (cf_s wn) (w K) t) (ne_u (cf_k vs wn tb) na nb (cf_s wn) zs w K) ≤ 7 := Nat.le_trans (Nat.min_le_left _ _) hb
    exact br_f (nI_ne0 (by omega) (by omega)) ⟨hi, yk_55 hL ht hb hu rfl (fun z hh => h _ _ _ (yk_Sn hk hm (hz _ _ h7 hh)))⟩
end
end
section
/-! ===== extend, advance ===== -/
section
variable {ln : Int32} {vv zz tt aa bb ww yw yu yf ye ys yn : Nat → Int32} {vs zs na nb wn : Nat → Nat} {tb : Nat → Bool}
theorem ya_ext (W : cf_W vs zs na nb wn) (S : cf_Y vv zz tt aa bb ww vs zs na nb wn tb) {F : Prop} {w : Nat → Nat} {L : Nat} (hL0 : 0 < L) (hV : ne_V (cf_k vs wn tb) na nb (cf_s wn) w L) (hk : yk_S (cf_k vs wn tb) na nb (cf_s wn) zs F w L yw yu yf) (hF : F → ∀ n, n < 11 → ye n = nI ((ne_W (cf_k vs wn tb) na nb (cf_s wn) zs) n)) {post : Int32 → SY → Prop} :
    ∀ d t, t + d = 11 → 5 ≤ t →
      (∀ t', t ≤ t' → t' < 11 → (∀ q m, ne_V (cf_k vs wn tb) na nb (cf_s wn) q m → df_R w L t q m → df_R w L t' q m) → ne_V (cf_k vs wn tb) na nb (cf_s wn) (gp_u w L t') (L + 1) → ∀ yw' yu' yf' : Nat → Int32, yk_S (cf_k vs wn tb) na nb (cf_s wn) zs F (gp_u w L t') (L + 1) yw' yu' yf' → post 1 (nI (L + 1), vv, zz, tt, aa, bb, ww, yw', yu', yf', ye, ys, yn)) →
      ((∀ q m, ne_V (cf_k vs wn tb) na nb (cf_s wn) q m → df_R w L t q m → df_R w L 11 q m) → post 0 (nI L, vv, zz, tt, aa, bb, ww, yw, yu, yf, ye, ys, yn)) →
      wY_extend_11 post (nI L) vv zz tt aa bb ww yw yu yf ye ys yn (d + 1) (nI t) := by
  intro d
  have hL := ne_V_len hV
  have hwl : ∀ i, i < L → w i < 11 := fun i hi => ne_V_lt hV hi
  induction d with
  | zero =>
    intro t ht _ hT hN
    have e : t = 11 := by omega
    subst e
    exact br_t (by decide) (hN (fun q m _ h => h))
  | succ d ih =>
    intro t ht h5 hT hN
    have ht' : t < 11 := by omega
    have step : (∀ q m, ne_V (cf_k vs wn tb) na nb (cf_s wn) q m → L < m → (∀ j, j < L → q j = w j) → q L ≠ t) → wY_extend_11 post (nI L) vv zz tt aa bb ww yw yu yf ye ys yn (d + 1) (nI (t + 1)) := by
      intro hq
      refine ih (t + 1) (by omega) (by omega) ?_ ?_
      · intro t' h1 h2 h3 h4
        exact hT t' (by omega) h2 (fun q m hv hr => h3 q m hv (df_next hr (hq q m hv))) h4
      · intro h3
        exact hN (fun q m hv hr => h3 q m hv (df_next hr (hq q m hv)))
    rw [wY_extend_11]
    dsimp only
    obtain ⟨K, rfl⟩ : ∃ K, L = K + 1 := ⟨L - 1, by omega⟩
    have e1 : nI (K + 1) - 1 = nI K := nI_pred K
    refine br_f (nI_ge (b := 11) ht' (by decide)) (yc_onWay hL ht' (fun i hi => ⟨hk.1 i hi, hwl i hi⟩) ?_ ?_)
    · rintro ⟨j, hj, ej⟩
      refine br_f (by decide) (nm_r (nI_1 t) (step ?_))
      intro q m hv hm ag e
      have := hv.2.2.2 j (K + 1) hj hm
      rw [ag j hj, e] at this
      exact this ej
    · intro hno
      refine br_t rfl ?_
      rw [e1, nI_clamp (n := K) (by omega), hk.1 K (by omega)]
      refine ⟨vp_in_nI (by omega) (by omega), yc_between W S (hwl K (by omega)) ht' ?_⟩
      have hb := ne_b_le (cf_k vs wn tb) na nb (cf_s wn) (w K) t (cf_s_le W) 12 (Nat.le_refl _)
      have hb' : ne_B (cf_k vs wn tb) na nb (cf_s wn) (w K) t ≤ 6 := hb
      refine pk_le (ne_B (cf_k vs wn tb) na nb (cf_s wn) (w K) t) 0 (fun h => nm_r (nI_1 t) (step ?_)) (fun h => ?_)
      · intro q m hv hm ag e
        have a := hv.2.2.1 K hm
        rw [ag K (by omega), e] at a
        have := a.2.2
        omega
      · have hV' : ne_V (cf_k vs wn tb) na nb (cf_s wn) (gp_u w (K + 1) t) (K + 1 + 1) := gp_app hV ⟨h5, ht', h⟩ hno
        have hl' := ne_V_len hV'
        exact yk_append W S (by omega) ht' hwl hk hF (fun yw' yu' yf' hs => hT t (Nat.le_refl _) ht' (fun q m _ h => h) hV' yw' yu' yf' hs)
theorem ya_91 {z : Nat} (hz : z < 11) {post : Int32 → SY → Prop} (h : post 1 (ln, vv, zz, tt, aa, bb, ww, yw, yu, yf, ye, ys, yn)) : wY_advance_91 post (nI z) ln vv zz tt aa bb ww yw yu yf ye ys yn := by
  unfold wY_advance_91
  exact br_f (nI_ge (b := 11) hz (by decide)) h
theorem ya_74 (W : cf_W vs zs na nb wn) (S : cf_Y vv zz tt aa bb ww vs zs na nb wn tb) {F : Prop} {w : Nat → Nat} {l L z : Nat} (hw : ∀ i, i < l → w i < 11) (hz : (l = 0 ∧ z = 0) ∨ (0 < l ∧ z = w 0 + 1)) {R0 : (Nat → Nat) → Nat → Prop} (hR : ∀ q m, ne_V (cf_k vs wn tb) na nb (cf_s wn) q m → R0 q m → df_R w 0 z q m) (hF : F → ∀ n, n < 11 → ye n = nI ((ne_W (cf_k vs wn tb) na nb (cf_s wn) zs) n)) {post : Int32 → SY → Prop}
    (hT : ∀ (w' : Nat → Nat) (l' : Nat) (yw' yu' yf' : Nat → Int32), ne_V (cf_k vs wn tb) na nb (cf_s wn) w' l' → yk_S (cf_k vs wn tb) na nb (cf_s wn) zs F w' l' yw' yu' yf' → (∀ q m, ne_V (cf_k vs wn tb) na nb (cf_s wn) q m → R0 q m → df_R w' l' 0 q m ∨ df_eq w' l' q m) → df_n w' l' < df_n w l → post 1 (nI l', vv, zz, tt, aa, bb, ww, yw', yu', yf', ye, ys, yn))
    (hN : (∀ q m, ne_V (cf_k vs wn tb) na nb (cf_s wn) q m → ¬ R0 q m) → post 0 (0, vv, zz, tt, aa, bb, ww, yw, yu, yf, ye, ys, yn)) : wY_advance_74 post (nI z) (nI L) vv zz tt aa bb ww yw yu yf ye ys yn := by
  have hz11 : z ≤ 11 := by
    rcases hz with h | h
    · omega
    · have := hw 0 h.1; omega
  unfold wY_advance_74
  refine pk_le 11 z (fun h => ?_) (fun h => ?_)
  · have e : z = 11 := by omega
    subst e
    unfold wY_advance_91
    refine br_t (by decide) (hN ?_)
    intro q m hv hr
    rcases hR q m hv hr with ⟨i, hi, _⟩ | ⟨h1, h2, h3⟩
    · omega
    · have := ne_V_lt hv h1; omega
  · refine yk_append W S (L := 0) (by omega) h (fun i hi => by omega) (yk_S0 (F := F) (w := w)) hF ?_
    intro yw' yu' yf' hs
    refine ya_91 h (hT _ 1 _ _ _ ?_ hs ?_ ?_)
    · exact gp_one (by rw [gp_us]; exact h)
    · intro q m hv hr
      exact df_push (hR q m hv hr)
    · refine df_n_fall hw (by omega) ?_ h (by omega)
      intro hl
      rcases hz with h | h <;> omega
theorem ya_17 (W : cf_W vs zs na nb wn) (S : cf_Y vv zz tt aa bb ww vs zs na nb wn tb) {F : Prop} {w : Nat → Nat} {l : Nat} (hV : 0 < l → ne_V (cf_k vs wn tb) na nb (cf_s wn) w l) (hF : F → ∀ n, n < 11 → ye n = nI ((ne_W (cf_k vs wn tb) na nb (cf_s wn) zs) n)) {R0 : (Nat → Nat) → Nat → Prop} {post : Int32 → SY → Prop}
    (hT : ∀ (w' : Nat → Nat) (l' : Nat) (yw' yu' yf' : Nat → Int32), ne_V (cf_k vs wn tb) na nb (cf_s wn) w' l' → yk_S (cf_k vs wn tb) na nb (cf_s wn) zs F w' l' yw' yu' yf' → (∀ q m, ne_V (cf_k vs wn tb) na nb (cf_s wn) q m → R0 q m → df_R w' l' 0 q m ∨ df_eq w' l' q m) → df_n w' l' < df_n w l → post 1 (nI l', vv, zz, tt, aa, bb, ww, yw', yu', yf', ye, ys, yn))
    (hN : (∀ q m, ne_V (cf_k vs wn tb) na nb (cf_s wn) q m → ¬ R0 q m) → post 0 (0, vv, zz, tt, aa, bb, ww, yw, yu, yf, ye, ys, yn)) :
    ∀ L, L ≤ l → yk_S (cf_k vs wn tb) na nb (cf_s wn) zs F w L yw yu yf → (0 < l → 0 < L) → (0 < L → ∀ q m, ne_V (cf_k vs wn tb) na nb (cf_s wn) q m → R0 q m → df_R w L 11 q m) → (L = 0 → ∀ q m, ne_V (cf_k vs wn tb) na nb (cf_s wn) q m → R0 q m → df_R w 0 0 q m) → wY_advance_17 post (L + 1) (nI L) vv zz tt aa bb ww yw yu yf ye ys yn := by
  intro L
  have hwl : ∀ i, i < l → w i < 11 := fun i hi => ne_V_lt (hV (by omega)) hi
  have hl11 : l ≤ 11 := by
    rcases Nat.eq_zero_or_pos l with z | z
    · omega
    · exact ne_V_len (hV z)
  have hno : ∀ K q m, ne_V (cf_k vs wn tb) na nb (cf_s wn) q m → K < m → 11 ≤ q K → False := by
    intro K q m hv h1 h2
    have := ne_V_lt hv h1
    omega
  induction L with
  | zero =>
    intro _ hk hp h1 h0
    rw [wY_advance_17]
    dsimp only
    refine br_t (by decide) (br_t (by decide) ?_)
    have hl0 : l = 0 := by
      rcases Nat.eq_zero_or_pos l with z | z
      · exact z
      · have := hp z; omega
    exact ya_74 W S (L := 0) (z := 0) hwl (Or.inl ⟨hl0, rfl⟩) (h0 rfl) hF hT hN
  | succ L ih =>
    intro hL hk hp h1 h0
    have hk' := yk_Sp hk (m := L) (by omega)
    have hr : ∀ q m, ne_V (cf_k vs wn tb) na nb (cf_s wn) q m → R0 q m → df_R w L (w L + 1) q m := fun q m hv hr => df_pop (h1 (by omega) q m hv hr) (fun a _ b => hno _ q m hv a b)
    rw [wY_advance_17]
    dsimp only
    refine pk_le (L + 1) 1 (fun h => ?_) (fun h => ?_)
    · have e : L = 0 := by omega
      subst e
      refine br_f (by decide) ?_
      have e0 : yw 0 + 1 = nI (w 0 + 1) := by rw [hk.1 0 (by omega)]; exact nI_1 _
      rw [e0]
      exact ya_74 W S hwl (Or.inr ⟨by omega, rfl⟩) hr hF hT hN
    · have e1 : nI (L + 1) - 1 = nI L := nI_pred L
      refine nm_r e1 ?_
      rw [nI_clamp (n := L) (by omega), hk.1 L (by omega)]
      refine ⟨vp_in_nI (by omega) (by omega), ?_⟩
      have e2 : nI (w L) + 1 = nI (w L + 1) := nI_1 _
      rw [e2]
      have hVl := hV (by omega)
      have hVL : ne_V (cf_k vs wn tb) na nb (cf_s wn) w L := gp_pre hVl (by omega) (by omega)
      have h5 : 5 ≤ w L := by
        obtain ⟨K, rfl⟩ : ∃ K, L = K + 1 := ⟨L - 1, by omega⟩
        exact (hVl.2.2.1 K (by omega)).1
      have hwL := hwl L (by omega)
      unfold wpY_extend
      dsimp only
      refine br_t (nI_le (a := 5) (by omega) (by omega)) ⟨11 - (w L + 1) + 1, ya_ext W S (by omega) hVL hk' hF (11 - (w L + 1)) (w L + 1) (by omega) (by omega) ?_ ?_⟩
      · intro t' h2 h3 h4 h6 yw' yu' yf' hs
        refine br_f (by decide) (hT _ _ _ _ _ h6 hs ?_ ?_)
        · intro q m hv hq
          exact df_push (h4 q m hv (hr q m hv hq))
        · exact df_n_fall hwl (by omega) (fun _ => by omega) h3 (by omega)
      · intro h2
        exact br_t rfl (ih (by omega) hk' (fun _ => by omega) (fun _ q m hv hq => h2 q m hv (hr q m hv hq)) (fun z => by omega))
theorem ya_advance (W : cf_W vs zs na nb wn) (S : cf_Y vv zz tt aa bb ww vs zs na nb wn tb) {F : Prop} {w : Nat → Nat} {l : Nat} (hV : 0 < l → ne_V (cf_k vs wn tb) na nb (cf_s wn) w l) (hk : yk_S (cf_k vs wn tb) na nb (cf_s wn) zs F w l yw yu yf) (hF : F → ∀ n, n < 11 → ye n = nI ((ne_W (cf_k vs wn tb) na nb (cf_s wn) zs) n)) {post : Int32 → SY → Prop}
    (hT : ∀ (w' : Nat → Nat) (l' : Nat) (yw' yu' yf' : Nat → Int32), ne_V (cf_k vs wn tb) na nb (cf_s wn) w' l' → yk_S (cf_k vs wn tb) na nb (cf_s wn) zs F w' l' yw' yu' yf' → (∀ q m, ne_V (cf_k vs wn tb) na nb (cf_s wn) q m → df_R w l 0 q m → df_R w' l' 0 q m ∨ df_eq w' l' q m) → df_n w' l' < df_n w l → post 1 (nI l', vv, zz, tt, aa, bb, ww, yw', yu', yf', ye, ys, yn))
    (hN : (∀ q m, ne_V (cf_k vs wn tb) na nb (cf_s wn) q m → ¬ df_R w l 0 q m) → post 0 (0, vv, zz, tt, aa, bb, ww, yw, yu, yf, ye, ys, yn)) : wpY_advance post (nI l, vv, zz, tt, aa, bb, ww, yw, yu, yf, ye, ys, yn) := by
  have hl11 : l ≤ 11 := by
    rcases Nat.eq_zero_or_pos l with z | z
    · omega
    · exact ne_V_len (hV z)
  have hwl : ∀ i, i < l → w i < 11 := fun i hi => ne_V_lt (hV (by omega)) hi
  unfold wpY_advance
  dsimp only
  refine pk_le l 0 (fun h => ?_) (fun h => ?_)
  · have e : l = 0 := by omega
    subst e
    exact ⟨1, ya_17 W S hV hF hT hN 0 (by omega) hk (fun z => z) (fun z => by omega) (fun _ q m _ hq => hq)⟩
  · have hVl := hV h
    have h5 : ∀ q m, ne_V (cf_k vs wn tb) na nb (cf_s wn) q m → df_R w l 0 q m → df_R w l 5 q m := by
      intro q m hv hq
      refine df_skip hq ?_
      intro hm _ _
      obtain ⟨K, rfl⟩ : ∃ K, l = K + 1 := ⟨l - 1, by omega⟩
      exact (hv.2.2.1 K hm).1
    unfold wpY_extend
    dsimp only
    refine br_f (by decide) ⟨7, ya_ext W S h hVl hk hF 6 5 rfl (by omega) ?_ ?_⟩
    · intro t' h2 h3 h4 h6 yw' yu' yf' hs
      have := ne_V_len h6
      refine br_f (by decide) (hT _ _ _ _ _ h6 hs ?_ ?_)
      · intro q m hv hq
        exact df_push (h4 q m hv (h5 q m hv hq))
      · exact df_n_fall hwl (by omega) (fun _ => by omega) h3 (by omega)
    · intro h2
      exact br_t rfl ⟨l + 1, ya_17 W S hV hF hT hN l (by omega) hk (fun _ => h) (fun _ q m hv hq => h2 q m hv (h5 q m hv hq)) (fun z => by omega)⟩
end
end
section
/-! ===== work ===== -/
section
variable {ln : Int32} {vv zz tt aa bb ww yw yu yf ye ys yn : Nat → Int32} {vs zs na nb wn : Nat → Nat} {tb : Nat → Bool}
/-- what the weights in hand say while the way w is the last one that was walked -/
def yo_I (vs zs na nb wn : Nat → Nat) (tb : Nat → Bool) (w : Nat → Nat) (l : Nat) (ye : Nat → Int32) : Prop :=
  ∃ wt : Nat → Nat, (∀ n, n < 11 → ye n = nI (wt n) ∧ wt n ≤ 7) ∧ (∀ n, n < 11 → ∀ x, 1 ≤ x → x ≤ wt n → ne_R (cf_k vs wn tb) na nb (cf_s wn) zs x n) ∧ (∀ q m, ne_V (cf_k vs wn tb) na nb (cf_s wn) q (m + 1) → df_R w l 0 q (m + 1) ∨ ne_u (cf_k vs wn tb) na nb (cf_s wn) zs q m ≤ wt (q m))
def yo_J (vs zs na nb wn : Nat → Nat) (tb : Nat → Bool) (w : Nat → Nat) (l : Nat) (ys : Nat → Int32) : Prop :=
  (∀ n, n < 11 → ∀ i, i < 32 → bt (ys n) i = true → ne_Q (cf_k vs wn tb) na nb (cf_s wn) zs (ne_W (cf_k vs wn tb) na nb (cf_s wn) zs) i n) ∧ (∀ q m, ne_V (cf_k vs wn tb) na nb (cf_s wn) q (m + 1) → df_R w l 0 q (m + 1) ∨ (ne_F (cf_k vs wn tb) na nb (cf_s wn) zs (ne_W (cf_k vs wn tb) na nb (cf_s wn) zs) q m → bt (ys (q m)) (q 0) = true))
theorem yo_eqU {w' q : Nat → Nat} {K m : Nat} (h : df_eq w' (K + 1) q (m + 1)) : m = K ∧ ∀ j, j ≤ m → q j = w' j := by
  have e : m = K := by have := h.1; omega
  subst e
  exact ⟨rfl, fun j hj => h.2 j (by omega)⟩
theorem yo_Iend (W : cf_W vs zs na nb wn) {w : Nat → Nat} {l : Nat} (hI : yo_I vs zs na nb wn tb w l ye) (h : ∀ q m, ne_V (cf_k vs wn tb) na nb (cf_s wn) q m → ¬ df_R w l 0 q m) : ∀ n, n < 11 → ye n = nI ((ne_W (cf_k vs wn tb) na nb (cf_s wn) zs) n) := by
  obtain ⟨wt, h1, h2, h3⟩ := hI
  intro n hn
  have : wt n = (ne_W (cf_k vs wn tb) na nb (cf_s wn) zs) n := by
    refine ne_W_eq (h1 n hn).2 ?_
    intro x hx h7
    refine ⟨h2 n hn x hx, ?_⟩
    intro hr
    obtain ⟨f, l', hv, e, hu⟩ := ne_R_u (cf_s_1 wn) hx hr
    rcases h3 f l' hv with a | a
    · exact absurd a (h f _ hv)
    · rw [e] at a; omega
  rw [(h1 n hn).1, this]
theorem yo_Istep (W : cf_W vs zs na nb wn) {w w' : Nat → Nat} {l K : Nat} {ye : Nat → Int32} {wt : Nat → Nat} (hV : ne_V (cf_k vs wn tb) na nb (cf_s wn) w' (K + 1)) (hI1 : ∀ n, n < 11 → ye n = nI (wt n) ∧ wt n ≤ 7) (hI2 : ∀ n, n < 11 → ∀ x, 1 ≤ x → x ≤ wt n → ne_R (cf_k vs wn tb) na nb (cf_s wn) zs x n) (hI3 : ∀ q m, ne_V (cf_k vs wn tb) na nb (cf_s wn) q (m + 1) → df_R w l 0 q (m + 1) ∨ ne_u (cf_k vs wn tb) na nb (cf_s wn) zs q m ≤ wt (q m)) (hR : ∀ q m, ne_V (cf_k vs wn tb) na nb (cf_s wn) q m → df_R w l 0 q m → df_R w' (K + 1) 0 q m ∨ df_eq w' (K + 1) q m) (v : Nat) (hv1 : ne_u (cf_k vs wn tb) na nb (cf_s wn) zs w' K ≤ v) (hv2 : v = wt (w' K) ∨ v = ne_u (cf_k vs wn tb) na nb (cf_s wn) zs w' K) (hv3 : wt (w' K) ≤ v) : yo_I vs zs na nb wn tb w' (K + 1) (upd ye (w' K) (nI v)) := by
  have he : w' K < 11 := ne_V_lt hV (by omega)
  have hu7 : ne_u (cf_k vs wn tb) na nb (cf_s wn) zs w' K ≤ 7 := Nat.le_trans (yk_ule K) (cf_z7 W _ (ne_V_lt hV (by omega)))
  refine ⟨gp_u wt (w' K) v, ?_, ?_, ?_⟩
  · intro n hn
    by_cases c : n = w' K
    · subst c; rw [pk_us, gp_us]
      have := (hI1 _ hn).2
      exact ⟨rfl, by omega⟩
    · rw [pk_un c, gp_un c]; exact hI1 n hn
  · intro n hn x hx hle
    by_cases c : n = w' K
    · subst c
      rw [gp_us] at hle
      rcases hv2 with e | e
      · exact hI2 _ hn x hx (by omega)
      · exact ne_u_R hV hx K (by omega) (by omega)
    · rw [gp_un c] at hle; exact hI2 n hn x hx hle
  · intro q m hq
    have mono : ∀ n, wt n ≤ gp_u wt (w' K) v n := by
      intro n
      by_cases c : n = w' K
      · subst c; rw [gp_us]; exact hv3
      · rw [gp_un c]; exact Nat.le_refl _
    rcases hI3 q m hq with a | a
    · rcases hR q _ hq a with b | b
      · exact Or.inl b
      · refine Or.inr ?_
        obtain ⟨e, ag⟩ := yo_eqU b
        subst e
        rw [ne_u_cg m ag, ag m (Nat.le_refl _), gp_us]
        exact hv1
    · exact Or.inr (Nat.le_trans a (mono _))
theorem yo_Jend {w : Nat → Nat} {l : Nat} (hJ : yo_J vs zs na nb wn tb w l ys) (h : ∀ q m, ne_V (cf_k vs wn tb) na nb (cf_s wn) q m → ¬ df_R w l 0 q m) : ∀ n, n < 11 → ys n = ne_rt (cf_k vs wn tb) na nb (cf_s wn) zs (ne_W (cf_k vs wn tb) na nb (cf_s wn) zs) n := by
  intro n hn
  refine ne_rt_eq ?_
  intro i hi
  refine ⟨hJ.1 n hn i hi, ?_⟩
  intro hq
  obtain ⟨f, l', hv, e1, e2, hf⟩ := ne_Q_F (cf_s_1 wn) hq
  rcases hJ.2 f l' hv with a | a
  · exact absurd a (h f _ hv)
  · have := a hf
    rw [e1, e2] at this
    exact this
theorem yo_Jsame {w w' : Nat → Nat} {l K : Nat} {ys : Nat → Int32} (hJ : yo_J vs zs na nb wn tb w l ys) (hR : ∀ q m, ne_V (cf_k vs wn tb) na nb (cf_s wn) q m → df_R w l 0 q m → df_R w' (K + 1) 0 q m ∨ df_eq w' (K + 1) q m) (hf : ¬ ne_F (cf_k vs wn tb) na nb (cf_s wn) zs (ne_W (cf_k vs wn tb) na nb (cf_s wn) zs) w' K) : yo_J vs zs na nb wn tb w' (K + 1) (upd ys (w' K) (ys (w' K))) := by
  have e : upd ys (w' K) (ys (w' K)) = ys := by
    funext j
    by_cases c : j = w' K
    · subst c; exact pk_us
    · exact pk_un c
  rw [e]
  refine ⟨hJ.1, ?_⟩
  intro q m hq
  rcases hJ.2 q m hq with a | a
  · rcases hR q _ hq a with b | b
    · exact Or.inl b
    · refine Or.inr (fun z => absurd ?_ hf)
      obtain ⟨e, ag⟩ := yo_eqU b
      subst e
      exact ne_F_cg ag z
  · exact Or.inr a
theorem yo_Jstep {w w' : Nat → Nat} {l K : Nat} {ys : Nat → Int32} (hV : ne_V (cf_k vs wn tb) na nb (cf_s wn) w' (K + 1)) (hJ : yo_J vs zs na nb wn tb w l ys) (hR : ∀ q m, ne_V (cf_k vs wn tb) na nb (cf_s wn) q m → df_R w l 0 q m → df_R w' (K + 1) 0 q m ∨ df_eq w' (K + 1) q m) (hf : ne_F (cf_k vs wn tb) na nb (cf_s wn) zs (ne_W (cf_k vs wn tb) na nb (cf_s wn) zs) w' K) : yo_J vs zs na nb wn tb w' (K + 1) (upd ys (w' K) (ys (w' K) ||| ((1 : Int32) <<< (nI (w' 0) &&& 31)))) := by
  have he : w' K < 11 := ne_V_lt hV (by omega)
  have h0 : w' 0 < 11 := ne_V_lt hV (by omega)
  refine ⟨?_, ?_⟩
  · intro n hn i hi hb
    by_cases c : n = w' K
    · subst c
      rw [pk_us, b_or, sx_bit (by omega) hi, Bool.or_eq_true, decide_eq_true_eq] at hb
      rcases hb with hb | hb
      · exact hJ.1 _ hn i hi hb
      · subst hb; exact ne_F_Q hV K (by omega) hf
    · rw [pk_un c] at hb; exact hJ.1 n hn i hi hb
  · intro q m hq
    have h0q : q 0 < 11 := ne_V_lt hq (by omega)
    rcases hJ.2 q m hq with a | a
    · rcases hR q _ hq a with b | b
      · exact Or.inl b
      · refine Or.inr (fun _ => ?_)
        obtain ⟨e, ag⟩ := yo_eqU b
        subst e
        rw [ag m (Nat.le_refl _), ag 0 (by omega), pk_us, b_or, sx_bit (by omega) (by omega), decide_eq_true rfl, Bool.or_true]
    · refine Or.inr (fun z => ?_)
      have hb := a z
      by_cases c : q m = w' K
      · rw [c] at hb ⊢
        rw [pk_us, b_or, hb, Bool.true_or]
      · rw [pk_un c]; exact hb
theorem yo_106 (W : cf_W vs zs na nb wn) (S : cf_Y vv zz tt aa bb ww vs zs na nb wn tb) {post : SY → Prop} (hF : ∀ n, n < 11 → ye n = nI ((ne_W (cf_k vs wn tb) na nb (cf_s wn) zs) n)) (h : ∀ (yw yu yf ys : Nat → Int32), (∀ n, n < 11 → ys n = ne_rt (cf_k vs wn tb) na nb (cf_s wn) zs (ne_W (cf_k vs wn tb) na nb (cf_s wn) zs) n) → post (0, vv, zz, tt, aa, bb, ww, yw, yu, yf, ye, ys, yn)) :
    ∀ N (w : Nat → Nat) (l : Nat) (yw yu yf ys : Nat → Int32), df_n w l < N → (0 < l → ne_V (cf_k vs wn tb) na nb (cf_s wn) w l) → yk_S (cf_k vs wn tb) na nb (cf_s wn) zs True w l yw yu yf → yo_J vs zs na nb wn tb w l ys → wY_work_106 post N (nI l) vv zz tt aa bb ww yw yu yf ye ys yn := by
  intro N
  induction N with
  | zero => intro w l yw yu yf ys hn; omega
  | succ N ih =>
    intro w l yw yu yf ys hn hV hk hJ
    rw [wY_work_106]
    dsimp only
    refine ya_advance W S hV hk (fun _ => hF) ?_ ?_
    · intro w' l' yw' yu' yf' hV' hk' hR hm
      obtain ⟨K, rfl⟩ : ∃ K, l' = K + 1 := ⟨l' - 1, by have := hV'.1; omega⟩
      have hl := ne_V_len hV'
      have he : w' K < 11 := ne_V_lt hV' (by omega)
      have h0 : w' 0 < 11 := ne_V_lt hV' (by omega)
      have e1 : nI (K + 1) - 1 = nI K := nI_pred K
      have hi : vp_in (nI K) 11 := vp_in_nI (by omega) (by omega)
      have hi2 : vp_in (nI (w' K)) 11 := vp_in_nI he (by omega)
      refine br_f (by decide) ?_
      dsimp only
      rw [e1, nI_clamp (n := K) (by omega), hk'.1 K (by omega), hk'.1 0 (by omega)]
      refine ⟨hi, nm_e ?_⟩
      rw [nI_clamp (n := w' K) (by omega)]
      have f := hk'.2.2 trivial K (by omega)
      refine ⟨hi, br_c (fun z => ⟨hi2, hi2, nm_e ?_⟩) (fun z => ⟨hi2, hi2, nm_e ?_⟩)⟩
      · refine ih w' (K + 1) yw' yu' yf' _ (by omega) (fun _ => hV') hk' (yo_Jsame hJ hR ?_)
        intro hf
        rw [f.1 hf] at z
        exact absurd z (by decide)
      · refine ih w' (K + 1) yw' yu' yf' _ (by omega) (fun _ => hV') hk' (yo_Jstep hV' hJ hR ?_)
        exact Classical.byContradiction (fun hf => z (f.2 hf))
    · intro hN
      exact br_t rfl (h yw yu yf ys (yo_Jend hJ hN))
theorem yo_33 (W : cf_W vs zs na nb wn) (S : cf_Y vv zz tt aa bb ww vs zs na nb wn tb) {post : SY → Prop} (h0s : ∀ n, n < 11 → ys n = 0) (h : ∀ (yw yu yf ye ys : Nat → Int32), (∀ n, n < 11 → ye n = nI ((ne_W (cf_k vs wn tb) na nb (cf_s wn) zs) n)) → (∀ n, n < 11 → ys n = ne_rt (cf_k vs wn tb) na nb (cf_s wn) zs (ne_W (cf_k vs wn tb) na nb (cf_s wn) zs) n) → post (0, vv, zz, tt, aa, bb, ww, yw, yu, yf, ye, ys, yn)) :
    ∀ N (w : Nat → Nat) (l : Nat) (yw yu yf ye : Nat → Int32), df_n w l < N → (0 < l → ne_V (cf_k vs wn tb) na nb (cf_s wn) w l) → yk_S (cf_k vs wn tb) na nb (cf_s wn) zs False w l yw yu yf → yo_I vs zs na nb wn tb w l ye → wY_work_33 post N (nI l) vv zz tt aa bb ww yw yu yf ye ys yn := by
  intro N
  induction N with
  | zero => intro w l yw yu yf ye hn; omega
  | succ N ih =>
    intro w l yw yu yf ye hn hV hk hI
    rw [wY_work_33]
    dsimp only
    refine ya_advance W S hV hk (fun z => z.elim) ?_ ?_
    · intro w' l' yw' yu' yf' hV' hk' hR hm
      obtain ⟨K, rfl⟩ : ∃ K, l' = K + 1 := ⟨l' - 1, by have := hV'.1; omega⟩
      have hl := ne_V_len hV'
      have he : w' K < 11 := ne_V_lt hV' (by omega)
      have hu7 : ne_u (cf_k vs wn tb) na nb (cf_s wn) zs w' K ≤ 7 := Nat.le_trans (yk_ule K) (cf_z7 W _ (ne_V_lt hV' (by omega)))
      have e1 : nI (K + 1) - 1 = nI K := nI_pred K
      have hi : vp_in (nI K) 11 := vp_in_nI (by omega) (by omega)
      have hi2 : vp_in (nI (w' K)) 11 := vp_in_nI he (by omega)
      obtain ⟨wt, h1, h2, h3⟩ := hI
      have hw7 := (h1 _ he).2
      refine br_f (by decide) ?_
      dsimp only
      rw [e1, nI_clamp (n := K) (by omega), hk'.1 K (by omega), hk'.2.1 K (by omega)]
      refine ⟨hi, nm_e ?_⟩
      rw [nI_clamp (n := w' K) (by omega), (h1 _ he).1]
      refine ⟨hi, hi2, pk_le (ne_u (cf_k vs wn tb) na nb (cf_s wn) zs w' K) (wt (w' K)) (fun z => ⟨hi2, hi2, nm_e ?_⟩) (fun z => ⟨hi, hi2, nm_e ?_⟩)⟩
      · exact ih w' (K + 1) yw' yu' yf' _ (by omega) (fun _ => hV') hk' (yo_Istep W hV' h1 h2 h3 hR (wt (w' K)) z (Or.inl rfl) (Nat.le_refl _))
      · exact ih w' (K + 1) yw' yu' yf' _ (by omega) (fun _ => hV') hk' (yo_Istep W hV' h1 h2 h3 hR (ne_u (cf_k vs wn tb) na nb (cf_s wn) zs w' K) (Nat.le_refl _) (Or.inr rfl) (by omega))
    · intro hN
      refine br_t rfl ⟨df_n (fun _ => 0) 0 + 1, ?_⟩
      refine yo_106 W S (yo_Iend W hI hN) (fun yw yu yf ys hs => h yw yu yf ye ys (yo_Iend W hI hN) hs) _ (fun _ => 0) 0 yw yu yf ys (Nat.lt_succ_self _) (fun z => by omega) yk_S0 ⟨?_, ?_⟩
      · intro n hn i hi hb
        rw [h0s n hn, b_0] at hb
        exact absurd hb (by decide)
      · intro q m _
        exact Or.inl (Or.inr ⟨by omega, fun j hj => by omega, Nat.zero_le _⟩)
theorem yo_2 (W : cf_W vs zs na nb wn) (S : cf_Y vv zz tt aa bb ww vs zs na nb wn tb) {post : SY → Prop} (h : ∀ (yw yu yf ye ys : Nat → Int32), (∀ n, n < 11 → ye n = nI ((ne_W (cf_k vs wn tb) na nb (cf_s wn) zs) n)) → (∀ n, n < 11 → ys n = ne_rt (cf_k vs wn tb) na nb (cf_s wn) zs (ne_W (cf_k vs wn tb) na nb (cf_s wn) zs) n) → post (0, vv, zz, tt, aa, bb, ww, yw, yu, yf, ye, ys, yn)) :
    ∀ d k (ye ys : Nat → Int32), k + d = 11 → (∀ n, n < k → ye n = 0 ∧ ys n = 0) → wY_work_2 post ln (d + 1) (nI k) vv zz tt aa bb ww yw yu yf ye ys yn := by
  intro d
  induction d with
  | zero =>
    intro k ye ys hk h0
    have e : k = 11 := by omega
    subst e
    refine br_t (by decide) ⟨df_n (fun _ => 0) 0 + 1, ?_⟩
    refine yo_33 W S (fun n hn => (h0 n hn).2) h _ (fun _ => 0) 0 yw yu yf ye (Nat.lt_succ_self _) (fun z => by omega) yk_S0 ⟨fun _ => 0, ?_, ?_, ?_⟩
    · intro n hn
      exact ⟨(h0 n hn).1, Nat.zero_le 7⟩
    · intro n hn x h1 h2
      have h3 : x ≤ 0 := h2
      omega
    · intro q m _
      exact Or.inl (Or.inr ⟨by omega, fun j hj => by omega, Nat.zero_le _⟩)
  | succ d ih =>
    intro k ye ys hk h0
    have hi : vp_in (nI k) 11 := vp_in_nI (by omega) (by omega)
    rw [wY_work_2]
    dsimp only
    rw [nI_clamp (n := k) (by omega)]
    refine br_f (nI_ge (b := 11) (by omega) (by decide)) ⟨hi, nm_e ⟨hi, nm_e (nm_r (nI_1 k) (ih (k + 1) _ _ (by omega) ?_))⟩⟩
    intro n hn
    by_cases c : n = k
    · subst c; exact ⟨pk_us, pk_us⟩
    · rw [pk_un c, pk_un c]; exact h0 n (by omega)
theorem yo_work (W : cf_W vs zs na nb wn) (S : cf_Y vv zz tt aa bb ww vs zs na nb wn tb) {post : SY → Prop} (h : ∀ (yw yu yf ye ys : Nat → Int32), (∀ n, n < 11 → ye n = nI ((ne_W (cf_k vs wn tb) na nb (cf_s wn) zs) n)) → (∀ n, n < 11 → ys n = ne_rt (cf_k vs wn tb) na nb (cf_s wn) zs (ne_W (cf_k vs wn tb) na nb (cf_s wn) zs) n) → post (0, vv, zz, tt, aa, bb, ww, yw, yu, yf, ye, ys, yn)) : wpY_work post (ln, vv, zz, tt, aa, bb, ww, yw, yu, yf, ye, ys, yn) :=
  ⟨12, yo_2 W S h 11 0 ye ys rfl (fun n hn => by omega)⟩
end
end
section
/-! ===== the reference: after, closed, switches, reach ===== -/
def oc_i (b : Bool) : Int32 := if b = true then 1 else 0
theorem oc_t : oc_i true = 1 := rfl
theorem oc_f : oc_i false = 0 := rfl
def oc_a (v : Nat) (x : Int32) (vs : Nat → Nat) : Nat → Bool
  | 0 => true
  | m + 1 => oc_a v x vs m && (!bt x m || decide (vs m = v))
def oc_v (x : Int32) (vs : Nat → Nat) : Nat := if oc_a 0 x vs 11 = true then 0 else if oc_a 1 x vs 11 = true then 1 else 2
theorem oc_v_le (x : Int32) (vs : Nat → Nat) : oc_v x vs ≤ 2 := by
  unfold oc_v
  split
  · omega
  · split <;> omega
theorem oc_aN {v : Nat} {x : Int32} {vs : Nat → Nat} {m : Nat} (h : bt x m = false) : oc_a v x vs (m + 1) = oc_a v x vs m := by
  rw [oc_a, h]; simp
theorem oc_aY {v : Nat} {x : Int32} {vs : Nat → Nat} {m : Nat} (h : bt x m = true) : oc_a v x vs (m + 1) = (oc_a v x vs m && decide (vs m = v)) := by
  rw [oc_a, h]; simp
theorem oc_e1 {v : Nat} (hv : v ≤ 2) : (nI v = 1) ↔ v = 1 := nI_eq (b := 1) (by omega) (by decide)
theorem oc_e0 {v : Nat} (hv : v ≤ 2) : (nI v = 0) ↔ v = 0 := nI_eq (b := 0) (by omega) (by decide)
/-- the end of both sides' loop -/
theorem oc_end {post : Int32 → Prop} {x : Int32} {vs : Nat → Nat} (h : post (nI (oc_v x vs))) : ((oc_i (oc_a 0 x vs 11) = 0 → ((oc_i (oc_a 1 x vs 11) = 0 → post 2) ∧ (¬ oc_i (oc_a 1 x vs 11) = 0 → post 1))) ∧ (¬ oc_i (oc_a 0 x vs 11) = 0 → post 0)) := by
  unfold oc_v at h
  cases h0 : oc_a 0 x vs 11 with
  | true => rw [h0] at h; exact br_f (by decide) h
  | false =>
    rw [h0] at h
    cases h1 : oc_a 1 x vs 11 with
    | true => rw [h1] at h; exact br_t rfl (br_f (by decide) h)
    | false => rw [h1] at h; exact br_t rfl (br_t rfl h)
section
variable {ln : Int32} {vv zz tt aa bb ww yw yu yf ye ys yn : Nat → Int32} {vs zs na nb wn : Nat → Nat} {tb : Nat → Bool}
theorem yr_48 (W : cf_W vs zs na nb wn) (S : cf_Y vv zz tt aa bb ww vs zs na nb wn tb) {m : Nat} (hm : m < 11) {post : Int32 → Prop} {J : Int32 → Int32 → Int32 → Prop} {x1 z : Int32} {o : Bool} (h : J z (oc_i (o && decide (vs m = 1))) (nI (m + 1))) : wY_after_48 post J x1 (oc_i o) (nI m) z ln vv zz tt aa bb ww yw yu yf ye ys yn := by
  have hv := W.2.2.2.1 m hm
  unfold wY_after_48
  rw [nI_clamp (n := m) (by omega), S.1 m hm, oc_e1 hv]
  cases o with
  | false => exact br_t rfl (nm_r (nI_1 m) h)
  | true =>
    refine br_f (by decide) ⟨vp_in_nI hm (by omega), br_c (fun e => nm_r (nI_1 m) ?_) (fun e => nm_r (nI_1 m) ?_)⟩
    · rw [decide_eq_true e] at h; exact h
    · rw [decide_eq_false e] at h; exact h
theorem yr_7 (W : cf_W vs zs na nb wn) (S : cf_Y vv zz tt aa bb ww vs zs na nb wn tb) {n : Nat} (hn : n < 11) {post : Int32 → Prop} (h : post (nI (oc_v (ys n) vs))) : ∀ d m, m + d = 11 → wY_after_7 post (nI n) ln vv zz tt aa bb ww yw yu yf ye ys yn (d + 1) (oc_i (oc_a 0 (ys n) vs m)) (oc_i (oc_a 1 (ys n) vs m)) (nI m) := by
  intro d
  induction d with
  | zero =>
    intro m hm
    have e : m = 11 := by omega
    subst e
    exact br_t (by decide) (oc_end h)
  | succ d ih =>
    intro m hm
    have hm' : m < 11 := by omega
    have hv := W.2.2.2.1 m hm'
    have J := ih (m + 1) (by omega)
    rw [wY_after_7]
    dsimp only
    rw [nI_clamp (n := n) (by omega), nI_clamp (n := m) (by omega), S.1 m hm', oc_e0 hv]
    refine br_f (nI_ge (b := 11) hm' (by decide)) ⟨vp_in_nI hn (by omega), ?_⟩
    cases hb : bt (ys n) m with
    | false =>
      rw [oc_aN hb, oc_aN hb] at J
      exact br_f (sx_f (by omega) hb) (nm_r (nI_1 m) J)
    | true =>
      rw [oc_aY hb, oc_aY hb] at J
      refine br_t (sx_t (by omega) hb) ?_
      unfold wY_after_47
      cases hz : oc_a 0 (ys n) vs m with
      | false =>
        rw [hz] at J
        exact br_t rfl (yr_48 W S hm' J)
      | true =>
        rw [hz] at J
        refine br_f (by decide) ⟨vp_in_nI hm' (by omega), br_c (fun e => yr_48 W S hm' ?_) (fun e => yr_48 W S hm' ?_)⟩
        · rw [decide_eq_true e] at J; exact J
        · rw [decide_eq_false e] at J; exact J
theorem yr_after (W : cf_W vs zs na nb wn) (S : cf_Y vv zz tt aa bb ww vs zs na nb wn tb) {n : Nat} (hn : n < 11) {post : Int32 → Prop} (h : post (nI (oc_v (ys n) vs))) : wpY_after post (ln, vv, zz, tt, aa, bb, ww, yw, yu, yf, ye, ys, yn) (nI n) :=
  ⟨12, yr_7 W S hn h 11 0 rfl⟩
theorem yr_c4 (W : cf_W vs zs na nb wn) (S : cf_Y vv zz tt aa bb ww vs zs na nb wn tb) {post : Int32 → Prop} (h : post (sx_set (cf_k vs wn tb) 12)) : ∀ d k, k + d = 12 → wY_closed_4 post ln vv zz tt aa bb ww yw yu yf ye ys yn (d + 1) (sx_set (cf_k vs wn tb) k) (nI k) := by
  intro d
  induction d with
  | zero =>
    intro k hk
    have e : k = 12 := by omega
    subst e
    exact br_t (by decide) h
  | succ d ih =>
    intro k hk
    have J := ih (k + 1) (by omega)
    rw [sx_set] at J
    rw [wY_closed_4]
    dsimp only
    refine br_f (nI_ge (b := 12) (by omega) (by decide)) (yc_closed W S (by omega) (fun hc => br_f (by decide) (nm_e (nm_r (nI_1 k) ?_))) (fun hc => br_t rfl (nm_r (nI_1 k) ?_)))
    · rw [if_pos hc] at J; exact J
    · rw [if_neg (by rw [hc]; decide)] at J; exact J
theorem yr_closed (W : cf_W vs zs na nb wn) (S : cf_Y vv zz tt aa bb ww vs zs na nb wn tb) {post : Int32 → Prop} (h : post (sx_set (cf_k vs wn tb) 12)) : wpY_closed post (ln, vv, zz, tt, aa, bb, ww, yw, yu, yf, ye, ys, yn) :=
  ⟨13, yr_c4 W S h 12 0 rfl⟩
theorem yr_s4 (S : cf_Y vv zz tt aa bb ww vs zs na nb wn tb) {post : Int32 → Prop} (h : post (sx_set tb 12)) : ∀ d k, k + d = 12 → wY_switches_4 post ln vv zz tt aa bb ww yw yu yf ye ys yn (d + 1) (sx_set tb k) (nI k) := by
  intro d
  induction d with
  | zero =>
    intro k hk
    have e : k = 12 := by omega
    subst e
    exact br_t (by decide) h
  | succ d ih =>
    intro k hk
    have J := ih (k + 1) (by omega)
    rw [sx_set] at J
    rw [wY_switches_4]
    dsimp only
    rw [nI_clamp (n := k) (by omega), S.2.2.1 k (by omega)]
    refine br_f (nI_ge (b := 12) (by omega) (by decide)) ⟨vp_in_nI (by omega) (by omega), ?_⟩
    cases ht : tb k with
    | true => rw [ht] at J; exact br_f (by decide) (nm_e (nm_r (nI_1 k) J))
    | false => rw [ht] at J; exact br_t rfl (nm_r (nI_1 k) J)
theorem yr_switches (S : cf_Y vv zz tt aa bb ww vs zs na nb wn tb) {post : Int32 → Prop} (h : post (sx_set tb 12)) : wpY_switches post (ln, vv, zz, tt, aa, bb, ww, yw, yu, yf, ye, ys, yn) :=
  ⟨13, yr_s4 S h 12 0 rfl⟩
def yr_A (c : Nat → Bool) (na nb st : Nat → Nat) (j p q : Nat) : Prop := p = j / 11 ∧ q = j % 11 ∧ ne_T c na nb st 0 p q
theorem yr_E {c : Nat → Bool} {na nb : Nat → Nat} {p q : Nat} : 0 < ne_B c na nb (cf_s wn) p q ↔ ne_E c na nb (cf_s wn) 0 p q := by
  rw [show (0 < ne_B c na nb (cf_s wn) p q) = (1 ≤ ne_B c na nb (cf_s wn) p q) from rfl, ne_B_iff (Nat.le_refl _)]
  constructor
  · rintro ⟨k, h1, h2, _, h4⟩; exact ⟨k, h1, h2, Nat.zero_le _, h4⟩
  · rintro ⟨k, h1, h2, _, h4⟩; exact ⟨k, h1, h2, cf_s_1 wn k h1, h4⟩
theorem yr_E11 (W : cf_W vs zs na nb wn) {c : Nat → Bool} {st : Nat → Nat} {x p q : Nat} (h : ne_E c na nb st x p q) : p < 11 ∧ q < 11 := by
  obtain ⟨k, h1, _, _, h4⟩ := h
  have := W.2.2.2.2.2.2 k h1
  rcases h4 with h4 | h4 <;> omega
theorem yr_TA (W : cf_W vs zs na nb wn) (p q : Nat) (h : ne_T (cf_k vs wn tb) na nb (cf_s wn) 0 p q) : ∃ j, j < 121 ∧ yr_A (cf_k vs wn tb) na nb (cf_s wn) j p q := by
  have a := yr_E11 W h.2.2
  exact ⟨p * 11 + q, by omega, by omega, by omega, h⟩
theorem yr_25 (W : cf_W vs zs na nb wn) (S : cf_Y vv zz tt aa bb ww vs zs na nb wn tb) {m0 r : Nat} {post : Int32 → Prop} {J : Int32 → Int32 → Prop} (hJ : ∀ x, (∀ n, gl_L (fun n => n = m0) (ne_T (cf_k vs wn tb) na nb (cf_s wn) 0) (r + 1) n → bt x n = true) → (∀ n, bt x n = true → ne_H (cf_k vs wn tb) na nb (cf_s wn) m0 n) → J x (nI (r + 1))) :
    ∀ d c x, c + d = 121 → gr_I (gl_L (fun n => n = m0) (ne_T (cf_k vs wn tb) na nb (cf_s wn) 0) r) (fun n => bt x n = true) (ne_H (cf_k vs wn tb) na nb (cf_s wn) m0) (yr_A (cf_k vs wn tb) na nb (cf_s wn)) c → wY_reach_25 post J (nI r) ln vv zz tt aa bb ww yw yu yf ye ys yn (d + 1) x (nI c) := by
  intro d
  induction d with
  | zero =>
    intro c x hc hI
    have e : c = 121 := by omega
    subst e
    exact br_t (by decide) (nm_r (nI_1 r) (hJ x (gr_e (yr_TA W) hI) hI.2.1))
  | succ d ih =>
    intro c x hc hI
    have ed : nI c / 11 = nI (c / 11) := pk_div (d := 11) (by omega) (by decide) (by decide)
    have er : nI c - nI c / 11 * 11 = nI (c % 11) := pk_rem (d := 11) (by omega) (by decide) (by decide)
    have hp : c / 11 < 11 := by omega
    have hq : c % 11 < 11 := by omega
    have same : ¬ (bt x (c / 11) = true ∧ ne_T (cf_k vs wn tb) na nb (cf_s wn) 0 (c / 11) (c % 11)) → wY_reach_79 post J (wY_reach_25 post J (nI r) ln vv zz tt aa bb ww yw yu yf ye ys yn (d + 1)) x (nI r) (nI c) 0 ln vv zz tt aa bb ww yw yu yf ye ys yn := by
      intro hn
      unfold wY_reach_79
      refine br_t rfl (nm_r (nI_1 c) (ih (c + 1) x (by omega) (gr_s hI (fun n h => h) hI.2.1 ?_)))
      rintro p q h1 ⟨e1, e2, h2⟩
      subst e1 e2
      exact absurd ⟨h1, h2⟩ hn
    rw [wY_reach_25]
    dsimp only
    unfold wY_reach_78
    rw [er, ed]
    refine br_f (nI_ge (b := 121) (by omega) (by decide)) ⟨by decide, ?_⟩
    cases hb : bt x (c / 11) with
    | false => exact br_f (sx_f (by omega) hb) (same (fun z => by rw [hb] at z; exact absurd z.1 (by decide)))
    | true =>
      refine br_t (sx_t (by omega) hb) ⟨by decide, yc_store (by omega) (fun h5 _ => br_f (by decide) ⟨by decide, by decide, yc_between W S hp hq ?_⟩) (fun h5 => br_t rfl (same (fun z => h5 ⟨z.2.1, hq⟩)))⟩
      have hb6 : ne_B (cf_k vs wn tb) na nb (cf_s wn) (c / 11) (c % 11) ≤ 6 := ne_b_le (cf_k vs wn tb) na nb (cf_s wn) _ _ (cf_s_le W) 12 (Nat.le_refl _)
      refine pk_le (ne_B (cf_k vs wn tb) na nb (cf_s wn) (c / 11) (c % 11)) 0 (fun h => same (fun z => ?_)) (fun h => ?_)
      · have := yr_E.mpr z.2.2.2
        omega
      · have hT : ne_T (cf_k vs wn tb) na nb (cf_s wn) 0 (c / 11) (c % 11) := ⟨h5, hq, yr_E.mp h⟩
        unfold wY_reach_79
        rw [er]
        refine br_f (by decide) ⟨by decide, nm_e (nm_r (nI_1 c) (ih (c + 1) _ (by omega) (gr_s hI ?_ ?_ ?_)))⟩
        · intro n hn
          show bt _ n = true
          rw [b_or, show bt x n = true from hn, Bool.true_or]
        · intro n hn
          have hn' : bt (x ||| ((1 : Int32) <<< (nI (c % 11) &&& 31))) n = true := hn
          by_cases h32 : n < 32
          · rw [b_or, sx_bit (by omega) h32, Bool.or_eq_true, decide_eq_true_eq] at hn'
            rcases hn' with a | a
            · exact hI.2.1 n a
            · subst a; exact gl_s (hI.2.1 _ hb) hT
          · rw [b_big (by omega)] at hn'
            exact absurd hn' (by decide)
        · rintro p q h1 ⟨e1, e2, h2⟩
          subst e1 e2
          show bt _ _ = true
          rw [b_or, sx_bit (by omega) (by omega), decide_eq_true rfl, Bool.or_true]
theorem yr_16 (W : cf_W vs zs na nb wn) (S : cf_Y vv zz tt aa bb ww vs zs na nb wn tb) {m0 : Nat} (hm0 : m0 < 11) {post : Int32 → Prop} (h : post (ne_rs (cf_k vs wn tb) na nb (cf_s wn) m0)) : ∀ d r x, r + d = 11 → (∀ n, gl_L (fun n => n = m0) (ne_T (cf_k vs wn tb) na nb (cf_s wn) 0) r n → bt x n = true) → (∀ n, bt x n = true → ne_H (cf_k vs wn tb) na nb (cf_s wn) m0 n) → wY_reach_16 post ln vv zz tt aa bb ww yw yu yf ye ys yn (d + 1) x (nI r) := by
  intro d
  induction d with
  | zero =>
    intro r x hr h1 h2
    have e : r = 11 := by omega
    subst e
    have : x = ne_rs (cf_k vs wn tb) na nb (cf_s wn) m0 := by
      refine ne_rs_eq hm0 (fun i hi => ⟨h2 i, fun z => h1 i (gl_fin ?_ ?_ z)⟩)
      · intro n e; omega
      · intro p q e; exact e.2.1
    subst this
    exact br_t (by decide) h
  | succ d ih =>
    intro r x hr h1 h2
    rw [wY_reach_16]
    dsimp only
    refine br_f (nI_ge (b := 11) (by omega) (by decide)) ⟨122, yr_25 W S (m0 := m0) (fun x' h1' h2' => ih (r + 1) x' (by omega) h1' h2') 121 0 x rfl (gr_0 h1 h2)⟩
theorem yr_reach (W : cf_W vs zs na nb wn) (S : cf_Y vv zz tt aa bb ww vs zs na nb wn tb) {m0 : Nat} (hm0 : m0 < 11) {post : Int32 → Prop} (h : post (ne_rs (cf_k vs wn tb) na nb (cf_s wn) m0)) : wpY_reach post (ln, vv, zz, tt, aa, bb, ww, yw, yu, yf, ye, ys, yn) (nI m0) := by
  unfold wpY_reach
  dsimp only
  refine yc_node (by omega) (fun _ => br_f (by decide) (nm_e ⟨12, ?_⟩)) (fun z => by omega)
  refine yr_16 W S hm0 h 11 0 _ rfl ?_ ?_
  · intro n e
    have e' : n = m0 := e
    subst e'
    rw [sx_bit (by omega) (by omega), decide_eq_true rfl]
  · intro n hn
    by_cases h32 : n < 32
    · rw [sx_bit (by omega) h32, decide_eq_true_eq] at hn
      exact gl_b hn
    · rw [b_big (by omega)] at hn
      exact absurd hn (by decide)
end
end
section
/-! ===== the component's small methods ===== -/
theorem xc_node {n : Nat} (hn : n < 2 ^ 31) {post : Int32 → Prop} (h1 : n < 11 → post 1) (h0 : 11 ≤ n → post 0) : wpX_isNode post (nI n) := by
  unfold wpX_isNode
  exact br_f (nI_pos hn) (pk_le 11 n (fun h => h0 h) (fun h => h1 h))
theorem xc_nodeN {x : Int32} (hx : x < 0) {post : Int32 → Prop} (h0 : post 0) : wpX_isNode post x := by
  unfold wpX_isNode
  exact br_t hx h0
theorem xc_store {n : Nat} (hn : n < 2 ^ 31) {post : Int32 → Prop} (h1 : 5 ≤ n → n < 11 → post 1) (h0 : ¬ (5 ≤ n ∧ n < 11) → post 0) : wpX_isStore post (nI n) := by
  unfold wpX_isStore
  exact pk_lt n 5 (fun h => h0 (by omega)) (fun h5 => pk_le 11 n (fun h => h0 (by omega)) (fun h => h1 h5 h))
theorem xc_storeN {x : Int32} (hx : x < 0) {post : Int32 → Prop} (h0 : post 0) : wpX_isStore post x := by
  unfold wpX_isStore
  exact br_t (Int32.lt_trans hx (by decide)) h0
theorem xc_bit {x : Int32} {k : Nat} (hk : k < 32) {post : Int32 → Prop} (h1 : bt x k = true → post 1) (h0 : bt x k = false → post 0) : wpX_hasBit post x (nI k) := by
  unfold wpX_hasBit
  cases hb : bt x k with
  | true => exact br_t (sx_t hk hb) (h1 hb)
  | false => exact br_f (sx_f hk hb) (h0 hb)
theorem xc_lesser {a b : Nat} (ha : a < 2 ^ 31) (hb : b < 2 ^ 31) {post : Int32 → Prop} (h : post (nI (Nat.min a b))) : wpX_lesser post (nI a) (nI b) := by
  unfold wpX_lesser
  refine pk_le b a (fun hle => ?_) (fun hlt => ?_)
  · have e : Nat.min a b = b := Nat.min_eq_right hle
    rw [e] at h; exact h
  · have e : Nat.min a b = a := Nat.min_eq_left (by omega)
    rw [e] at h; exact h
section
variable {fs fp : Int32} {ch sz ea eb kd ga sr we ro se : Nat → Int32} {vs zs na nb wn : Nat → Nat} {tb : Nat → Bool} {inp : Int32}
theorem xc_value (W : cf_W vs zs na nb wn) (S : cf_X inp fp ch sz ea eb kd ga sr vs zs na nb wn tb) {n : Nat} (hn : n < 11) {post : Int32 → Prop} (h : post (nI (vs n))) : wpX_valueUnder post (fs, fp, ch, sz, ea, eb, kd, ga, sr, we, ro, se) (nI n) inp := by
  unfold wpX_valueUnder
  dsimp only
  refine pk_lt n 5 (fun h5 => pk_le 2 n (fun h2 => ?_) (fun h2 => ?_)) (fun h5 => ⟨vp_in_nI hn (by omega), ?_⟩)
  · have e : nI n - 2 = nI (n - 2) := pk_sub (b := 2) h2
    rw [e, sx_get inp (by omega), S.1 (n - 2) (by omega), show 2 + (n - 2) = n from by omega]
    have hv := W.2.2.1 n h5
    by_cases c : vs n = 1
    · rw [decide_eq_true c]
      rw [c] at h; exact h
    · have c0 : vs n = 0 := by omega
      rw [decide_eq_false c]
      rw [c0] at h; exact h
  · have c : n = 0 ∨ n = 1 := by omega
    rcases c with c | c
    · subst c; rw [W.1] at h; exact h
    · subst c; rw [W.2.1] at h; exact h
  · rw [nI_clamp (by omega), S.2.2.1 n h5 hn]; exact h
theorem xc_closes (W : cf_W vs zs na nb wn) (S : cf_X inp fp ch sz ea eb kd ga sr vs zs na nb wn tb) {k : Nat} (hk : k < 12) (ht : tb k = true) {post : Int32 → Prop} (h1 : cf_k vs wn tb k = true → post 1) (h0 : cf_k vs wn tb k = false → post 0) : wpX_closesUnder post (fs, fp, ch, sz, ea, eb, kd, ga, sr, we, ro, se) (nI k) inp := by
  obtain ⟨e1, e2, _⟩ := S.2.2.2.2.2 k hk ht
  have hi : vp_in (nI k) 12 := vp_in_nI hk (by omega)
  have hw := (W.2.2.2.2.2.2 k hk).2.2
  have hg : 2 + wn k / 3 % 3 < 11 := by omega
  have hv := W.2.2.2.1 _ hg
  unfold wpX_closesUnder
  dsimp only
  rw [nI_clamp (n := k) (by omega), e1, e2]
  unfold cf_k at h1 h0
  rw [ht, Bool.true_and] at h1 h0
  refine ⟨hi, xc_value W S hg ⟨hi, pk_eq (wn k % 3) 0 (fun e => ?_) (fun e => ⟨hi, pk_eq (wn k % 3) 1 (fun e' => ?_) (fun e' => ?_)⟩)⟩⟩
  · rw [e] at h1 h0
    refine pk_eq (vs (2 + wn k / 3 % 3)) 1 (fun z => h1 ?_) (fun z => h0 ?_)
    · rw [z]; rfl
    · rw [decide_eq_false (by omega : ¬ vs (2 + wn k / 3 % 3) = 1 - 0)]; rfl
  · rw [e'] at h1 h0
    refine pk_eq (vs (2 + wn k / 3 % 3)) 0 (fun z => h1 ?_) (fun z => h0 ?_)
    · rw [z]; rfl
    · rw [decide_eq_false (by omega : ¬ vs (2 + wn k / 3 % 3) = 1 - 1)]; rfl
  · refine h1 ?_
    rw [decide_eq_true (by omega : wn k % 3 = 2)]; rfl
theorem xc_c4 (W : cf_W vs zs na nb wn) (S : cf_X inp fp ch sz ea eb kd ga sr vs zs na nb wn tb) {post : Int32 → Prop} (h : post (sx_set (cf_k vs wn tb) 12)) : ∀ d k, k + d = 12 → wX_closedUnder_4 post inp fs fp ch sz ea eb kd ga sr we ro se (d + 1) (sx_set (cf_k vs wn tb) k) (nI k) := by
  intro d
  induction d with
  | zero =>
    intro k hk
    have e : k = 12 := by omega
    subst e
    exact br_t (by decide) h
  | succ d ih =>
    intro k hk
    have J := ih (k + 1) (by omega)
    have hk' : k < 12 := by omega
    have hp := S.2.1 k (by omega)
    rw [decide_eq_true hk', Bool.true_and] at hp
    rw [sx_set] at J
    rw [wX_closedUnder_4]
    dsimp only
    refine br_f (nI_ge (b := 12) hk' (by decide)) (xc_bit (by omega) (fun ht => br_f (by decide) ?_) (fun ht => br_t rfl (nm_r (nI_1 k) ?_)))
    · rw [hp] at ht
      refine xc_closes W S hk' ht (fun hc => br_f (by decide) (nm_e (nm_r (nI_1 k) ?_))) (fun hc => br_t rfl (nm_r (nI_1 k) ?_))
      · rw [if_pos hc] at J; exact J
      · rw [if_neg (by rw [hc]; decide)] at J; exact J
    · rw [hp] at ht
      have hc : cf_k vs wn tb k = false := by unfold cf_k; rw [ht]; rfl
      rw [if_neg (by rw [hc]; decide)] at J; exact J
theorem xc_closed (W : cf_W vs zs na nb wn) (S : cf_X inp fp ch sz ea eb kd ga sr vs zs na nb wn tb) {post : Int32 → Prop} (h : post (sx_set (cf_k vs wn tb) 12)) : wpX_closedUnder post (fs, fp, ch, sz, ea, eb, kd, ga, sr, we, ro, se) inp :=
  ⟨13, xc_c4 W S h 12 0 rfl⟩
theorem xc_own (W : cf_W vs zs na nb wn) (S : cf_X inp fp ch sz ea eb kd ga sr vs zs na nb wn tb) {n : Nat} (hn : n < 11) {post : Int32 → Prop} (h : post (nI (zs n))) : wpX_ownWeight post (fs, fp, ch, sz, ea, eb, kd, ga, sr, we, ro, se) (nI n) := by
  unfold wpX_ownWeight
  dsimp only
  refine pk_le 5 n (fun h5 => ⟨vp_in_nI hn (by omega), ?_⟩) (fun h5 => ?_)
  · rw [nI_clamp (by omega), S.2.2.2.1 n h5 hn]; exact h
  · rw [W.2.2.2.2.1 n h5] at h; exact h
theorem xc_shut {k : Nat} (hk : k < 12) : bt (sx_set (cf_k vs wn tb) 12) k = cf_k vs wn tb k := by
  rw [sx_set_bt _ 12 (by omega) k (by omega), decide_eq_true hk, Bool.true_and]
theorem xc_tb {k : Nat} (h : cf_k vs wn tb k = true) : tb k = true := by
  unfold cf_k at h
  rw [Bool.and_eq_true] at h
  exact h.1
end
end
section
/-! ===== the component's trace ===== -/
section
variable {fs fp : Int32} {ch sz ea eb kd ga sr we ro se : Nat → Int32} {vs zs na nb wn : Nat → Nat} {tb : Nat → Bool} {inp : Int32}
def xw_N (wt : Nat → Nat) (we : Nat → Int32) : Prop := ∀ n, n < 11 → we n = nI (wt n) ∧ wt n ≤ 7
theorem xw_carry {wt : Nat → Nat} (hN : xw_N wt we) {p q s : Nat} (hp : p < 11) (hq : q < 11) (hs : s ≤ 6) {post : SX → Prop}
    (h : ∀ (wt' : Nat → Nat) (we' : Nat → Int32), xw_N wt' we' → (∀ x n, x ≤ wt' n ↔ x ≤ wt n ∨ (n = q ∧ 5 ≤ q ∧ x ≤ wt p ∧ x ≤ s)) → post (fs, fp, ch, sz, ea, eb, kd, ga, sr, we', ro, se)) : wpX_carryWeight post (fs, fp, ch, sz, ea, eb, kd, ga, sr, we, ro, se) (nI p) (nI q) (nI s) := by
  have h1 := hN p hp
  have h2 := hN q hq
  have hmp : Nat.min (wt p) s ≤ wt p := Nat.min_le_left _ _
  have hms : Nat.min (wt p) s ≤ s := Nat.min_le_right _ _
  unfold wpX_carryWeight
  dsimp only
  rw [nI_clamp (n := p) (by omega), nI_clamp (n := q) (by omega), h1.1, h2.1]
  refine ⟨vp_in_nI hp (by omega), xc_lesser (by omega) (by omega) (xc_store (by omega) (fun h5 _ => br_f (by decide) ⟨vp_in_nI hq (by omega), ?_⟩) (fun h5 => br_t rfl (h wt we hN ?_)))⟩
  · refine pk_le (Nat.min (wt p) s) (wt q) (fun hle => h wt we hN ?_) (fun hlt => ⟨vp_in_nI hq (by omega), nm_e (h (gp_u wt q (Nat.min (wt p) s)) _ ?_ ?_)⟩)
    · intro x n
      refine ⟨Or.inl, ?_⟩
      rintro (a | ⟨e, _, a, b⟩)
      · exact a
      · subst e
        have : x ≤ Nat.min (wt p) s := Nat.le_min.mpr ⟨a, b⟩
        omega
    · intro n hn
      by_cases c : n = q
      · subst c; rw [pk_us, gp_us]; exact ⟨rfl, by omega⟩
      · rw [pk_un c, gp_un c]; exact hN n hn
    · intro x n
      by_cases c : n = q
      · subst c
        rw [gp_us]
        constructor
        · intro a; exact Or.inr ⟨rfl, h5, by omega, by omega⟩
        · rintro (a | ⟨_, _, a, b⟩)
          · omega
          · exact Nat.le_min.mpr ⟨a, b⟩
      · rw [gp_un c]
        refine ⟨Or.inl, ?_⟩
        rintro (a | ⟨e, _⟩)
        · exact a
        · exact absurd e c
  · intro x n
    refine ⟨Or.inl, ?_⟩
    rintro (a | ⟨e, a, _⟩)
    · exact a
    · omega
theorem xw_35 (W : cf_W vs zs na nb wn) (S : cf_X inp fp ch sz ea eb kd ga sr vs zs na nb wn tb) {r : Nat} {post : SX → Prop} {J : Int32 → Int32 → Int32 → (Nat → Int32) → (Nat → Int32) → (Nat → Int32) → (Nat → Int32) → (Nat → Int32) → (Nat → Int32) → (Nat → Int32) → (Nat → Int32) → (Nat → Int32) → (Nat → Int32) → Prop}
    (hJ : ∀ (wt : Nat → Nat) (we : Nat → Int32), xw_N wt we → (∀ x, (∀ n, gl_L (fun n => n < 11 ∧ x ≤ zs n) (ne_T (cf_k vs wn tb) na nb (cf_s wn) x) (r + 1) n → n < 11 ∧ x ≤ wt n) ∧ (∀ n, n < 11 ∧ x ≤ wt n → ne_R (cf_k vs wn tb) na nb (cf_s wn) zs x n)) → J (nI (r + 1)) fs fp ch sz ea eb kd ga sr we ro se) :
    ∀ d k (wt : Nat → Nat) (we : Nat → Int32), k + d = 12 → xw_N wt we → (∀ x, gr_I (gl_L (fun n => n < 11 ∧ x ≤ zs n) (ne_T (cf_k vs wn tb) na nb (cf_s wn) x) r) (fun n => n < 11 ∧ x ≤ wt n) (ne_R (cf_k vs wn tb) na nb (cf_s wn) zs x) (ne_A (cf_k vs wn tb) na nb (cf_s wn) x) k) → wX_weigh_35 post J (sx_set (cf_k vs wn tb) 12) (nI r) (d + 1) (nI k) fs fp ch sz ea eb kd ga sr we ro se := by
  intro d
  induction d with
  | zero =>
    intro k wt we hk hN hI
    have e : k = 12 := by omega
    subst e
    exact br_t (by decide) (nm_r (nI_1 r) (hJ wt we hN (fun x => ⟨gr_e (fun p q h => ne_TA h) (hI x), (hI x).2.1⟩)))
  | succ d ih =>
    intro k wt we hk hN hI
    have hk' : k < 12 := by omega
    have hi : vp_in (nI k) 12 := vp_in_nI hk' (by omega)
    rw [wX_weigh_35]
    dsimp only
    rw [nI_clamp (n := k) (by omega)]
    refine br_f (nI_ge (b := 12) hk' (by decide)) (xc_bit (by omega) (fun hc => br_f (by decide) ?_) (fun hc => br_t rfl (nm_r (nI_1 k) (ih (k + 1) wt we (by omega) hN (fun x => gr_s (hI x) (fun n h => h) (hI x).2.1 ?_)))))
    · rw [xc_shut hk'] at hc
      obtain ⟨_, _, e3⟩ := S.2.2.2.2.2 k hk' (xc_tb hc)
      obtain ⟨e1, e2⟩ := S.2.2.2.2.1 k hk'
      obtain ⟨ha, hb, _⟩ := W.2.2.2.2.2.2 k hk'
      have hs := cf_s_le W k hk'
      rw [e1, e2, e3]
      refine ⟨hi, hi, hi, xw_carry hN ha hb hs ?_⟩
      intro wt1 we1 hN1 h1
      dsimp only
      rw [e1, e2, e3]
      refine ⟨hi, hi, hi, xw_carry hN1 hb ha hs ?_⟩
      intro wt2 we2 hN2 h2
      dsimp only
      refine nm_r (nI_1 k) (ih (k + 1) wt2 we2 (by omega) hN2 (fun x => ?_))
      have s1 : ∀ n, n < 11 ∧ x ≤ wt1 n → ne_R (cf_k vs wn tb) na nb (cf_s wn) zs x n := by
        rintro n ⟨hn, hx⟩
        rcases (h1 x n).mp hx with a | ⟨e, h5, a, b⟩
        · exact (hI x).2.1 n ⟨hn, a⟩
        · subst e
          exact gl_s ((hI x).2.1 _ ⟨ha, a⟩) ⟨h5, hn, k, hk', hc, b, Or.inl ⟨rfl, rfl⟩⟩
      refine gr_s (hI x) ?_ ?_ ?_
      · rintro n ⟨hn, hx⟩
        exact ⟨hn, (h2 x n).mpr (Or.inl ((h1 x n).mpr (Or.inl hx)))⟩
      · rintro n ⟨hn, hx⟩
        rcases (h2 x n).mp hx with a | ⟨e, h5, a, b⟩
        · exact s1 n ⟨hn, a⟩
        · subst e
          exact gl_s (s1 _ ⟨hb, a⟩) ⟨h5, hn, k, hk', hc, b, Or.inr ⟨rfl, rfl⟩⟩
      · rintro p q ⟨hp, hx⟩ ⟨h5, h11, _, hs', on⟩
        refine ⟨h11, ?_⟩
        rcases on with ⟨ep, eq⟩ | ⟨eq, ep⟩
        · subst ep eq
          exact (h2 x _).mpr (Or.inl ((h1 x _).mpr (Or.inr ⟨rfl, h5, hx, hs'⟩)))
        · subst ep eq
          exact (h2 x _).mpr (Or.inr ⟨rfl, h5, (h1 x _).mpr (Or.inl hx), hs'⟩)
    · rw [xc_shut hk'] at hc
      rintro p q _ ⟨_, _, h3, _⟩
      rw [hc] at h3
      exact absurd h3 (by decide)
theorem xw_27 (W : cf_W vs zs na nb wn) (S : cf_X inp fp ch sz ea eb kd ga sr vs zs na nb wn tb) {post : SX → Prop} (h : ∀ we : Nat → Int32, (∀ n, n < 11 → we n = nI ((ne_W (cf_k vs wn tb) na nb (cf_s wn) zs) n)) → post (fs, fp, ch, sz, ea, eb, kd, ga, sr, we, ro, se)) :
    ∀ d r (wt : Nat → Nat) (we : Nat → Int32), r + d = 11 → xw_N wt we → (∀ x, (∀ n, gl_L (fun n => n < 11 ∧ x ≤ zs n) (ne_T (cf_k vs wn tb) na nb (cf_s wn) x) r n → n < 11 ∧ x ≤ wt n) ∧ (∀ n, n < 11 ∧ x ≤ wt n → ne_R (cf_k vs wn tb) na nb (cf_s wn) zs x n)) → wX_weigh_27 post (sx_set (cf_k vs wn tb) 12) (d + 1) (nI r) fs fp ch sz ea eb kd ga sr we ro se := by
  intro d
  induction d with
  | zero =>
    intro r wt we hr hN hI
    have e : r = 11 := by omega
    subst e
    refine br_t (by decide) (h we ?_)
    intro n hn
    have : wt n = (ne_W (cf_k vs wn tb) na nb (cf_s wn) zs) n := by
      refine ne_W_eq (hN n hn).2 ?_
      intro x _ _
      refine ⟨fun hx => (hI x).2 n ⟨hn, hx⟩, fun hr => ((hI x).1 n (gl_fin ?_ ?_ hr)).2⟩
      · intro n h; exact h.1
      · intro p q e; exact e.2.1
    rw [(hN n hn).1, this]
  | succ d ih =>
    intro r wt we hr hN hI
    rw [wX_weigh_27]
    dsimp only
    refine br_f (nI_ge (b := 11) (by omega) (by decide)) ⟨13, xw_35 W S (fun wt' we' hN' hI' => ih (r + 1) wt' we' (by omega) hN' hI') 12 0 wt we rfl hN (fun x => gr_0 (hI x).1 (hI x).2)⟩
theorem xw_2 (W : cf_W vs zs na nb wn) (S : cf_X inp fp ch sz ea eb kd ga sr vs zs na nb wn tb) {post : SX → Prop} (h : ∀ we : Nat → Int32, (∀ n, n < 11 → we n = nI ((ne_W (cf_k vs wn tb) na nb (cf_s wn) zs) n)) → post (fs, fp, ch, sz, ea, eb, kd, ga, sr, we, ro, se)) :
    ∀ d k (we : Nat → Int32), k + d = 11 → (∀ n, n < k → we n = nI (zs n)) → wX_weigh_2 post (sx_set (cf_k vs wn tb) 12) fs fp (d + 1) (nI k) ch sz ea eb kd ga sr we ro se := by
  intro d
  induction d with
  | zero =>
    intro k we hk h0
    have e : k = 11 := by omega
    subst e
    refine br_t (by decide) ⟨12, xw_27 W S h 11 0 zs we rfl (fun n hn => ⟨h0 n hn, cf_z7 W n hn⟩) (fun x => ⟨fun n hn => hn, fun n hn => gl_b hn⟩)⟩
  | succ d ih =>
    intro k we hk h0
    have hk' : k < 11 := by omega
    rw [wX_weigh_2]
    dsimp only
    rw [nI_clamp (n := k) (by omega)]
    refine br_f (nI_ge (b := 11) hk' (by decide)) (xc_own W S hk' ⟨vp_in_nI hk' (by omega), nm_e (nm_r (nI_1 k) (ih (k + 1) _ (by omega) ?_))⟩)
    intro n hn
    by_cases c : n = k
    · subst c; exact pk_us
    · rw [pk_un c]; exact h0 n (by omega)
theorem xw_weigh (W : cf_W vs zs na nb wn) (S : cf_X inp fp ch sz ea eb kd ga sr vs zs na nb wn tb) {post : SX → Prop} (h : ∀ we : Nat → Int32, (∀ n, n < 11 → we n = nI ((ne_W (cf_k vs wn tb) na nb (cf_s wn) zs) n)) → post (fs, fp, ch, sz, ea, eb, kd, ga, sr, we, ro, se)) : wpX_weigh post (fs, fp, ch, sz, ea, eb, kd, ga, sr, we, ro, se) (sx_set (cf_k vs wn tb) 12) :=
  ⟨12, xw_2 W S h 11 0 we rfl (fun n hn => by omega)⟩
/-! roots -/
theorem xr_carry (hE : ∀ n, n < 11 → we n = nI ((ne_W (cf_k vs wn tb) na nb (cf_s wn) zs) n)) {p q s : Nat} (hp : p < 11) (hq : q < 11) (hs : s ≤ 6) {post : SX → Prop}
    (h : ∀ (ro' : Nat → Int32), (∀ m n, bt (ro' n) m = true ↔ bt (ro n) m = true ∨ (n = q ∧ 5 ≤ q ∧ Nat.min ((ne_W (cf_k vs wn tb) na nb (cf_s wn) zs) p) s = (ne_W (cf_k vs wn tb) na nb (cf_s wn) zs) q ∧ bt (ro p) m = true)) → post (fs, fp, ch, sz, ea, eb, kd, ga, sr, we, ro', se)) : wpX_carryRoots post (fs, fp, ch, sz, ea, eb, kd, ga, sr, we, ro, se) (nI p) (nI q) (nI s) := by
  have h1 := hE p hp
  have h2 := hE q hq
  have hW1 := ne_W_le (cf_k vs wn tb) na nb (cf_s wn) zs p
  have hW2 := ne_W_le (cf_k vs wn tb) na nb (cf_s wn) zs q
  have hmp : Nat.min ((ne_W (cf_k vs wn tb) na nb (cf_s wn) zs) p) s ≤ s := Nat.min_le_right _ _
  unfold wpX_carryRoots
  dsimp only
  rw [nI_clamp (n := p) (by omega), nI_clamp (n := q) (by omega), h1, h2]
  refine ⟨vp_in_nI hp (by omega), xc_lesser (by omega) (by omega) (xc_store (by omega) (fun h5 _ => br_f (by decide) ⟨vp_in_nI hq (by omega), ?_⟩) (fun h5 => br_t rfl (h ro ?_)))⟩
  · refine pk_eq (Nat.min ((ne_W (cf_k vs wn tb) na nb (cf_s wn) zs) p) s) ((ne_W (cf_k vs wn tb) na nb (cf_s wn) zs) q) (fun e => ⟨vp_in_nI hq (by omega), vp_in_nI hp (by omega), vp_in_nI hq (by omega), nm_e (h _ ?_)⟩) (fun e => h ro ?_)
    · intro m n
      by_cases c : n = q
      · subst c
        rw [pk_us, b_or, Bool.or_eq_true]
        constructor
        · rintro (a | a)
          · exact Or.inl a
          · exact Or.inr ⟨rfl, h5, e, a⟩
        · rintro (a | ⟨_, _, _, a⟩)
          · exact Or.inl a
          · exact Or.inr a
      · rw [pk_un c]
        refine ⟨Or.inl, ?_⟩
        rintro (a | ⟨z, _⟩)
        · exact a
        · exact absurd z c
    · intro m n
      refine ⟨Or.inl, ?_⟩
      rintro (a | ⟨_, _, z, _⟩)
      · exact a
      · exact absurd z e
  · intro m n
    refine ⟨Or.inl, ?_⟩
    rintro (a | ⟨_, z, _⟩)
    · exact a
    · omega
theorem xr_51 (W : cf_W vs zs na nb wn) (S : cf_X inp fp ch sz ea eb kd ga sr vs zs na nb wn tb) (hE : ∀ n, n < 11 → we n = nI ((ne_W (cf_k vs wn tb) na nb (cf_s wn) zs) n)) {r : Nat} {post : SX → Prop} {J : Int32 → Int32 → Int32 → (Nat → Int32) → (Nat → Int32) → (Nat → Int32) → (Nat → Int32) → (Nat → Int32) → (Nat → Int32) → (Nat → Int32) → (Nat → Int32) → (Nat → Int32) → (Nat → Int32) → Prop}
    (hJ : ∀ (ro : Nat → Int32), (∀ m, m < 32 → (∀ n, gl_L (fun n => n = m ∧ n < 11 ∧ (ne_W (cf_k vs wn tb) na nb (cf_s wn) zs) n = zs n) (ne_Qe (cf_k vs wn tb) na nb (cf_s wn) (ne_W (cf_k vs wn tb) na nb (cf_s wn) zs)) (r + 1) n → n < 11 ∧ bt (ro n) m = true) ∧ (∀ n, n < 11 ∧ bt (ro n) m = true → ne_Q (cf_k vs wn tb) na nb (cf_s wn) zs (ne_W (cf_k vs wn tb) na nb (cf_s wn) zs) m n)) → J (nI (r + 1)) fs fp ch sz ea eb kd ga sr we ro se) :
    ∀ d k (ro : Nat → Int32), k + d = 12 → (∀ m, m < 32 → gr_I (gl_L (fun n => n = m ∧ n < 11 ∧ (ne_W (cf_k vs wn tb) na nb (cf_s wn) zs) n = zs n) (ne_Qe (cf_k vs wn tb) na nb (cf_s wn) (ne_W (cf_k vs wn tb) na nb (cf_s wn) zs)) r) (fun n => n < 11 ∧ bt (ro n) m = true) (ne_Q (cf_k vs wn tb) na nb (cf_s wn) zs (ne_W (cf_k vs wn tb) na nb (cf_s wn) zs) m) (ne_q (cf_k vs wn tb) na nb (cf_s wn) (ne_W (cf_k vs wn tb) na nb (cf_s wn) zs)) k) → wX_findRoots_51 post J (sx_set (cf_k vs wn tb) 12) (nI r) (d + 1) (nI k) fs fp ch sz ea eb kd ga sr we ro se := by
  intro d
  induction d with
  | zero =>
    intro k ro hk hI
    have e : k = 12 := by omega
    subst e
    exact br_t (by decide) (nm_r (nI_1 r) (hJ ro (fun m hm => ⟨gr_e (fun p q h => h) (hI m hm), (hI m hm).2.1⟩)))
  | succ d ih =>
    intro k ro hk hI
    have hk' : k < 12 := by omega
    have hi : vp_in (nI k) 12 := vp_in_nI hk' (by omega)
    rw [wX_findRoots_51]
    dsimp only
    rw [nI_clamp (n := k) (by omega)]
    refine br_f (nI_ge (b := 12) hk' (by decide)) (xc_bit (by omega) (fun hc => br_f (by decide) ?_) (fun hc => br_t rfl (nm_r (nI_1 k) (ih (k + 1) ro (by omega) (fun m hm => gr_s (hI m hm) (fun n h => h) (hI m hm).2.1 ?_)))))
    · rw [xc_shut hk'] at hc
      obtain ⟨_, _, e3⟩ := S.2.2.2.2.2 k hk' (xc_tb hc)
      obtain ⟨e1, e2⟩ := S.2.2.2.2.1 k hk'
      obtain ⟨ha, hb, _⟩ := W.2.2.2.2.2.2 k hk'
      have hs := cf_s_le W k hk'
      rw [e1, e2, e3]
      refine ⟨hi, hi, hi, xr_carry hE ha hb hs ?_⟩
      intro ro1 h1
      dsimp only
      rw [e1, e2, e3]
      refine ⟨hi, hi, hi, xr_carry hE hb ha hs ?_⟩
      intro ro2 h2
      dsimp only
      refine nm_r (nI_1 k) (ih (k + 1) ro2 (by omega) (fun m hm => ?_))
      have s1 : ∀ n, n < 11 ∧ bt (ro1 n) m = true → ne_Q (cf_k vs wn tb) na nb (cf_s wn) zs (ne_W (cf_k vs wn tb) na nb (cf_s wn) zs) m n := by
        rintro n ⟨hn, hx⟩
        rcases (h1 m n).mp hx with a | ⟨e, h5, a, b⟩
        · exact (hI m hm).2.1 n ⟨hn, a⟩
        · subst e
          exact gl_s ((hI m hm).2.1 _ ⟨ha, b⟩) ⟨k, hk', h5, hn, hc, Or.inl ⟨rfl, rfl⟩, a⟩
      refine gr_s (hI m hm) ?_ ?_ ?_
      · rintro n ⟨hn, hx⟩
        exact ⟨hn, (h2 m n).mpr (Or.inl ((h1 m n).mpr (Or.inl hx)))⟩
      · rintro n ⟨hn, hx⟩
        rcases (h2 m n).mp hx with a | ⟨e, h5, a, b⟩
        · exact s1 n ⟨hn, a⟩
        · subst e
          exact gl_s (s1 _ ⟨hb, b⟩) ⟨k, hk', h5, hn, hc, Or.inr ⟨rfl, rfl⟩, a⟩
      · rintro p q ⟨hp, hx⟩ ⟨h5, h11, _, on, hs'⟩
        refine ⟨h11, ?_⟩
        rcases on with ⟨ep, eq⟩ | ⟨eq, ep⟩
        · subst ep eq
          exact (h2 m _).mpr (Or.inl ((h1 m _).mpr (Or.inr ⟨rfl, h5, hs', hx⟩)))
        · subst ep eq
          exact (h2 m _).mpr (Or.inr ⟨rfl, h5, hs', (h1 m _).mpr (Or.inl hx)⟩)
    · rw [xc_shut hk'] at hc
      rintro p q _ ⟨_, _, h3, _⟩
      rw [hc] at h3
      exact absurd h3 (by decide)
theorem xr_43 (W : cf_W vs zs na nb wn) (S : cf_X inp fp ch sz ea eb kd ga sr vs zs na nb wn tb) (hE : ∀ n, n < 11 → we n = nI ((ne_W (cf_k vs wn tb) na nb (cf_s wn) zs) n)) {post : SX → Prop} (h : ∀ ro : Nat → Int32, (∀ n, n < 11 → ro n = ne_rt (cf_k vs wn tb) na nb (cf_s wn) zs (ne_W (cf_k vs wn tb) na nb (cf_s wn) zs) n) → post (fs, fp, ch, sz, ea, eb, kd, ga, sr, we, ro, se)) :
    ∀ d r (ro : Nat → Int32), r + d = 11 → (∀ m, m < 32 → (∀ n, gl_L (fun n => n = m ∧ n < 11 ∧ (ne_W (cf_k vs wn tb) na nb (cf_s wn) zs) n = zs n) (ne_Qe (cf_k vs wn tb) na nb (cf_s wn) (ne_W (cf_k vs wn tb) na nb (cf_s wn) zs)) r n → n < 11 ∧ bt (ro n) m = true) ∧ (∀ n, n < 11 ∧ bt (ro n) m = true → ne_Q (cf_k vs wn tb) na nb (cf_s wn) zs (ne_W (cf_k vs wn tb) na nb (cf_s wn) zs) m n)) → wX_findRoots_43 post (sx_set (cf_k vs wn tb) 12) (d + 1) (nI r) fs fp ch sz ea eb kd ga sr we ro se := by
  intro d
  induction d with
  | zero =>
    intro r ro hr hI
    have e : r = 11 := by omega
    subst e
    refine br_t (by decide) (h ro ?_)
    intro n hn
    refine ne_rt_eq (fun i hi => ⟨fun z => (hI i hi).2 n ⟨hn, z⟩, fun z => ((hI i hi).1 n (gl_fin ?_ ?_ z)).2⟩)
    · intro n h; exact h.2.1
    · rintro p q ⟨_, _, e⟩; exact e.2.1
  | succ d ih =>
    intro r ro hr hI
    rw [wX_findRoots_43]
    dsimp only
    refine br_f (nI_ge (b := 11) (by omega) (by decide)) ⟨13, xr_51 W S hE (fun ro' hI' => ih (r + 1) ro' (by omega) hI') 12 0 ro rfl (fun m hm => gr_0 (hI m hm).1 (hI m hm).2)⟩
theorem xr_2 (W : cf_W vs zs na nb wn) (S : cf_X inp fp ch sz ea eb kd ga sr vs zs na nb wn tb) (hE : ∀ n, n < 11 → we n = nI ((ne_W (cf_k vs wn tb) na nb (cf_s wn) zs) n)) {post : SX → Prop} (h : ∀ ro : Nat → Int32, (∀ n, n < 11 → ro n = ne_rt (cf_k vs wn tb) na nb (cf_s wn) zs (ne_W (cf_k vs wn tb) na nb (cf_s wn) zs) n) → post (fs, fp, ch, sz, ea, eb, kd, ga, sr, we, ro, se)) :
    ∀ d k (ro : Nat → Int32), k + d = 11 → (∀ n, n < k → ∀ m, m < 32 → (bt (ro n) m = true ↔ n = m ∧ n < 11 ∧ (ne_W (cf_k vs wn tb) na nb (cf_s wn) zs) n = zs n)) → wX_findRoots_2 post (sx_set (cf_k vs wn tb) 12) fs fp (d + 1) (nI k) ch sz ea eb kd ga sr we ro se := by
  intro d
  induction d with
  | zero =>
    intro k ro hk h0
    have e : k = 11 := by omega
    subst e
    refine br_t (by decide) ⟨12, xr_43 W S hE h 11 0 ro rfl (fun m hm => ⟨fun n hn => ?_, fun n hn => gl_b ((h0 n hn.1 m hm).mp hn.2)⟩)⟩
    have hn' : n = m ∧ n < 11 ∧ (ne_W (cf_k vs wn tb) na nb (cf_s wn) zs) n = zs n := hn
    exact ⟨hn'.2.1, (h0 n hn'.2.1 m hm).mpr hn'⟩
  | succ d ih =>
    intro k ro hk h0
    have hk' : k < 11 := by omega
    have hi : vp_in (nI k) 11 := vp_in_nI hk' (by omega)
    have hW1 := ne_W_le (cf_k vs wn tb) na nb (cf_s wn) zs k
    have hz1 := cf_z7 W k hk'
    rw [wX_findRoots_2]
    dsimp only
    rw [nI_clamp (n := k) (by omega), hE k hk']
    refine br_f (nI_ge (b := 11) hk' (by decide)) ⟨hi, xc_own W S hk' (pk_eq ((ne_W (cf_k vs wn tb) na nb (cf_s wn) zs) k) (zs k) (fun e => ⟨hi, nm_e (nm_r (nI_1 k) (ih (k + 1) _ (by omega) ?_))⟩) (fun e => ⟨hi, nm_e (nm_r (nI_1 k) (ih (k + 1) _ (by omega) ?_))⟩))⟩
    · intro n hn m hm
      by_cases c : n = k
      · subst c
        rw [pk_us, sx_bit (by omega) hm, decide_eq_true_eq]
        exact ⟨fun z => ⟨z.symm, hk', e⟩, fun z => z.1.symm⟩
      · rw [pk_un c]; exact h0 n (by omega) m hm
    · intro n hn m hm
      by_cases c : n = k
      · subst c
        rw [pk_us, b_0]
        exact ⟨fun z => absurd z (by decide), fun z => absurd z.2.2 e⟩
      · rw [pk_un c]; exact h0 n (by omega) m hm
theorem xr_trace (W : cf_W vs zs na nb wn) (S : cf_X inp fp ch sz ea eb kd ga sr vs zs na nb wn tb) {post : SX → Prop} (h : ∀ we ro : Nat → Int32, (∀ n, n < 11 → we n = nI ((ne_W (cf_k vs wn tb) na nb (cf_s wn) zs) n)) → (∀ n, n < 11 → ro n = ne_rt (cf_k vs wn tb) na nb (cf_s wn) zs (ne_W (cf_k vs wn tb) na nb (cf_s wn) zs) n) → post (fs, fp, ch, sz, ea, eb, kd, ga, sr, we, ro, se)) : wpX_trace post (fs, fp, ch, sz, ea, eb, kd, ga, sr, we, ro, se) inp := by
  unfold wpX_trace
  dsimp only
  refine xc_closed W S (xw_weigh W S ?_)
  intro we hE
  exact ⟨12, xr_2 W S hE (fun ro hr => h we ro hE hr) 11 0 ro rfl (fun n hn => by omega)⟩
end
end
section
/-! ===== outcome, spread, touchesOne, shorted ===== -/
section
variable {fs fp : Int32} {ch sz ea eb kd ga sr we ro se : Nat → Int32} {vs zs na nb wn : Nat → Nat} {tb : Nat → Bool} {inp : Int32}
theorem xo_52 (W : cf_W vs zs na nb wn) {m : Nat} (hm : m < 11) {post : Int32 → Prop} {J : Int32 → Int32 → Int32 → Prop} {x1 x2 z : Int32} {o : Bool} (h : J z (oc_i (o && decide (vs m = 1))) (nI (m + 1))) : wX_outcome_52 post J x1 x2 (oc_i o) (nI m) (nI (vs m)) z fs fp ch sz ea eb kd ga sr we ro se := by
  have hv := W.2.2.2.1 m hm
  unfold wX_outcome_52
  rw [oc_e1 hv]
  cases o with
  | false => exact br_t rfl (nm_r (nI_1 m) h)
  | true =>
    refine br_f (by decide) (br_c (fun e => nm_r (nI_1 m) ?_) (fun e => nm_r (nI_1 m) ?_))
    · rw [decide_eq_true e] at h; exact h
    · rw [decide_eq_false e] at h; exact h
theorem xo_8 (W : cf_W vs zs na nb wn) (S : cf_X inp fp ch sz ea eb kd ga sr vs zs na nb wn tb) {n : Nat} (hn : n < 11) {post : Int32 → Prop} (h : post (nI (oc_v (ro n) vs))) : ∀ d m, m + d = 11 → wX_outcome_8 post (nI n) inp fs fp ch sz ea eb kd ga sr we ro se (d + 1) (oc_i (oc_a 0 (ro n) vs m)) (oc_i (oc_a 1 (ro n) vs m)) (nI m) := by
  intro d
  induction d with
  | zero =>
    intro m hm
    have e : m = 11 := by omega
    subst e
    exact br_t (by decide) (oc_end h)
  | succ d ih =>
    intro m hm
    have hm' : m < 11 := by omega
    have hv := W.2.2.2.1 m hm'
    have J := ih (m + 1) (by omega)
    rw [wX_outcome_8]
    dsimp only
    rw [nI_clamp (n := n) (by omega)]
    refine br_f (nI_ge (b := 11) hm' (by decide)) ⟨vp_in_nI hn (by omega), xc_bit (by omega) (fun hb => br_f (by decide) (xc_value W S hm' ?_)) (fun hb => br_t rfl (nm_r (nI_1 m) ?_))⟩
    · rw [oc_aY hb, oc_aY hb] at J
      unfold wX_outcome_51
      rw [oc_e0 hv]
      cases hz : oc_a 0 (ro n) vs m with
      | false =>
        rw [hz] at J
        exact br_t rfl (xo_52 W hm' J)
      | true =>
        rw [hz] at J
        refine br_f (by decide) (br_c (fun e => xo_52 W hm' ?_) (fun e => xo_52 W hm' ?_))
        · rw [decide_eq_true e] at J; exact J
        · rw [decide_eq_false e] at J; exact J
    · rw [oc_aN hb, oc_aN hb] at J
      exact J
theorem xo_outcome (W : cf_W vs zs na nb wn) (S : cf_X inp fp ch sz ea eb kd ga sr vs zs na nb wn tb) {n : Nat} (hn : n < 11) {post : Int32 → Prop} (h : post (nI (oc_v (ro n) vs))) : wpX_outcome post (fs, fp, ch, sz, ea, eb, kd, ga, sr, we, ro, se) (nI n) inp :=
  ⟨12, xo_8 W S hn h 11 0 rfl⟩
def xs_A (x : Int32) (p q : Nat) (x' : Int32) : Prop := ∀ n, bt x' n = true ↔ bt x n = true ∨ (n = q ∧ 5 ≤ q ∧ q < 11 ∧ bt x p = true)
theorem xs_or {x : Int32} {p q : Nat} (h5 : 5 ≤ q) (h11 : q < 11) (hb : bt x p = true) : xs_A x p q (x ||| ((1 : Int32) <<< (nI q &&& 31))) := by
  intro n
  by_cases h32 : n < 32
  · rw [b_or, sx_bit (by omega) h32, Bool.or_eq_true, decide_eq_true_eq]
    exact ⟨fun z => z.elim Or.inl (fun e => Or.inr ⟨e, h5, h11, hb⟩), fun z => z.elim Or.inl (fun e => Or.inr e.1)⟩
  · rw [b_big (by omega), b_big (by omega)]
    exact ⟨fun z => absurd z (by decide), fun z => z.elim (fun z => absurd z (by decide)) (fun e => by omega)⟩
theorem xs_no {x : Int32} {p q : Nat} (h : ¬ (5 ≤ q ∧ q < 11 ∧ bt x p = true)) : xs_A x p q x :=
  fun _ => ⟨Or.inl, fun z => z.elim (fun z => z) (fun e => absurd ⟨e.2.1, e.2.2.1, e.2.2.2⟩ h)⟩
theorem xs_72 (W : cf_W vs zs na nb wn) (S : cf_X inp fp ch sz ea eb kd ga sr vs zs na nb wn tb) {k : Nat} (hk : k < 12) {post : Int32 → Prop} {J7 J : Int32 → Int32 → Prop} {x2 x x4 : Int32} (hJ : ∀ x', xs_A x (nb k) (na k) x' → J x' (nI (k + 1))) : wX_spread_72 post J7 J x2 x x4 (nI k) fs fp ch sz ea eb kd ga sr we ro se := by
  have hi : vp_in (nI k) 12 := vp_in_nI hk (by omega)
  obtain ⟨e1, e2⟩ := S.2.2.2.2.1 k hk
  obtain ⟨ha, hb, _⟩ := W.2.2.2.2.2.2 k hk
  unfold wX_spread_72
  rw [nI_clamp (n := k) (by omega), e1, e2]
  refine ⟨hi, xc_bit (by omega) (fun h1 => br_f (by decide) ⟨hi, xc_store (by omega) (fun h5 h11 => br_f (by decide) ⟨hi, nm_e (nm_r (nI_1 k) (hJ _ (xs_or h5 h11 h1)))⟩) (fun h5 => br_t rfl (nm_r (nI_1 k) (hJ _ (xs_no (fun z => h5 ⟨z.1, z.2.1⟩)))))⟩) (fun h1 => br_t rfl (nm_r (nI_1 k) (hJ _ (xs_no (fun z => ?_)))))⟩
  rw [h1] at z
  exact absurd z.2.2 (by decide)
theorem xs_17 (W : cf_W vs zs na nb wn) (S : cf_X inp fp ch sz ea eb kd ga sr vs zs na nb wn tb) {m0 r : Nat} {post : Int32 → Prop} {J : Int32 → Int32 → Prop} (hJ : ∀ x, (∀ n, gl_L (fun n => n = m0) (ne_T (cf_k vs wn tb) na nb (cf_s wn) 0) (r + 1) n → bt x n = true) → (∀ n, bt x n = true → ne_H (cf_k vs wn tb) na nb (cf_s wn) m0 n) → J x (nI (r + 1))) :
    ∀ d k x, k + d = 12 → gr_I (gl_L (fun n => n = m0) (ne_T (cf_k vs wn tb) na nb (cf_s wn) 0) r) (fun n => bt x n = true) (ne_H (cf_k vs wn tb) na nb (cf_s wn) m0) (ne_A (cf_k vs wn tb) na nb (cf_s wn) 0) k → wX_spread_17 post J (sx_set (cf_k vs wn tb) 12) (nI r) fs fp ch sz ea eb kd ga sr we ro se (d + 1) x (nI k) := by
  intro d
  induction d with
  | zero =>
    intro k x hk hI
    have e : k = 12 := by omega
    subst e
    exact br_t (by decide) (nm_r (nI_1 r) (hJ x (gr_e (fun p q h => ne_TA h) hI) hI.2.1))
  | succ d ih =>
    intro k x hk hI
    have hk' : k < 12 := by omega
    have hi : vp_in (nI k) 12 := vp_in_nI hk' (by omega)
    obtain ⟨e1, e2⟩ := S.2.2.2.2.1 k hk'
    obtain ⟨ha, hb, _⟩ := W.2.2.2.2.2.2 k hk'
    rw [wX_spread_17]
    dsimp only
    rw [nI_clamp (n := k) (by omega), e1, e2]
    refine br_f (nI_ge (b := 12) hk' (by decide)) (xc_bit (by omega) (fun hc => br_f (by decide) ⟨hi, ?_⟩) (fun hc => br_t rfl (nm_r (nI_1 k) (ih (k + 1) x (by omega) (gr_s hI (fun n h => h) hI.2.1 ?_)))))
    · rw [xc_shut hk'] at hc
      have go : ∀ x1, xs_A x (na k) (nb k) x1 → wX_spread_72 post J (wX_spread_17 post J (sx_set (cf_k vs wn tb) 12) (nI r) fs fp ch sz ea eb kd ga sr we ro se (d + 1)) (sx_set (cf_k vs wn tb) 12) x1 (nI r) (nI k) fs fp ch sz ea eb kd ga sr we ro se := by
        intro x1 h1
        refine xs_72 W S hk' ?_
        intro x2 h2
        refine ih (k + 1) x2 (by omega) ?_
        have s1 : ∀ n, bt x1 n = true → ne_H (cf_k vs wn tb) na nb (cf_s wn) m0 n := by
          intro n hn
          rcases (h1 n).mp hn with a | ⟨e, h5, h11, a⟩
          · exact hI.2.1 n a
          · subst e
            exact gl_s (hI.2.1 _ a) ⟨h5, h11, k, hk', hc, Nat.zero_le _, Or.inl ⟨rfl, rfl⟩⟩
        refine gr_s hI ?_ ?_ ?_
        · intro n hn
          exact (h2 n).mpr (Or.inl ((h1 n).mpr (Or.inl hn)))
        · intro n hn
          rcases (h2 n).mp hn with a | ⟨e, h5, h11, a⟩
          · exact s1 n a
          · subst e
            exact gl_s (s1 _ a) ⟨h5, h11, k, hk', hc, Nat.zero_le _, Or.inr ⟨rfl, rfl⟩⟩
        · rintro p q hp ⟨h5, h11, _, _, on⟩
          rcases on with ⟨ep, eq⟩ | ⟨eq, ep⟩
          · subst ep eq
            exact (h2 _).mpr (Or.inl ((h1 _).mpr (Or.inr ⟨rfl, h5, h11, hp⟩)))
          · subst ep eq
            exact (h2 _).mpr (Or.inr ⟨rfl, h5, h11, (h1 _).mpr (Or.inl hp)⟩)
      refine xc_bit (by omega) (fun h1 => br_f (by decide) ⟨hi, xc_store (by omega) (fun h5 h11 => br_f (by decide) ⟨hi, nm_e (go _ (xs_or h5 h11 h1))⟩) (fun h5 => br_t rfl (go _ (xs_no (fun z => h5 ⟨z.1, z.2.1⟩))))⟩) (fun h1 => br_t rfl (go _ (xs_no (fun z => ?_))))
      rw [h1] at z
      exact absurd z.2.2 (by decide)
    · rw [xc_shut hk'] at hc
      rintro p q _ ⟨_, _, h3, _⟩
      rw [hc] at h3
      exact absurd h3 (by decide)
theorem xs_7 (W : cf_W vs zs na nb wn) (S : cf_X inp fp ch sz ea eb kd ga sr vs zs na nb wn tb) {m0 : Nat} (hm0 : m0 < 11) {post : Int32 → Prop} (h : post (ne_rs (cf_k vs wn tb) na nb (cf_s wn) m0)) : ∀ d r x, r + d = 11 → (∀ n, gl_L (fun n => n = m0) (ne_T (cf_k vs wn tb) na nb (cf_s wn) 0) r n → bt x n = true) → (∀ n, bt x n = true → ne_H (cf_k vs wn tb) na nb (cf_s wn) m0 n) → wX_spread_7 post (sx_set (cf_k vs wn tb) 12) fs fp ch sz ea eb kd ga sr we ro se (d + 1) x (nI r) := by
  intro d
  induction d with
  | zero =>
    intro r x hr h1 h2
    have e : r = 11 := by omega
    subst e
    have : x = ne_rs (cf_k vs wn tb) na nb (cf_s wn) m0 := by
      refine ne_rs_eq hm0 (fun i hi => ⟨h2 i, fun z => h1 i (gl_fin ?_ ?_ z)⟩)
      · intro n e; omega
      · intro p q e; exact e.2.1
    subst this
    exact br_t (by decide) h
  | succ d ih =>
    intro r x hr h1 h2
    rw [wX_spread_7]
    dsimp only
    refine br_f (nI_ge (b := 11) (by omega) (by decide)) ⟨13, xs_17 W S (m0 := m0) (fun x' h1' h2' => ih (r + 1) x' (by omega) h1' h2') 12 0 x rfl (gr_0 h1 h2)⟩
theorem xs_spread (W : cf_W vs zs na nb wn) (S : cf_X inp fp ch sz ea eb kd ga sr vs zs na nb wn tb) {m0 : Nat} (hm0 : m0 < 11) {post : Int32 → Prop} (h : post (ne_rs (cf_k vs wn tb) na nb (cf_s wn) m0)) : wpX_spread post (fs, fp, ch, sz, ea, eb, kd, ga, sr, we, ro, se) (nI m0) (sx_set (cf_k vs wn tb) 12) := by
  unfold wpX_spread
  dsimp only
  refine nm_e ⟨12, xs_7 W S hm0 h 11 0 _ rfl ?_ ?_⟩
  · intro n e
    have e' : n = m0 := e
    subst e'
    rw [sx_bit (by omega) (by omega), decide_eq_true rfl]
  · intro n hn
    by_cases h32 : n < 32
    · rw [sx_bit (by omega) h32, decide_eq_true_eq] at hn
      exact gl_b hn
    · rw [b_big (by omega)] at hn
      exact absurd hn (by decide)
/-! shorted -/
def sh_P (vs na nb wn : Nat → Nat) (tb : Nat → Bool) (n : Nat) : Prop := vs n = 0 ∧ ∃ p q, ne_H (cf_k vs wn tb) na nb (cf_s wn) n p ∧ q < 5 ∧ vs q = 1 ∧ ne_E (cf_k vs wn tb) na nb (cf_s wn) 0 p q
def sh_t (vs na nb wn : Nat → Nat) (tb : Nat → Bool) (R : Int32) (k : Nat) : Prop := cf_k vs wn tb k = true ∧ ((bt R (na k) = true ∧ nb k < 5 ∧ vs (nb k) = 1) ∨ (bt R (nb k) = true ∧ na k < 5 ∧ vs (na k) = 1))
theorem sh_tP (W : cf_W vs zs na nb wn) {n : Nat} (hn : n < 11) (h0 : vs n = 0) : (∃ k, k < 12 ∧ sh_t vs na nb wn tb (ne_rs (cf_k vs wn tb) na nb (cf_s wn) n) k) ↔ sh_P vs na nb wn tb n := by
  constructor
  · rintro ⟨k, hk, hc, ⟨a, b, c⟩ | ⟨a, b, c⟩⟩
    · obtain ⟨ha, hb, _⟩ := W.2.2.2.2.2.2 k hk
      exact ⟨h0, na k, nb k, (ne_rs_bt hn (by omega)).mp a, b, c, k, hk, hc, Nat.zero_le _, Or.inl ⟨rfl, rfl⟩⟩
    · obtain ⟨ha, hb, _⟩ := W.2.2.2.2.2.2 k hk
      exact ⟨h0, nb k, na k, (ne_rs_bt hn (by omega)).mp a, b, c, k, hk, hc, Nat.zero_le _, Or.inr ⟨rfl, rfl⟩⟩
  · rintro ⟨_, p, q, hp, hq, hv, k, hk, hc, _, on⟩
    obtain ⟨ha, hb, _⟩ := W.2.2.2.2.2.2 k hk
    refine ⟨k, hk, hc, ?_⟩
    rcases on with ⟨e1, e2⟩ | ⟨e1, e2⟩
    · subst e1 e2
      exact Or.inl ⟨(ne_rs_bt hn (by omega)).mpr hp, hq, hv⟩
    · subst e1 e2
      exact Or.inr ⟨(ne_rs_bt hn (by omega)).mpr hp, hq, hv⟩
theorem xs_inOne (W : cf_W vs zs na nb wn) (S : cf_X fs fp ch sz ea eb kd ga sr vs zs na nb wn tb) {q : Nat} (hq : q < 11) {post : Int32 → Prop} (h1 : q < 5 → vs q = 1 → post 1) (h0 : ¬ (q < 5 ∧ vs q = 1) → post 0) : wpX_isInputAtOne post (fs, fp, ch, sz, ea, eb, kd, ga, sr, we, ro, se) (nI q) := by
  have hv := W.2.2.2.1 q hq
  unfold wpX_isInputAtOne
  dsimp only
  refine pk_le 5 q (fun h => h0 (by omega)) (fun h => xc_value W S hq ?_)
  exact pk_eq (vs q) 1 (fun e => h1 h e) (fun e => h0 (fun z => e z.2))
theorem xs_44 (W : cf_W vs zs na nb wn) (S : cf_X fs fp ch sz ea eb kd ga sr vs zs na nb wn tb) {R x2 : Int32} {k : Nat} (hk : k < 12) {post J : Int32 → Prop} (h1 : bt R (nb k) = true → na k < 5 → vs (na k) = 1 → post 1) (h0 : ¬ (bt R (nb k) = true ∧ na k < 5 ∧ vs (na k) = 1) → J (nI (k + 1))) : wX_touchesOne_44 post J R x2 (nI k) fs fp ch sz ea eb kd ga sr we ro se := by
  have hi : vp_in (nI k) 12 := vp_in_nI hk (by omega)
  obtain ⟨e1, e2⟩ := S.2.2.2.2.1 k hk
  obtain ⟨ha, hb, _⟩ := W.2.2.2.2.2.2 k hk
  unfold wX_touchesOne_44
  rw [nI_clamp (n := k) (by omega), e1, e2]
  refine ⟨hi, xc_bit (by omega) (fun b1 => br_f (by decide) ⟨hi, xs_inOne W S ha (fun a b => br_f (by decide) (h1 b1 a b)) (fun z => br_t rfl (nm_r (nI_1 k) (h0 (fun y => z y.2))))⟩) (fun b1 => br_t rfl (nm_r (nI_1 k) (h0 (fun y => ?_))))⟩
  rw [b1] at y
  exact absurd y.1 (by decide)
theorem xs_t2 (W : cf_W vs zs na nb wn) (S : cf_X fs fp ch sz ea eb kd ga sr vs zs na nb wn tb) {R : Int32} {post : Int32 → Prop} (h1 : (∃ k, k < 12 ∧ sh_t vs na nb wn tb R k) → post 1) (h0 : ¬ (∃ k, k < 12 ∧ sh_t vs na nb wn tb R k) → post 0) : ∀ d k, k + d = 12 → (∀ j, j < k → ¬ sh_t vs na nb wn tb R j) → wX_touchesOne_2 post R (sx_set (cf_k vs wn tb) 12) fs fp ch sz ea eb kd ga sr we ro se (d + 1) (nI k) := by
  intro d
  induction d with
  | zero =>
    intro k hk hn
    have e : k = 12 := by omega
    subst e
    exact br_t (by decide) (h0 (fun ⟨j, hj, z⟩ => hn j hj z))
  | succ d ih =>
    intro k hk hn
    have hk' : k < 12 := by omega
    have hi : vp_in (nI k) 12 := vp_in_nI hk' (by omega)
    obtain ⟨e1, e2⟩ := S.2.2.2.2.1 k hk'
    obtain ⟨ha, hb, _⟩ := W.2.2.2.2.2.2 k hk'
    have next : ¬ sh_t vs na nb wn tb R k → wX_touchesOne_2 post R (sx_set (cf_k vs wn tb) 12) fs fp ch sz ea eb kd ga sr we ro se (d + 1) (nI (k + 1)) := by
      intro z
      refine ih (k + 1) (by omega) ?_
      intro j hj
      by_cases c : j = k
      · subst c; exact z
      · exact hn j (by omega)
    rw [wX_touchesOne_2]
    dsimp only
    rw [nI_clamp (n := k) (by omega), e1, e2]
    refine br_f (nI_ge (b := 12) hk' (by decide)) (xc_bit (by omega) (fun hc => br_f (by decide) ⟨hi, ?_⟩) (fun hc => br_t rfl (nm_r (nI_1 k) (next (fun z => ?_)))))
    · rw [xc_shut hk'] at hc
      have go : ¬ (bt R (na k) = true ∧ nb k < 5 ∧ vs (nb k) = 1) → wX_touchesOne_44 post (wX_touchesOne_2 post R (sx_set (cf_k vs wn tb) 12) fs fp ch sz ea eb kd ga sr we ro se (d + 1)) R (sx_set (cf_k vs wn tb) 12) (nI k) fs fp ch sz ea eb kd ga sr we ro se := by
        intro z
        refine xs_44 W S hk' (fun a b c => h1 ⟨k, hk', hc, Or.inr ⟨a, b, c⟩⟩) (fun y => next ?_)
        rintro ⟨_, q | q⟩
        · exact z q
        · exact y q
      refine xc_bit (by omega) (fun b1 => br_f (by decide) ⟨hi, xs_inOne W S hb (fun a b => br_f (by decide) (h1 ⟨k, hk', hc, Or.inl ⟨b1, a, b⟩⟩)) (fun z => br_t rfl (go (fun y => z y.2)))⟩) (fun b1 => br_t rfl (go (fun y => ?_)))
      rw [b1] at y
      exact absurd y.1 (by decide)
    · rw [xc_shut hk'] at hc
      have zc := z.1
      rw [hc] at zc
      exact absurd zc (by decide)
theorem xs_11 (W : cf_W vs zs na nb wn) (S : cf_X fs fp ch sz ea eb kd ga sr vs zs na nb wn tb) {post : Int32 → Prop} (h1 : (∃ n, n < 5 ∧ sh_P vs na nb wn tb n) → post 1) (h0 : ¬ (∃ n, n < 5 ∧ sh_P vs na nb wn tb n) → post 0) : ∀ d k, k + d = 5 → (∀ j, j < k → ¬ sh_P vs na nb wn tb j) → wX_shorted_11 post (sx_set (cf_k vs wn tb) 12) fs fp ch sz ea eb kd ga sr we ro se (d + 1) (nI k) := by
  intro d
  induction d with
  | zero =>
    intro k hk hn
    have e : k = 5 := by omega
    subst e
    exact br_t (by decide) (h0 (fun ⟨j, hj, z⟩ => hn j hj z))
  | succ d ih =>
    intro k hk hn
    have hk' : k < 5 := by omega
    have hv := W.2.2.2.1 k (by omega)
    have next : ¬ sh_P vs na nb wn tb k → wX_shorted_11 post (sx_set (cf_k vs wn tb) 12) fs fp ch sz ea eb kd ga sr we ro se (d + 1) (nI (k + 1)) := by
      intro z
      refine ih (k + 1) (by omega) ?_
      intro j hj
      by_cases c : j = k
      · subst c; exact z
      · exact hn j (by omega)
    rw [wX_shorted_11]
    dsimp only
    refine br_f (nI_ge (b := 5) hk' (by decide)) (xc_value W S (by omega) (pk_eq (vs k) 0 (fun e => ?_) (fun e => nm_r (nI_1 k) (next (fun z => e z.1)))))
    refine xs_spread W S (by omega) ⟨13, xs_t2 W S (fun z => br_f (by decide) (h1 ⟨k, hk', (sh_tP W (by omega) e).mp z⟩)) (fun z => br_t rfl (nm_r (nI_1 k) (next (fun y => z ((sh_tP W (by omega) e).mpr y))))) 12 0 rfl (fun j hj => by omega)⟩
theorem xs_shorted (W : cf_W vs zs na nb wn) (S : cf_X fs fp ch sz ea eb kd ga sr vs zs na nb wn tb) {post : Int32 → Prop} (h1 : (∃ n, n < 5 ∧ sh_P vs na nb wn tb n) → post 1) (h0 : ¬ (∃ n, n < 5 ∧ sh_P vs na nb wn tb n) → post 0) : wpX_shorted post (fs, fp, ch, sz, ea, eb, kd, ga, sr, we, ro, se) := by
  unfold wpX_shorted
  dsimp only
  exact xc_closed W S ⟨6, xs_11 W S h1 h0 5 0 rfl (fun j hj => by omega)⟩
end
section
variable {ln : Int32} {vv zz tt aa bb ww yw yu yf ye ys yn : Nat → Int32} {vs zs na nb wn : Nat → Nat} {tb : Nat → Bool}
theorem ys_m32 : ∀ i, i < 32 → bt (-32) i = decide (5 ≤ i) := by decide +kernel
theorem ys_mask {n : Nat} (hn : n < 5) {i : Nat} (hi : i < 32) : bt ((ne_rs (cf_k vs wn tb) na nb (cf_s wn) n &&& (-32)) ||| ((1 : Int32) <<< (nI n &&& 31))) i = true ↔ ne_H (cf_k vs wn tb) na nb (cf_s wn) n i := by
  rw [b_or, b_and, ys_m32 i hi, sx_bit (by omega) hi, Bool.or_eq_true, Bool.and_eq_true, decide_eq_true_eq, decide_eq_true_eq, ne_rs_bt (by omega) hi]
  constructor
  · rintro (a | a)
    · exact a.1
    · subst a; exact gl_b rfl
  · intro h
    rcases ne_H_in h with a | a
    · exact Or.inr a
    · exact Or.inl ⟨h, a.1⟩
def sh_m (vs na nb wn : Nat → Nat) (tb : Nat → Bool) (n m : Nat) : Prop := vs n = 0 ∧ ne_H (cf_k vs wn tb) na nb (cf_s wn) n (m / 5) ∧ vs (m % 5) = 1 ∧ ne_E (cf_k vs wn tb) na nb (cf_s wn) 0 (m / 5) (m % 5)
theorem sh_mP (W : cf_W vs zs na nb wn) {n : Nat} : (∃ m, m < 55 ∧ sh_m vs na nb wn tb n m) ↔ sh_P vs na nb wn tb n := by
  constructor
  · rintro ⟨m, _, a, b, c, d⟩
    exact ⟨a, m / 5, m % 5, b, by omega, c, d⟩
  · rintro ⟨a, p, q, b, c, d, e⟩
    have h11 := yr_E11 W e
    have e1 : (p * 5 + q) / 5 = p := by omega
    have e2 : (p * 5 + q) % 5 = q := by omega
    refine ⟨p * 5 + q, by omega, a, ?_, ?_, ?_⟩
    · rw [e1]; exact b
    · rw [e2]; exact d
    · rw [e1, e2]; exact e
def sh_f (P : Prop) (x : Int32) : Prop := (P ∧ x = 1) ∨ (¬ P ∧ x = 0)
theorem sh_59 (W : cf_W vs zs na nb wn) (S : cf_Y vv zz tt aa bb ww vs zs na nb wn tb) {n m : Nat} (hn : n < 5) (hm : m < 55) {P : Prop} {x1 z x2 : Int32} (hf : sh_f P x1) (hz : sh_f (vs n = 0 ∧ vs (m % 5) = 1) z) {post : Int32 → Prop} {J4 J : Int32 → Int32 → Prop} (hJ : ∀ x, sh_f (P ∨ sh_m vs na nb wn tb n m) x → J x (nI (m + 1))) : wY_shorted_59 post J4 J x1 x2 ((ne_rs (cf_k vs wn tb) na nb (cf_s wn) n &&& (-32)) ||| ((1 : Int32) <<< (nI n &&& 31))) (nI m) z ln vv zz tt aa bb ww yw yu yf ye ys yn := by
  have ed : nI m / 5 = nI (m / 5) := pk_div (d := 5) (by omega) (by decide) (by decide)
  have er : nI m - nI m / 5 * 5 = nI (m % 5) := pk_rem (d := 5) (by omega) (by decide) (by decide)
  unfold wY_shorted_59
  rw [er, ed]
  rcases hf with ⟨hP, e⟩ | ⟨hP, e⟩
  · subst e
    exact br_f (by decide) (nm_r (nI_1 m) (hJ 1 (Or.inl ⟨Or.inl hP, rfl⟩)))
  · subst e
    have no : ¬ sh_m vs na nb wn tb n m → J 0 (nI (m + 1)) := fun z => hJ 0 (Or.inr ⟨fun y => y.elim hP z, rfl⟩)
    refine br_t rfl ?_
    rcases hz with ⟨hv, e⟩ | ⟨hv, e⟩
    · subst e
      refine br_f (by decide) ⟨by decide, ?_⟩
      cases hb : bt ((ne_rs (cf_k vs wn tb) na nb (cf_s wn) n &&& (-32)) ||| ((1 : Int32) <<< (nI n &&& 31))) (m / 5) with
      | true =>
        have hH := (ys_mask hn (by omega)).mp hb
        have hb6 : ne_B (cf_k vs wn tb) na nb (cf_s wn) (m / 5) (m % 5) ≤ 6 := ne_b_le (cf_k vs wn tb) na nb (cf_s wn) _ _ (cf_s_le W) 12 (Nat.le_refl _)
        refine br_t (sx_t (by omega) hb) ⟨by decide, by decide, yc_between W S (by omega) (by omega) (pk_le (ne_B (cf_k vs wn tb) na nb (cf_s wn) (m / 5) (m % 5)) 0 (fun h => nm_r (nI_1 m) (no ?_)) (fun h => nm_r (nI_1 m) (hJ 1 (Or.inl ⟨Or.inr ⟨hv.1, hH, hv.2, yr_E.mp h⟩, rfl⟩))))⟩
        intro y
        have := yr_E.mpr y.2.2.2
        omega
      | false =>
        refine br_f (sx_f (by omega) hb) (nm_r (nI_1 m) (no ?_))
        intro y
        have := (ys_mask hn (by omega)).mpr y.2.1
        rw [hb] at this
        exact absurd this (by decide)
    · subst e
      exact br_t rfl (nm_r (nI_1 m) (no (fun y => hv ⟨y.1, y.2.2.1⟩)))
theorem sh_25 (W : cf_W vs zs na nb wn) (S : cf_Y vv zz tt aa bb ww vs zs na nb wn tb) {n : Nat} (hn : n < 5) {P : Prop} {post : Int32 → Prop} {J : Int32 → Int32 → Prop} (hJ : ∀ x, sh_f (P ∨ sh_P vs na nb wn tb n) x → J x (nI (n + 1))) : ∀ d m x, m + d = 55 → sh_f (P ∨ ∃ j, j < m ∧ sh_m vs na nb wn tb n j) x → wY_shorted_25 post J (nI n) ((ne_rs (cf_k vs wn tb) na nb (cf_s wn) n &&& (-32)) ||| ((1 : Int32) <<< (nI n &&& 31))) ln vv zz tt aa bb ww yw yu yf ye ys yn (d + 1) x (nI m) := by
  intro d
  induction d with
  | zero =>
    intro m x hm hf
    have e : m = 55 := by omega
    subst e
    refine br_t (by decide) (nm_r (nI_1 n) (hJ x ?_))
    rw [sh_mP W] at hf
    exact hf
  | succ d ih =>
    intro m x hm hf
    have hm' : m < 55 := by omega
    have er : nI m - nI m / 5 * 5 = nI (m % 5) := pk_rem (d := 5) (by omega) (by decide) (by decide)
    have hv := W.2.2.2.1 n (by omega)
    have hv2 := W.2.2.2.1 (m % 5) (by omega)
    have go : ∀ z, sh_f (vs n = 0 ∧ vs (m % 5) = 1) z → wY_shorted_59 post J (wY_shorted_25 post J (nI n) ((ne_rs (cf_k vs wn tb) na nb (cf_s wn) n &&& (-32)) ||| ((1 : Int32) <<< (nI n &&& 31))) ln vv zz tt aa bb ww yw yu yf ye ys yn (d + 1)) x (nI n) ((ne_rs (cf_k vs wn tb) na nb (cf_s wn) n &&& (-32)) ||| ((1 : Int32) <<< (nI n &&& 31))) (nI m) z ln vv zz tt aa bb ww yw yu yf ye ys yn := by
      intro z hz
      refine sh_59 W S hn hm' hf hz ?_
      intro x' hx'
      refine ih (m + 1) x' (by omega) ?_
      have e : ((P ∨ ∃ j, j < m ∧ sh_m vs na nb wn tb n j) ∨ sh_m vs na nb wn tb n m) ↔ (P ∨ ∃ j, j < m + 1 ∧ sh_m vs na nb wn tb n j) := by
        constructor
        · rintro ((a | ⟨j, hj, a⟩) | a)
          · exact Or.inl a
          · exact Or.inr ⟨j, by omega, a⟩
          · exact Or.inr ⟨m, by omega, a⟩
        · rintro (a | ⟨j, hj, a⟩)
          · exact Or.inl (Or.inl a)
          · by_cases c : j = m
            · subst c; exact Or.inr a
            · exact Or.inl (Or.inr ⟨j, by omega, a⟩)
      unfold sh_f at hx' ⊢
      rw [← e]
      exact hx'
    rw [wY_shorted_25]
    dsimp only
    unfold wY_shorted_58
    rw [er, nI_clamp (n := n) (by omega), nI_clamp (n := m % 5) (by omega), S.1 n (by omega), S.1 (m % 5) (by omega)]
    refine br_f (nI_ge (b := 55) hm' (by decide)) ⟨vp_in_nI (by omega) (by omega), pk_eq (vs n) 0 (fun e => ⟨by decide, vp_in_nI (by omega) (by omega), pk_eq (vs (m % 5)) 1 (fun e' => go 1 (Or.inl ⟨⟨e, e'⟩, rfl⟩)) (fun e' => go 0 (Or.inr ⟨fun y => e' y.2, rfl⟩))⟩) (fun e => go 0 (Or.inr ⟨fun y => e y.1, rfl⟩))⟩
theorem sh_4 (W : cf_W vs zs na nb wn) (S : cf_Y vv zz tt aa bb ww vs zs na nb wn tb) {post : Int32 → Prop} (h1 : (∃ n, n < 5 ∧ sh_P vs na nb wn tb n) → post 1) (h0 : ¬ (∃ n, n < 5 ∧ sh_P vs na nb wn tb n) → post 0) : ∀ d k x, k + d = 5 → sh_f (∃ n, n < k ∧ sh_P vs na nb wn tb n) x → wY_shorted_4 post ln vv zz tt aa bb ww yw yu yf ye ys yn (d + 1) x (nI k) := by
  intro d
  induction d with
  | zero =>
    intro k x hk hf
    have e : k = 5 := by omega
    subst e
    refine br_t (by decide) ?_
    rcases hf with ⟨hP, e⟩ | ⟨hP, e⟩
    · subst e; exact ⟨cf_n1, h1 hP⟩
    · subst e; exact ⟨cf_n0, h0 hP⟩
  | succ d ih =>
    intro k x hk hf
    have hk' : k < 5 := by omega
    rw [wY_shorted_4]
    dsimp only
    refine br_f (nI_ge (b := 5) hk' (by decide)) (yr_reach W S (by omega) (nm_e ⟨56, sh_25 W S hk' (P := ∃ n, n < k ∧ sh_P vs na nb wn tb n) ?_ 55 0 x rfl ?_⟩))
    · intro x' hx'
      refine ih (k + 1) x' (by omega) ?_
      have e : ((∃ n, n < k ∧ sh_P vs na nb wn tb n) ∨ sh_P vs na nb wn tb k) ↔ ∃ n, n < k + 1 ∧ sh_P vs na nb wn tb n := by
        constructor
        · rintro (⟨j, hj, a⟩ | a)
          · exact ⟨j, by omega, a⟩
          · exact ⟨k, by omega, a⟩
        · rintro ⟨j, hj, a⟩
          by_cases c : j = k
          · subst c; exact Or.inr a
          · exact Or.inl ⟨j, by omega, a⟩
      unfold sh_f at hx' ⊢
      rw [← e]
      exact hx'
    · have e : ((∃ n, n < k ∧ sh_P vs na nb wn tb n) ∨ ∃ j, j < 0 ∧ sh_m vs na nb wn tb k j) ↔ ∃ n, n < k ∧ sh_P vs na nb wn tb n :=
        ⟨fun z => z.elim (fun z => z) (fun ⟨j, hj, _⟩ => by omega), Or.inl⟩
      unfold sh_f at hf ⊢
      rw [e]
      exact hf
theorem sh_shorted (W : cf_W vs zs na nb wn) (S : cf_Y vv zz tt aa bb ww vs zs na nb wn tb) {post : Int32 → Prop} (h1 : (∃ n, n < 5 ∧ sh_P vs na nb wn tb n) → post 1) (h0 : ¬ (∃ n, n < 5 ∧ sh_P vs na nb wn tb n) → post 0) : wpY_shorted post (ln, vv, zz, tt, aa, bb, ww, yw, yu, yf, ye, ys, yn) :=
  ⟨6, sh_4 W S h1 h0 5 0 0 rfl (Or.inr ⟨fun ⟨j, hj, _⟩ => by omega, rfl⟩)⟩
end
end
section
/-! ===== how the pure picture changes ===== -/
theorem cg_rel {fs fp : Int32} {ch sz ea eb kd ga sr we ro se : Nat → Int32} {ln : Int32} {vv zz tt aa bb ww yw yu yf ye ys yn : Nat → Int32} {vs zs na nb wn : Nat → Nat} {tb : Nat → Bool} {k : Nat} (W : cf_W vs zs na nb wn) (A : cf_X fs fp ch sz ea eb kd ga sr vs zs na nb wn tb) (B : cf_Y vv zz tt aa bb ww vs zs na nb wn tb) : i_Rel k (fs, fp, ch, sz, ea, eb, kd, ga, sr, we, ro, se) (ln, vv, zz, tt, aa, bb, ww, yw, yu, yf, ye, ys, yn) :=
  ⟨_, _, _, _, _, _, _, _, _, _, _, _, _, _, _, _, _, _, _, _, _, _, _, _, _, _, _, _, _, _, _, rfl, rfl, W, A, B⟩
theorem cg_node (x : Int32) : (∃ n, n < 11 ∧ x = nI n) ∨ ((∀ post : Int32 → Prop, post 0 → wpX_isNode post x) ∧ (∀ (post : Int32 → Prop) (ln : Int32) (vv zz tt aa bb ww yw yu yf ye ys yn : Nat → Int32), post 0 → wpY_node post (ln, vv, zz, tt, aa, bb, ww, yw, yu, yf, ye, ys, yn) x)) := by
  by_cases h : x < 0
  · exact Or.inr ⟨fun post h0 => xc_nodeN h h0, fun post ln vv zz tt aa bb ww yw yu yf ye ys yn h0 => yc_nodeN h h0⟩
  · obtain ⟨n, hn, rfl⟩ := nI_of h
    by_cases c : n < 11
    · exact Or.inl ⟨n, c, rfl⟩
    · exact Or.inr ⟨fun post h0 => xc_node hn (fun z => absurd z c) (fun _ => h0), fun post ln vv zz tt aa bb ww yw yu yf ye ys yn h0 => yc_node hn (fun z => absurd z c) (fun _ => h0)⟩
theorem cg_store (x : Int32) : (∃ n, 5 ≤ n ∧ n < 11 ∧ x = nI n) ∨ ((∀ post : Int32 → Prop, post 0 → wpX_isStore post x) ∧ (∀ (post : Int32 → Prop) (ln : Int32) (vv zz tt aa bb ww yw yu yf ye ys yn : Nat → Int32), post 0 → wpY_store post (ln, vv, zz, tt, aa, bb, ww, yw, yu, yf, ye, ys, yn) x)) := by
  by_cases h : x < 0
  · exact Or.inr ⟨fun post h0 => xc_storeN h h0, fun post ln vv zz tt aa bb ww yw yu yf ye ys yn h0 => yc_storeN h h0⟩
  · obtain ⟨n, hn, rfl⟩ := nI_of h
    by_cases c : 5 ≤ n ∧ n < 11
    · exact Or.inl ⟨n, c.1, c.2, rfl⟩
    · exact Or.inr ⟨fun post h0 => xc_store hn (fun a b => absurd ⟨a, b⟩ c) (fun _ => h0), fun post ln vv zz tt aa bb ww yw yu yf ye ys yn h0 => yc_store hn (fun a b => absurd ⟨a, b⟩ c) (fun _ => h0)⟩
def cg_b (tb : Nat → Bool) (k : Nat) (v : Bool) : Nat → Bool := fun j => if j = k then v else tb j
theorem cg_bs {tb : Nat → Bool} {k : Nat} {v : Bool} : cg_b tb k v k = v := if_pos rfl
theorem cg_bn {tb : Nat → Bool} {k j : Nat} {v : Bool} (h : j ≠ k) : cg_b tb k v j = tb j := if_neg h
section
variable {fs fp : Int32} {ch sz ea eb kd ga sr we ro se : Nat → Int32} {ln : Int32} {vv zz tt aa bb ww yw yu yf ye ys yn : Nat → Int32} {vs zs na nb wn : Nat → Nat} {tb : Nat → Bool}
theorem cg_addW (W : cf_W vs zs na nb wn) {k a b w : Nat} (ha : a < 11) (hb : b < 11) (hw : w < 27) : cf_W vs zs (gp_u na k a) (gp_u nb k b) (gp_u wn k w) := by
  obtain ⟨h1, h2, h3, h4, h5, h6, h7⟩ := W
  refine ⟨h1, h2, h3, h4, h5, h6, ?_⟩
  intro j hj
  by_cases c : j = k
  · subst c; rw [gp_us, gp_us, gp_us]; exact ⟨ha, hb, hw⟩
  · rw [gp_un c, gp_un c, gp_un c]; exact h7 j hj
theorem cg_addX (S : cf_X fs fp ch sz ea eb kd ga sr vs zs na nb wn tb) {k a b w : Nat} (hk : k < 12) (hw : w < 27) : cf_X fs (fp ||| ((1 : Int32) <<< (nI k &&& 31))) ch sz (upd ea k (nI a)) (upd eb k (nI b)) (upd kd k (nI w - nI w / 3 * 3)) (upd ga k (2 + ((nI w / 3) - (nI w / 3) / 3 * 3))) (upd sr k (4 + (nI w / 9))) vs zs (gp_u na k a) (gp_u nb k b) (gp_u wn k w) (cg_b tb k true) := by
  obtain ⟨h1, h2, h3, h4, h5, h6⟩ := S
  have e1 : nI w - nI w / 3 * 3 = nI (w % 3) := pk_rem (d := 3) (by omega) (by decide) (by decide)
  have e2 : 2 + ((nI w / 3) - (nI w / 3) / 3 * 3) = nI (2 + w / 3 % 3) := by
    have a : nI w / 3 = nI (w / 3) := pk_div (d := 3) (by omega) (by decide) (by decide)
    have b : nI (w / 3) - nI (w / 3) / 3 * 3 = nI (w / 3 % 3) := pk_rem (d := 3) (by omega) (by decide) (by decide)
    rw [a, b]
    exact nI_add 2 _
  have e3 : 4 + (nI w / 9) = nI (4 + w / 9) := by
    have a : nI w / 9 = nI (w / 9) := pk_div (d := 9) (by omega) (by decide) (by decide)
    rw [a]
    exact nI_add 4 _
  rw [e1, e2, e3]
  refine ⟨h1, ?_, h3, h4, ?_, ?_⟩
  · intro i hi
    rw [b_or, h2 i hi, sx_bit (by omega) hi]
    by_cases c : i = k
    · subst c; rw [cg_bs, decide_eq_true rfl, decide_eq_true hk, Bool.or_true]; rfl
    · rw [cg_bn c, decide_eq_false c, Bool.or_false]
  · intro j hj
    by_cases c : j = k
    · subst c; rw [pk_us, pk_us, gp_us, gp_us]; exact ⟨rfl, rfl⟩
    · rw [pk_un c, pk_un c, gp_un c, gp_un c]; exact h5 j hj
  · intro j hj ht
    unfold cf_s
    by_cases c : j = k
    · subst c; rw [pk_us, pk_us, pk_us, gp_us]; exact ⟨rfl, rfl, rfl⟩
    · rw [cg_bn c] at ht
      rw [pk_un c, pk_un c, pk_un c, gp_un c]; exact h6 j hj ht
theorem cg_addY (S : cf_Y vv zz tt aa bb ww vs zs na nb wn tb) {k a b w : Nat} : cf_Y vv zz (upd tt k 1) (upd aa k (nI a)) (upd bb k (nI b)) (upd ww k (nI w)) vs zs (gp_u na k a) (gp_u nb k b) (gp_u wn k w) (cg_b tb k true) := by
  obtain ⟨h1, h2, h3, h4⟩ := S
  refine ⟨h1, h2, ?_, ?_⟩
  · intro j hj
    by_cases c : j = k
    · subst c; rw [pk_us, cg_bs]; rfl
    · rw [pk_un c, cg_bn c]; exact h3 j hj
  · intro j hj
    by_cases c : j = k
    · subst c; rw [pk_us, pk_us, pk_us, gp_us, gp_us, gp_us]; exact ⟨rfl, rfl, rfl⟩
    · rw [pk_un c, pk_un c, pk_un c, gp_un c, gp_un c, gp_un c]; exact h4 j hj
theorem cg_remX (S : cf_X fs fp ch sz ea eb kd ga sr vs zs na nb wn tb) {k : Nat} (hk : k < 12) : cf_X fs (fp &&& (((1 : Int32) <<< (nI k &&& 31)) ^^^ (-1))) ch sz ea eb kd ga sr vs zs na nb wn (cg_b tb k false) := by
  obtain ⟨h1, h2, h3, h4, h5, h6⟩ := S
  refine ⟨h1, ?_, h3, h4, h5, ?_⟩
  · intro i hi
    rw [sx_unset (by omega) hi, h2 i hi]
    by_cases c : i = k
    · subst c; rw [cg_bs, decide_eq_true rfl, Bool.not_true, Bool.and_false, Bool.and_false]
    · rw [cg_bn c, decide_eq_false c, Bool.not_false, Bool.and_true]
  · intro j hj ht
    by_cases c : j = k
    · subst c; rw [cg_bs] at ht; exact absurd ht (by decide)
    · rw [cg_bn c] at ht; exact h6 j hj ht
theorem cg_remY (S : cf_Y vv zz tt aa bb ww vs zs na nb wn tb) {k : Nat} : cf_Y vv zz (upd tt k 0) aa bb ww vs zs na nb wn (cg_b tb k false) := by
  obtain ⟨h1, h2, h3, h4⟩ := S
  refine ⟨h1, h2, ?_, h4⟩
  intro j hj
  by_cases c : j = k
  · subst c; rw [pk_us, cg_bs]; rfl
  · rw [pk_un c, cg_bn c]; exact h3 j hj
theorem cg_one : ∀ v, v < 2 → ∀ i, i < 32 → bt (nI v) i = (decide (i = 0) && decide (v = 1)) := by decide +kernel
theorem cg_setW (W : cf_W vs zs na nb wn) {i v : Nat} (h2 : 2 ≤ i) (h5 : i < 5) (hv : v ≤ 1) : cf_W (gp_u vs i v) zs na nb wn := by
  obtain ⟨a1, a2, a3, a4, a5, a6, a7⟩ := W
  refine ⟨?_, ?_, ?_, ?_, a5, a6, a7⟩
  · rw [gp_un (by omega)]; exact a1
  · rw [gp_un (by omega)]; exact a2
  · intro n hn
    by_cases c : n = i
    · subst c; rw [gp_us]; exact hv
    · rw [gp_un c]; exact a3 n hn
  · intro n hn
    by_cases c : n = i
    · subst c; rw [gp_us]; omega
    · rw [gp_un c]; exact a4 n hn
theorem cg_setX (S : cf_X fs fp ch sz ea eb kd ga sr vs zs na nb wn tb) {p v : Nat} (h3 : p < 3) (hv : v ≤ 1) : cf_X ((fs &&& (((1 : Int32) <<< (nI p &&& 31)) ^^^ (-1))) ||| (nI v <<< (nI p &&& 31))) fp ch sz ea eb kd ga sr (gp_u vs (2 + p) v) zs na nb wn tb := by
  obtain ⟨a1, a2, a3, a4, a5, a6⟩ := S
  refine ⟨?_, a2, ?_, a4, a5, a6⟩
  · intro i hi
    rw [b_or, sx_unset (by omega) (by omega), a1 i hi, b_shl p (by omega) _ (by omega)]
    by_cases c : i = p
    · subst c
      rw [decide_eq_true (Eq.refl i), Bool.not_true, Bool.and_false, Bool.false_or, Nat.sub_self, cg_one v (by omega) 0 (by omega), gp_us, decide_eq_true (Nat.le_refl i), decide_eq_true (Eq.refl 0), Bool.true_and, Bool.true_and]
    · rw [gp_un (by omega), decide_eq_false c, Bool.not_false, Bool.and_true]
      by_cases d : p ≤ i
      · rw [cg_one v (by omega) (i - p) (by omega), decide_eq_false (show ¬ i - p = 0 from by omega), Bool.false_and, Bool.and_false, Bool.or_false]
      · rw [decide_eq_false d, Bool.false_and, Bool.or_false]
  · intro n h5 h11
    rw [gp_un (by omega)]; exact a3 n h5 h11
theorem cg_valY (S : cf_Y vv zz tt aa bb ww vs zs na nb wn tb) {i v : Nat} : cf_Y (upd vv i (nI v)) zz tt aa bb ww (gp_u vs i v) zs na nb wn tb := by
  obtain ⟨h1, h2, h3, h4⟩ := S
  refine ⟨?_, h2, h3, h4⟩
  intro j hj
  by_cases c : j = i
  · subst c; rw [pk_us, gp_us]
  · rw [pk_un c, gp_un c]; exact h1 j hj
theorem cg_sizW (W : cf_W vs zs na nb wn) {s z : Nat} (h5 : 5 ≤ s) (h1 : 1 ≤ z) (h3 : z ≤ 3) : cf_W vs (gp_u zs s z) na nb wn := by
  obtain ⟨a1, a2, a3, a4, a5, a6, a7⟩ := W
  refine ⟨a1, a2, a3, a4, ?_, ?_, a7⟩
  · intro n hn
    rw [gp_un (by omega)]; exact a5 n hn
  · intro n hn h11
    by_cases c : n = s
    · subst c; rw [gp_us]; exact ⟨h1, h3⟩
    · rw [gp_un c]; exact a6 n hn h11
theorem cg_sizX (S : cf_X fs fp ch sz ea eb kd ga sr vs zs na nb wn tb) {s z : Nat} : cf_X fs fp ch (upd sz s (nI z)) ea eb kd ga sr vs (gp_u zs s z) na nb wn tb := by
  obtain ⟨a1, a2, a3, a4, a5, a6⟩ := S
  refine ⟨a1, a2, a3, ?_, a5, a6⟩
  intro n h5 h11
  by_cases c : n = s
  · subst c; rw [pk_us, gp_us]
  · rw [pk_un c, gp_un c]; exact a4 n h5 h11
theorem cg_sizY (S : cf_Y vv zz tt aa bb ww vs zs na nb wn tb) {s z : Nat} : cf_Y vv (upd zz s (nI z)) tt aa bb ww vs (gp_u zs s z) na nb wn tb := by
  obtain ⟨h1, h2, h3, h4⟩ := S
  refine ⟨h1, ?_, h3, h4⟩
  intro j hj
  by_cases c : j = s
  · subst c; rw [pk_us, gp_us]
  · rw [pk_un c, gp_un c]; exact h2 j hj
theorem cg_chgW (W : cf_W vs zs na nb wn) {s v : Nat} (h5 : 5 ≤ s) (hv : v ≤ 2) : cf_W (gp_u vs s v) zs na nb wn := by
  obtain ⟨a1, a2, a3, a4, a5, a6, a7⟩ := W
  refine ⟨?_, ?_, ?_, ?_, a5, a6, a7⟩
  · rw [gp_un (by omega)]; exact a1
  · rw [gp_un (by omega)]; exact a2
  · intro n hn
    rw [gp_un (by omega)]; exact a3 n hn
  · intro n hn
    by_cases c : n = s
    · subst c; rw [gp_us]; exact hv
    · rw [gp_un c]; exact a4 n hn
theorem cg_chgX (S : cf_X fs fp ch sz ea eb kd ga sr vs zs na nb wn tb) {s v : Nat} (h5 : 5 ≤ s) : cf_X fs fp (upd ch s (nI v)) sz ea eb kd ga sr (gp_u vs s v) zs na nb wn tb := by
  obtain ⟨a1, a2, a3, a4, a5, a6⟩ := S
  refine ⟨?_, a2, ?_, a4, a5, a6⟩
  · intro i hi
    rw [gp_un (by omega)]; exact a1 i hi
  · intro n h5 h11
    by_cases c : n = s
    · subst c; rw [pk_us, gp_us]
    · rw [pk_un c, gp_un c]; exact a3 n h5 h11
/-! add's search for a place -/
theorem cg_free (S : cf_X fs fp ch sz ea eb kd ga sr vs zs na nb wn tb) {post : Int32 → Prop} (h1 : ∀ k, k < 12 → tb k = false → (∀ j, j < k → tb j = true) → post (nI k)) (h0 : (∀ j, j < 12 → tb j = true) → post 12) : ∀ d k, k + d = 12 → (∀ j, j < k → tb j = true) → wX_leastFreeSlot_2 post fs fp ch sz ea eb kd ga sr we ro se (d + 1) (nI k) := by
  intro d
  induction d with
  | zero =>
    intro k hk hj
    have e : k = 12 := by omega
    subst e
    exact br_t (by decide) (h0 hj)
  | succ d ih =>
    intro k hk hj
    have hk' : k < 12 := by omega
    have hp := S.2.1 k (by omega)
    rw [decide_eq_true hk', Bool.true_and] at hp
    rw [wX_leastFreeSlot_2]
    dsimp only
    refine br_f (nI_ge (b := 12) hk' (by decide)) (xc_bit (by omega) (fun hb => br_f (by decide) (nm_r (nI_1 k) (ih (k + 1) (by omega) ?_))) (fun hb => br_t rfl (h1 k hk' (by rw [← hp]; exact hb) hj)))
    intro j hj'
    by_cases c : j = k
    · subst c; rw [← hp]; exact hb
    · exact hj j (by omega)
theorem cg_put (S : cf_Y vv zz tt aa bb ww vs zs na nb wn tb) {x1 x2 x3 : Int32} {post : Int32 → SY → Prop} (h1 : ∀ k, k < 12 → tb k = false → (∀ j, j < k → tb j = true) → post (nI k) (ln, vv, zz, upd tt k 1, upd aa k x1, upd bb k x2, upd ww k x3, yw, yu, yf, ye, ys, yn)) (h0 : (∀ j, j < 12 → tb j = true) → post (-2) (ln, vv, zz, tt, aa, bb, ww, yw, yu, yf, ye, ys, yn)) : ∀ d k, k + d = 12 → (∀ j, j < k → tb j = true) → wY_add_36 post x1 x2 x3 ln vv zz tt aa bb ww yw yu yf ye ys yn (d + 1) (nI k) := by
  intro d
  induction d with
  | zero =>
    intro k hk hj
    have e : k = 12 := by omega
    subst e
    exact br_t (by decide) (h0 hj)
  | succ d ih =>
    intro k hk hj
    have hk' : k < 12 := by omega
    have hi : vp_in (nI k) 12 := vp_in_nI hk' (by omega)
    have ht := S.2.2.1 k hk'
    rw [wY_add_36]
    dsimp only
    rw [nI_clamp (n := k) (by omega), ht]
    refine br_f (nI_ge (b := 12) hk' (by decide)) ⟨hi, ?_⟩
    cases c : tb k with
    | false => exact br_t rfl ⟨hi, nm_e ⟨hi, nm_e ⟨hi, nm_e ⟨hi, nm_e (h1 k hk' c hj)⟩⟩⟩⟩
    | true =>
      refine br_f (by decide) (nm_r (nI_1 k) (ih (k + 1) (by omega) ?_))
      intro j hj'
      by_cases e : j = k
      · subst e; exact c
      · exact hj j (by omega)
end
end
section
/-! ===== would at an input, settle, unknowns, inputsFor ===== -/
theorem mo_a {x : Int32} {n v : Nat} {vs : Nat → Nat} (hx : ∀ i, i < 11 → bt x i = decide (i = n)) : ∀ m, m ≤ 11 → oc_a v x vs m = (decide (m ≤ n) || decide (vs n = v)) := by
  intro m
  induction m with
  | zero => intro _; rw [oc_a, decide_eq_true (Nat.zero_le n)]; rfl
  | succ m ih =>
    intro hm
    have a := ih (by omega)
    by_cases c : m = n
    · subst c
      rw [oc_aY (by rw [hx m (by omega), decide_eq_true rfl]), a, decide_eq_true (Nat.le_refl m), decide_eq_false (by omega : ¬ m + 1 ≤ m)]
      rfl
    · rw [oc_aN (by rw [hx m (by omega), decide_eq_false c]), a]
      by_cases d : m ≤ n
      · rw [decide_eq_true d, decide_eq_true (by omega : m + 1 ≤ n)]
      · rw [decide_eq_false d, decide_eq_false (by omega : ¬ m + 1 ≤ n)]
theorem mo_in {vs zs na nb wn : Nat → Nat} {tb : Nat → Bool} (W : cf_W vs zs na nb wn) {n : Nat} (hn : n < 5) : oc_v (ne_rt (cf_k vs wn tb) na nb (cf_s wn) zs (ne_W (cf_k vs wn tb) na nb (cf_s wn) zs) n) vs = vs n := by
  have hx : ∀ i, i < 11 → bt (ne_rt (cf_k vs wn tb) na nb (cf_s wn) zs (ne_W (cf_k vs wn tb) na nb (cf_s wn) zs) n) i = decide (i = n) := by
    intro i hi
    rw [Bool.eq_iff_iff, ne_rt_bt (by omega), decide_eq_true_eq]
    exact ne_Q_in hn (ne_W_in hn (cf_z7 W n (by omega)))
  have hv := W.2.2.1 n hn
  have a0 := mo_a (v := 0) (vs := vs) hx 11 (Nat.le_refl _)
  have a1 := mo_a (v := 1) (vs := vs) hx 11 (Nat.le_refl _)
  rw [decide_eq_false (by omega : ¬ 11 ≤ n), Bool.false_or] at a0 a1
  unfold oc_v
  rw [a0, a1]
  by_cases c : vs n = 0
  · rw [c]; rfl
  · have c1 : vs n = 1 := by omega
    rw [c1]; rfl
noncomputable def st_v (vs zs na nb wn : Nat → Nat) (tb : Nat → Bool) : Nat → Nat := fun n => if 5 ≤ n then oc_v (ne_rt (cf_k vs wn tb) na nb (cf_s wn) zs (ne_W (cf_k vs wn tb) na nb (cf_s wn) zs) n) vs else vs n
theorem st_hi {vs zs na nb wn : Nat → Nat} {tb : Nat → Bool} {n : Nat} (h : 5 ≤ n) : st_v vs zs na nb wn tb n = oc_v (ne_rt (cf_k vs wn tb) na nb (cf_s wn) zs (ne_W (cf_k vs wn tb) na nb (cf_s wn) zs) n) vs := if_pos h
theorem st_lo {vs zs na nb wn : Nat → Nat} {tb : Nat → Bool} {n : Nat} (h : n < 5) : st_v vs zs na nb wn tb n = vs n := if_neg (by omega)
def st_c (f g : Nat → Nat) : Nat → Nat
  | 0 => 0
  | k + 1 => if f k = g k then st_c f g k else st_c f g k + 1
section
variable {fs fp : Int32} {ch sz ea eb kd ga sr we ro se : Nat → Int32} {ln : Int32} {vv zz tt aa bb ww yw yu yf ye ys yn : Nat → Int32} {vs zs na nb wn : Nat → Nat} {tb : Nat → Bool}
theorem st_le (W : cf_W vs zs na nb wn) {n : Nat} (hn : n < 11) : st_v vs zs na nb wn tb n ≤ 2 := by
  by_cases c : 5 ≤ n
  · rw [st_hi c]; exact oc_v_le _ _
  · rw [st_lo (by omega)]; exact W.2.2.2.1 n hn
theorem st_W (W : cf_W vs zs na nb wn) : cf_W (st_v vs zs na nb wn tb) zs na nb wn := by
  have h := W
  obtain ⟨a1, a2, a3, a4, a5, a6, a7⟩ := h
  refine ⟨?_, ?_, ?_, fun n hn => st_le W hn, a5, a6, a7⟩
  · rw [st_lo (by omega)]; exact a1
  · rw [st_lo (by omega)]; exact a2
  · intro n hn
    rw [st_lo hn]; exact a3 n hn
theorem st_c5 : st_c vs (st_v vs zs na nb wn tb) 5 = 0 := by
  have h : ∀ k, k ≤ 5 → st_c vs (st_v vs zs na nb wn tb) k = 0 := by
    intro k
    induction k with
    | zero => intro _; rfl
    | succ k ih => intro hk; rw [st_c, st_lo (by omega), if_pos rfl]; exact ih (by omega)
  exact h 5 (Nat.le_refl _)
theorem st_cle (f g : Nat → Nat) : ∀ k, st_c f g k ≤ k := by
  intro k
  induction k with
  | zero => exact Nat.le_refl _
  | succ k ih => rw [st_c]; split <;> omega
theorem st_X41 (W : cf_W vs zs na nb wn) {post : Int32 → SX → Prop} (h : ∀ ch : Nat → Int32, (∀ n, 5 ≤ n → n < 11 → ch n = nI (st_v vs zs na nb wn tb n)) → post (nI (st_c vs (st_v vs zs na nb wn tb) 11)) (fs, fp, ch, sz, ea, eb, kd, ga, sr, we, ro, se)) (hse : ∀ n, 5 ≤ n → n < 11 → se n = nI (st_v vs zs na nb wn tb n)) :
    ∀ d k (ch : Nat → Int32), 5 ≤ k → k + d = 11 → (∀ n, 5 ≤ n → n < 11 → ch n = nI (if n < k then st_v vs zs na nb wn tb n else vs n)) → wX_settle_41 post fs fp (d + 1) (nI (st_c vs (st_v vs zs na nb wn tb) k)) (nI k) ch sz ea eb kd ga sr we ro se := by
  intro d
  induction d with
  | zero =>
    intro k ch h5 hk hc
    have e : k = 11 := by omega
    subst e
    refine br_t (by decide) (h ch ?_)
    intro n h5 h11
    rw [hc n h5 h11, if_pos h11]
  | succ d ih =>
    intro k ch h5 hk hc
    have hk' : k < 11 := by omega
    have hi : vp_in (nI k) 11 := vp_in_nI hk' (by omega)
    have hl := st_le (tb := tb) W hk'
    have hv := W.2.2.2.1 k hk'
    have e1 : ch k = nI (vs k) := by rw [hc k h5 hk', if_neg (by omega)]
    have J := fun ch' => ih (k + 1) ch' (by omega) (by omega)
    rw [st_c] at J
    rw [wX_settle_41]
    dsimp only
    rw [nI_clamp (n := k) (by omega), e1, hse k h5 hk']
    refine br_f (nI_ge (b := 11) hk' (by decide)) ⟨hi, hi, pk_eq (vs k) (st_v vs zs na nb wn tb k) (fun e => nm_r (nI_1 k) ?_) (fun e => ⟨hi, hi, nm_e (nm_r (nI_1 _) (nm_r (nI_1 k) ?_))⟩)⟩
    · rw [if_pos e] at J
      refine J ch ?_
      intro n h5 h11
      rw [hc n h5 h11]
      by_cases c : n = k
      · subst c; rw [if_neg (by omega), if_pos (by omega), e]
      · by_cases c2 : n < k
        · rw [if_pos c2, if_pos (by omega)]
        · rw [if_neg c2, if_neg (by omega)]
    · rw [if_neg e] at J
      refine J _ ?_
      intro n h5 h11
      by_cases c : n = k
      · subst c; rw [pk_us, if_pos (by omega)]
      · rw [pk_un c, hc n h5 h11]
        by_cases c2 : n < k
        · rw [if_pos c2, if_pos (by omega)]
        · rw [if_neg c2, if_neg (by omega)]
theorem st_X10 (W : cf_W vs zs na nb wn) (S : cf_X fs fp ch sz ea eb kd ga sr vs zs na nb wn tb) (hr : ∀ n, n < 11 → ro n = ne_rt (cf_k vs wn tb) na nb (cf_s wn) zs (ne_W (cf_k vs wn tb) na nb (cf_s wn) zs) n) {post : Int32 → SX → Prop} (h : ∀ ch se : Nat → Int32, (∀ n, 5 ≤ n → n < 11 → ch n = nI (st_v vs zs na nb wn tb n)) → post (nI (st_c vs (st_v vs zs na nb wn tb) 11)) (fs, fp, ch, sz, ea, eb, kd, ga, sr, we, ro, se)) :
    ∀ d k (se : Nat → Int32), 5 ≤ k → k + d = 11 → (∀ n, 5 ≤ n → n < k → se n = nI (st_v vs zs na nb wn tb n)) → wX_settle_10 post fs fp (d + 1) (nI k) ch sz ea eb kd ga sr we ro se := by
  intro d
  induction d with
  | zero =>
    intro k se h5 hk hs
    have e : k = 11 := by omega
    subst e
    refine br_t (by decide) ⟨7, ?_⟩
    have a := st_X41 (fs := fs) (fp := fp) (sz := sz) (ea := ea) (eb := eb) (kd := kd) (ga := ga) (sr := sr) (we := we) (ro := ro) W (fun ch hc => h ch se hc) hs 6 5 ch (Nat.le_refl _) rfl (fun n h5 h11 => by rw [if_neg (by omega)]; exact S.2.2.1 n h5 h11)
    rw [st_c5] at a
    exact a
  | succ d ih =>
    intro k se h5 hk hs
    have hk' : k < 11 := by omega
    rw [wX_settle_10]
    dsimp only
    rw [nI_clamp (n := k) (by omega)]
    refine br_f (nI_ge (b := 11) hk' (by decide)) (xo_outcome W S hk' ⟨vp_in_nI hk' (by omega), nm_e (nm_r (nI_1 k) (ih (k + 1) _ (by omega) (by omega) ?_))⟩)
    intro n h5' hn
    by_cases c : n = k
    · subst c; rw [pk_us, st_hi h5', hr n hk']
    · rw [pk_un c]; exact hs n h5' (by omega)
theorem st_Xc (S : cf_X fs fp ch sz ea eb kd ga sr vs zs na nb wn tb) {ch' : Nat → Int32} (hc : ∀ n, 5 ≤ n → n < 11 → ch' n = nI (st_v vs zs na nb wn tb n)) : cf_X fs fp ch' sz ea eb kd ga sr (st_v vs zs na nb wn tb) zs na nb wn tb := by
  obtain ⟨a1, a2, a3, a4, a5, a6⟩ := S
  refine ⟨?_, a2, hc, a4, a5, a6⟩
  intro i hi
  rw [st_lo (by omega)]; exact a1 i hi
theorem st_X (W : cf_W vs zs na nb wn) (S : cf_X fs fp ch sz ea eb kd ga sr vs zs na nb wn tb) {post : Int32 → SX → Prop} (h : ∀ ch we ro se : Nat → Int32, cf_X fs fp ch sz ea eb kd ga sr (st_v vs zs na nb wn tb) zs na nb wn tb → post (nI (st_c vs (st_v vs zs na nb wn tb) 11)) (fs, fp, ch, sz, ea, eb, kd, ga, sr, we, ro, se)) : wpX_settle post (fs, fp, ch, sz, ea, eb, kd, ga, sr, we, ro, se) := by
  unfold wpX_settle
  dsimp only
  refine xr_trace W S ?_
  intro we ro _ hr
  exact ⟨7, st_X10 W S hr (fun ch se hc => h ch we ro se (st_Xc S hc)) 6 5 se (Nat.le_refl _) rfl (fun n a b => by omega)⟩
theorem st_Y47 (W : cf_W vs zs na nb wn) {post : Int32 → SY → Prop} (h : ∀ vv : Nat → Int32, (∀ n, n < 11 → vv n = nI (st_v vs zs na nb wn tb n)) → post (nI (st_c vs (st_v vs zs na nb wn tb) 11)) (ln, vv, zz, tt, aa, bb, ww, yw, yu, yf, ye, ys, yn)) (hse : ∀ n, n < 11 → yn n = nI (st_v vs zs na nb wn tb n)) :
    ∀ d k (vv : Nat → Int32), k + d = 11 → (∀ n, n < 11 → vv n = nI (if n < k then st_v vs zs na nb wn tb n else vs n)) → wY_settle_47 post ln (d + 1) (nI (st_c vs (st_v vs zs na nb wn tb) k)) (nI k) vv zz tt aa bb ww yw yu yf ye ys yn := by
  intro d
  induction d with
  | zero =>
    intro k vv hk hc
    have e : k = 11 := by omega
    subst e
    refine br_t (by decide) (h vv ?_)
    intro n h11
    rw [hc n h11, if_pos h11]
  | succ d ih =>
    intro k vv hk hc
    have hk' : k < 11 := by omega
    have hi : vp_in (nI k) 11 := vp_in_nI hk' (by omega)
    have hl := st_le (tb := tb) W hk'
    have hv := W.2.2.2.1 k hk'
    have e1 : vv k = nI (vs k) := by rw [hc k hk', if_neg (by omega)]
    have J := ih (k + 1) (upd vv k (nI (st_v vs zs na nb wn tb k))) (by omega) (by
      intro n h11
      by_cases c : n = k
      · subst c; rw [pk_us, if_pos (by omega)]
      · rw [pk_un c, hc n h11]
        by_cases c2 : n < k
        · rw [if_pos c2, if_pos (by omega)]
        · rw [if_neg c2, if_neg (by omega)])
    rw [st_c] at J
    rw [wY_settle_47]
    dsimp only
    unfold wY_settle_75
    rw [nI_clamp (n := k) (by omega), e1, hse k hk']
    refine br_f (nI_ge (b := 11) hk' (by decide)) ⟨hi, hi, pk_eq (st_v vs zs na nb wn tb k) (vs k) (fun e => ⟨hi, hi, nm_e (nm_r (nI_1 k) ?_)⟩) (fun e => ⟨hi, hi, nm_e (nm_r (nI_1 k) ?_)⟩)⟩
    · rw [if_pos e.symm] at J
      exact J
    · rw [if_neg (fun z => e z.symm), ← nI_1] at J
      exact J
theorem st_Y6 (W : cf_W vs zs na nb wn) (S : cf_Y vv zz tt aa bb ww vs zs na nb wn tb) (hr : ∀ n, n < 11 → ys n = ne_rt (cf_k vs wn tb) na nb (cf_s wn) zs (ne_W (cf_k vs wn tb) na nb (cf_s wn) zs) n) {post : Int32 → SY → Prop} (h : ∀ vv yn : Nat → Int32, (∀ n, n < 11 → vv n = nI (st_v vs zs na nb wn tb n)) → post (nI (st_c vs (st_v vs zs na nb wn tb) 11)) (ln, vv, zz, tt, aa, bb, ww, yw, yu, yf, ye, ys, yn)) :
    ∀ d k (yn : Nat → Int32), k + d = 11 → (∀ n, n < k → yn n = nI (st_v vs zs na nb wn tb n)) → wY_settle_6 post ln (d + 1) (nI k) vv zz tt aa bb ww yw yu yf ye ys yn := by
  intro d
  induction d with
  | zero =>
    intro k yn hk hs
    have e : k = 11 := by omega
    subst e
    exact br_t (by decide) ⟨12, st_Y47 W (fun vv hc => h vv yn hc) hs 11 0 vv rfl (fun n h11 => by rw [if_neg (by omega)]; exact S.1 n h11)⟩
  | succ d ih =>
    intro k yn hk hs
    have hk' : k < 11 := by omega
    have hi : vp_in (nI k) 11 := vp_in_nI hk' (by omega)
    have hn : ∀ x : Int32, x = nI (st_v vs zs na nb wn tb k) → ∀ n, n < k + 1 → upd yn k x n = nI (st_v vs zs na nb wn tb n) := by
      intro x hx n hn
      by_cases c : n = k
      · subst c; rw [pk_us, hx]
      · rw [pk_un c]; exact hs n (by omega)
    rw [wY_settle_6]
    dsimp only
    rw [nI_clamp (n := k) (by omega)]
    refine br_f (nI_ge (b := 11) hk' (by decide)) (pk_le 5 k (fun h5 => yr_after W S hk' ⟨hi, nm_e (nm_r (nI_1 k) (ih (k + 1) _ (by omega) (hn _ ?_)))⟩) (fun h5 => ⟨hi, hi, nm_e (nm_r (nI_1 k) (ih (k + 1) _ (by omega) (hn _ ?_)))⟩))
    · rw [st_hi h5, hr k hk']
    · rw [st_lo h5, S.1 k hk']
theorem st_Y (W : cf_W vs zs na nb wn) (S : cf_Y vv zz tt aa bb ww vs zs na nb wn tb) {post : Int32 → SY → Prop} (h : ∀ (ln : Int32) (vv zz tt aa bb ww yw yu yf ye ys yn : Nat → Int32), cf_Y vv zz tt aa bb ww (st_v vs zs na nb wn tb) zs na nb wn tb → post (nI (st_c vs (st_v vs zs na nb wn tb) 11)) (ln, vv, zz, tt, aa, bb, ww, yw, yu, yf, ye, ys, yn)) : wpY_settle post (ln, vv, zz, tt, aa, bb, ww, yw, yu, yf, ye, ys, yn) := by
  unfold wpY_settle
  dsimp only
  refine yo_work W S ?_
  intro yw yu yf ye ys _ hr
  exact ⟨12, st_Y6 W S hr (fun vv yn hc => h _ _ _ _ _ _ _ _ _ _ _ _ _ ⟨hc, S.2.1, S.2.2.1, S.2.2.2⟩) 11 0 yn rfl (fun n hn => by omega)⟩
/-! unknowns -/
noncomputable def un_c (vs zs na nb wn : Nat → Nat) (tb : Nat → Bool) : Nat → Nat
  | 0 => 0
  | k + 1 => if oc_v (ne_rt (cf_k vs wn tb) na nb (cf_s wn) zs (ne_W (cf_k vs wn tb) na nb (cf_s wn) zs) (5 + k)) vs = 2 then un_c vs zs na nb wn tb k + 1 else un_c vs zs na nb wn tb k
theorem un_X (W : cf_W vs zs na nb wn) (S : cf_X fs fp ch sz ea eb kd ga sr vs zs na nb wn tb) (hr : ∀ n, n < 11 → ro n = ne_rt (cf_k vs wn tb) na nb (cf_s wn) zs (ne_W (cf_k vs wn tb) na nb (cf_s wn) zs) n) {post : Int32 → SX → Prop} (h : post (nI (un_c vs zs na nb wn tb 6)) (fs, fp, ch, sz, ea, eb, kd, ga, sr, we, ro, se)) : ∀ d k, k + d = 6 → wX_unknowns_12 post fs fp ch sz ea eb kd ga sr we ro se (d + 1) (nI (un_c vs zs na nb wn tb k)) (nI (5 + k)) := by
  intro d
  induction d with
  | zero =>
    intro k hk
    have e : k = 6 := by omega
    subst e
    exact br_t (by decide) h
  | succ d ih =>
    intro k hk
    have J := ih (k + 1) (by omega)
    have hv := oc_v_le (ne_rt (cf_k vs wn tb) na nb (cf_s wn) zs (ne_W (cf_k vs wn tb) na nb (cf_s wn) zs) (5 + k)) vs
    rw [un_c] at J
    rw [wX_unknowns_12]
    dsimp only
    refine br_f (nI_ge (b := 11) (by omega) (by decide)) (xo_outcome W S (by omega) ?_)
    rw [hr (5 + k) (by omega)]
    refine pk_eq (oc_v (ne_rt (cf_k vs wn tb) na nb (cf_s wn) zs (ne_W (cf_k vs wn tb) na nb (cf_s wn) zs) (5 + k)) vs) 2 (fun e => nm_r (nI_1 _) (nm_r (nI_1 _) ?_)) (fun e => nm_r (nI_1 _) ?_)
    · rw [if_pos e] at J; exact J
    · rw [if_neg e] at J; exact J
theorem un_Y (W : cf_W vs zs na nb wn) (S : cf_Y vv zz tt aa bb ww vs zs na nb wn tb) (hr : ∀ n, n < 11 → ys n = ne_rt (cf_k vs wn tb) na nb (cf_s wn) zs (ne_W (cf_k vs wn tb) na nb (cf_s wn) zs) n) {post : Int32 → SY → Prop} (h : post (nI (un_c vs zs na nb wn tb 6)) (ln, vv, zz, tt, aa, bb, ww, yw, yu, yf, ye, ys, yn)) : ∀ d k, k + d = 6 → wY_unknowns_8 post ln vv zz tt aa bb ww yw yu yf ye ys yn (d + 1) (nI (un_c vs zs na nb wn tb k)) (nI (5 + k)) := by
  intro d
  induction d with
  | zero =>
    intro k hk
    have e : k = 6 := by omega
    subst e
    exact br_t (by decide) h
  | succ d ih =>
    intro k hk
    have J := ih (k + 1) (by omega)
    have hv := oc_v_le (ne_rt (cf_k vs wn tb) na nb (cf_s wn) zs (ne_W (cf_k vs wn tb) na nb (cf_s wn) zs) (5 + k)) vs
    rw [un_c] at J
    rw [wY_unknowns_8]
    dsimp only
    refine br_f (nI_ge (b := 11) (by omega) (by decide)) (yr_after W S (by omega) ?_)
    rw [hr (5 + k) (by omega)]
    refine pk_eq (oc_v (ne_rt (cf_k vs wn tb) na nb (cf_s wn) zs (ne_W (cf_k vs wn tb) na nb (cf_s wn) zs) (5 + k)) vs) 2 (fun e => nm_r (nI_1 _) (nm_r (nI_1 _) ?_)) (fun e => nm_r (nI_1 _) ?_)
    · rw [if_pos e] at J; exact J
    · rw [if_neg e] at J; exact J
end
/-! inputsFor -/
def if_v (vs : Nat → Nat) (t : Nat) : Nat → Nat := fun n => if n = 2 then t % 2 else if n = 3 then t / 2 % 2 else if n = 4 then t / 4 % 2 else vs n
theorem if_2 {vs : Nat → Nat} {t : Nat} : if_v vs t 2 = t % 2 := rfl
theorem if_3 {vs : Nat → Nat} {t : Nat} : if_v vs t 3 = t / 2 % 2 := rfl
theorem if_4 {vs : Nat → Nat} {t : Nat} : if_v vs t 4 = t / 4 % 2 := rfl
theorem if_o {vs : Nat → Nat} {t n : Nat} (h2 : n ≠ 2) (h3 : n ≠ 3) (h4 : n ≠ 4) : if_v vs t n = vs n := by
  unfold if_v
  rw [if_neg h2, if_neg h3, if_neg h4]
theorem if_le {vs : Nat → Nat} {t n : Nat} (h : 2 ≤ n) (h5 : n < 5) : if_v vs t n ≤ 1 := by
  have c : n = 2 ∨ n = 3 ∨ n = 4 := by omega
  rcases c with c | c | c <;> subst c
  · rw [if_2]; omega
  · rw [if_3]; omega
  · rw [if_4]; omega
noncomputable def if_a (vs zs na nb wn : Nat → Nat) (tb : Nat → Bool) (s t : Nat) : Nat :=
  oc_v (ne_rt (cf_k (if_v vs t) wn tb) na nb (cf_s wn) zs (ne_W (cf_k (if_v vs t) wn tb) na nb (cf_s wn) zs) s) (if_v vs t)
def if_l (f : Nat → Nat) (v : Nat) : Nat → Int32
  | 0 => -1
  | d + 1 => if f (7 - d) = v then nI (7 - d) else if_l f v d
theorem if_bits : ∀ t, t < 8 → bt (nI t) 0 = decide (t % 2 = 1) ∧ bt (nI t) 1 = decide (t / 2 % 2 = 1) ∧ bt (nI t) 2 = decide (t / 4 % 2 = 1) := by decide +kernel
theorem if_put : ∀ t, t < 8 → (nI t &&& 1) = nI (t % 2) ∧ ((nI t >>> ((1 : Int32) &&& 31)) &&& 1) = nI (t / 2 % 2) ∧ (nI t >>> ((2 : Int32) &&& 31)) = nI (t / 4 % 2) := by decide +kernel
theorem if_old : ∀ a, a < 2 → ∀ b, b < 2 → ∀ c, c < 2 → ((nI a ||| (nI b <<< ((1 : Int32) &&& 31))) ||| (nI c <<< ((2 : Int32) &&& 31))) = nI (a + 2 * b + 4 * c) := by decide +kernel
section
variable {fs fp : Int32} {ch sz ea eb kd ga sr we ro se : Nat → Int32} {ln : Int32} {vv zz tt aa bb ww yw yu yf ye ys yn : Nat → Int32} {vs zs na nb wn : Nat → Nat} {tb : Nat → Bool}
theorem if_W (W : cf_W vs zs na nb wn) {t : Nat} : cf_W (if_v vs t) zs na nb wn := by
  obtain ⟨a1, a2, a3, a4, a5, a6, a7⟩ := W
  refine ⟨?_, ?_, ?_, ?_, a5, a6, a7⟩
  · rw [if_o (by omega) (by omega) (by omega)]; exact a1
  · rw [if_o (by omega) (by omega) (by omega)]; exact a2
  · intro n hn
    by_cases c : 2 ≤ n
    · exact if_le c hn
    · rw [if_o (by omega) (by omega) (by omega)]; exact a3 n hn
  · intro n hn
    by_cases c : 2 ≤ n ∧ n < 5
    · have := if_le (vs := vs) (t := t) c.1 c.2; omega
    · rw [if_o (by omega) (by omega) (by omega)]; exact a4 n hn
theorem if_X (S : cf_X fs fp ch sz ea eb kd ga sr vs zs na nb wn tb) {t : Nat} (ht : t < 8) : cf_X (nI t) fp ch sz ea eb kd ga sr (if_v vs t) zs na nb wn tb := by
  obtain ⟨a1, a2, a3, a4, a5, a6⟩ := S
  refine ⟨?_, a2, ?_, a4, a5, a6⟩
  · intro i hi
    have b := if_bits t ht
    have c : i = 0 ∨ i = 1 ∨ i = 2 := by omega
    rcases c with c | c | c <;> subst c
    · exact b.1
    · exact b.2.1
    · exact b.2.2
  · intro n h5 h11
    rw [if_o (by omega) (by omega) (by omega)]; exact a3 n h5 h11
theorem if_X20 (W : cf_W vs zs na nb wn) (S : cf_X fs fp ch sz ea eb kd ga sr vs zs na nb wn tb) {s v : Nat} (hs : s < 11) (hv : v ≤ 2) {post : Int32 → SX → Prop} : ∀ d t (we ro : Nat → Int32), t + d = 8 → (∀ we ro : Nat → Int32, post (if_l (if_a vs zs na nb wn tb s) v d) (fs, fp, ch, sz, ea, eb, kd, ga, sr, we, ro, se)) → wX_inputsFor_20 post (nI s) (nI v) (d + 1) (nI t) fs fp ch sz ea eb kd ga sr we ro se := by
  intro d
  induction d with
  | zero =>
    intro t we ro ht h
    have e : t = 8 := by omega
    subst e
    exact br_t (by decide) (h we ro)
  | succ d ih =>
    intro t we ro ht h
    have ht' : t < 8 := by omega
    have e7 : 7 - d = t := by omega
    rw [if_l, e7] at h
    rw [wX_inputsFor_20]
    dsimp only
    refine br_f (nI_ge (b := 8) ht' (by decide)) (xr_trace (if_W W) (if_X S ht') ?_)
    intro we ro _ hr
    dsimp only
    refine xo_outcome (if_W W) (if_X S ht') hs ?_
    rw [hr s hs]
    have hl : if_a vs zs na nb wn tb s t ≤ 2 := oc_v_le _ _
    refine pk_eq (if_a vs zs na nb wn tb s t) v (fun e => ?_) (fun e => nm_r (nI_1 t) (ih (t + 1) we ro (by omega) ?_))
    · rw [if_pos e] at h; exact h we ro
    · rw [if_neg e] at h; exact h
theorem if_Yput {t : Nat} (ht : t < 8) {vs' : Nat → Nat} (ho : ∀ n, n ≠ 2 → n ≠ 3 → n ≠ 4 → vs' n = vs n) (S : cf_Y vv zz tt aa bb ww vs' zs na nb wn tb) {post : SY → Prop} (h : ∀ vv : Nat → Int32, cf_Y vv zz tt aa bb ww (if_v vs t) zs na nb wn tb → post (ln, vv, zz, tt, aa, bb, ww, yw, yu, yf, ye, ys, yn)) : wpY_inputs post (ln, vv, zz, tt, aa, bb, ww, yw, yu, yf, ye, ys, yn) (nI t) := by
  obtain ⟨e2, e3, e4⟩ := if_put t ht
  unfold wpY_inputs
  dsimp only
  rw [e2, e3, e4]
  refine nm_e (nm_e (nm_e (h _ ⟨?_, S.2.1, S.2.2.1, S.2.2.2⟩)))
  intro n hn
  by_cases c4 : n = 4
  · subst c4; rw [pk_us, if_4]
  · rw [pk_un c4]
    by_cases c3 : n = 3
    · subst c3; rw [pk_us, if_3]
    · rw [pk_un c3]
      by_cases c2 : n = 2
      · subst c2; rw [pk_us, if_2]
      · rw [pk_un c2, if_o c2 c3 c4, S.1 n hn, ho n c2 c3 c4]
theorem if_Yw (W : cf_W vs zs na nb wn) (S : cf_Y vv zz tt aa bb ww vs zs na nb wn tb) {s : Nat} (h5 : 5 ≤ s) (h11 : s < 11) {post : Int32 → SY → Prop} (h : ∀ (ln : Int32) (yw yu yf ye ys : Nat → Int32), post (nI (oc_v (ne_rt (cf_k vs wn tb) na nb (cf_s wn) zs (ne_W (cf_k vs wn tb) na nb (cf_s wn) zs) s) vs)) (ln, vv, zz, tt, aa, bb, ww, yw, yu, yf, ye, ys, yn)) : wpY_would post (ln, vv, zz, tt, aa, bb, ww, yw, yu, yf, ye, ys, yn) (nI s) := by
  unfold wpY_would
  dsimp only
  refine yo_work W S ?_
  intro yw yu yf ye ys _ hr
  dsimp only
  refine yc_node (by omega) (fun _ => br_f (by decide) (br_t (nI_le (a := 5) h5 (by omega)) (yr_after W S h11 ?_))) (fun z => by omega)
  rw [hr s h11]
  exact h _ _ _ _ _ _
theorem if_Y51 (W : cf_W vs zs na nb wn) {s v o : Nat} (h5 : 5 ≤ s) (h11 : s < 11) (hv : v ≤ 2) (ho8 : o < 8) (ho : ∀ n, if_v vs o n = vs n) {post : Int32 → SY → Prop} (h : ∀ (ln : Int32) (vv zz tt aa bb ww yw yu yf ye ys yn : Nat → Int32), cf_Y vv zz tt aa bb ww vs zs na nb wn tb → post (if_l (if_a vs zs na nb wn tb s) v 8) (ln, vv, zz, tt, aa, bb, ww, yw, yu, yf, ye, ys, yn)) :
    ∀ t (ln : Int32) (vv yw yu yf ye ys : Nat → Int32) (vs' : Nat → Nat), t ≤ 8 → (∀ n, n ≠ 2 → n ≠ 3 → n ≠ 4 → vs' n = vs n) → cf_Y vv zz tt aa bb ww vs' zs na nb wn tb → wY_inputsFor_51 post (nI s) (nI v) (nI o) (t + 1) (if_l (if_a vs zs na nb wn tb s) v (8 - t)) (nI t + (-1)) ln vv zz tt aa bb ww yw yu yf ye ys yn := by
  intro t
  induction t with
  | zero =>
    intro ln vv yw yu yf ye ys vs' _ hn S
    refine br_t (by decide) (if_Yput ho8 hn S ?_)
    intro vv S'
    have e : if_v vs o = vs := funext ho
    rw [e] at S'
    exact h _ _ _ _ _ _ _ _ _ _ _ _ _ S'
  | succ t ih =>
    intro ln vv yw yu yf ye ys vs' ht hn S
    have ht' : t < 8 := by omega
    rw [pk_m1, wY_inputsFor_51]
    dsimp only
    refine br_f (nI_pos (by omega)) (if_Yput ht' hn S ?_)
    intro vv S'
    dsimp only
    refine if_Yw (if_W W) S' h5 h11 ?_
    intro ln yw yu yf ye ys
    dsimp only
    have J := ih ln vv yw yu yf ye ys (if_v vs t) (by omega) (fun n a b c => if_o a b c) S'
    have e8 : 8 - t = (7 - t) + 1 := by omega
    have e7 : 7 - (7 - t) = t := by omega
    have e8' : 8 - (t + 1) = 7 - t := by omega
    rw [e8, if_l, e7] at J
    rw [e8']
    have hl : if_a vs zs na nb wn tb s t ≤ 2 := oc_v_le _ _
    refine pk_eq (if_a vs zs na nb wn tb s t) v (fun e => nm_e ?_) (fun e => nm_e ?_)
    · rw [if_pos e] at J; exact J
    · rw [if_neg e] at J; exact J
end
end
section
/-! ===== what is owed ===== -/
def in_v (n : Nat) : Nat := if 5 ≤ n then 2 else if n = 1 then 1 else 0
def in_z (n : Nat) : Nat := if 5 ≤ n then 1 else 7
theorem in_W : cf_W in_v in_z (fun _ => 0) (fun _ => 0) (fun _ => 0) := by
  refine ⟨rfl, rfl, ?_, ?_, ?_, ?_, ?_⟩
  · intro n hn
    unfold in_v
    rw [if_neg (by omega)]
    split <;> omega
  · intro n hn
    unfold in_v
    split
    · omega
    · split <;> omega
  · intro n hn
    unfold in_z
    rw [if_neg (by omega)]
  · intro n hn h11
    unfold in_z
    rw [if_pos hn]
    omega
  · intro k hk
    exact ⟨(by decide : 0 < 11), (by decide : 0 < 11), (by decide : 0 < 27)⟩
theorem in_X {post : SX → Prop} (h : ∀ ch sz : Nat → Int32, (∀ n, 5 ≤ n → n < 11 → ch n = 2 ∧ sz n = 1) → post (0, 0, ch, sz, (fun _ => 0), (fun _ => 0), (fun _ => 0), (fun _ => 0), (fun _ => 0), (fun _ => 0), (fun _ => 0), (fun _ => 0))) :
    ∀ d k (ch sz : Nat → Int32), k + d = 11 → (∀ n, 5 ≤ n → n < k → ch n = 2 ∧ sz n = 1) → wX_init_96 post 0 0 (d + 1) (nI k) ch sz (fun _ => 0) (fun _ => 0) (fun _ => 0) (fun _ => 0) (fun _ => 0) (fun _ => 0) (fun _ => 0) (fun _ => 0) := by
  intro d
  induction d with
  | zero =>
    intro k ch sz hk hc
    have e : k = 11 := by omega
    subst e
    exact br_t (by decide) (h ch sz hc)
  | succ d ih =>
    intro k ch sz hk hc
    have hk' : k < 11 := by omega
    have hi : vp_in (nI k) 11 := vp_in_nI hk' (by omega)
    rw [wX_init_96]
    dsimp only
    rw [nI_clamp (n := k) (by omega)]
    refine br_f (nI_ge (b := 11) hk' (by decide)) ⟨hi, nm_e ⟨hi, nm_e (nm_r (nI_1 k) (ih (k + 1) _ _ (by omega) ?_))⟩⟩
    intro n h5 hn
    by_cases c : n = k
    · subst c; exact ⟨pk_us, pk_us⟩
    · rw [pk_un c, pk_un c]; exact hc n h5 (by omega)
theorem in_Y {post : SY → Prop} (h : ∀ vv zz : Nat → Int32, (∀ n, n < 11 → vv n = nI (in_v n) ∧ zz n = nI (in_z n)) → post (0, vv, zz, (fun _ => 0), (fun _ => 0), (fun _ => 0), (fun _ => 0), (fun _ => 0), (fun _ => 0), (fun _ => 0), (fun _ => 0), (fun _ => 0), (fun _ => 0))) :
    ∀ d k (vv zz : Nat → Int32), k + d = 11 → (∀ n, n < k → vv n = nI (in_v n) ∧ zz n = nI (in_z n)) → wY_init_102 post 0 (d + 1) (nI k) vv zz (fun _ => 0) (fun _ => 0) (fun _ => 0) (fun _ => 0) (fun _ => 0) (fun _ => 0) (fun _ => 0) (fun _ => 0) (fun _ => 0) (fun _ => 0) := by
  intro d
  induction d with
  | zero =>
    intro k vv zz hk hc
    have e : k = 11 := by omega
    subst e
    exact br_t (by decide) (h vv zz hc)
  | succ d ih =>
    intro k vv zz hk hc
    have hk' : k < 11 := by omega
    have hi : vp_in (nI k) 11 := vp_in_nI hk' (by omega)
    have J : ∀ x y : Int32, x = nI (in_v k) → y = nI (in_z k) → wY_init_102 post 0 (d + 1) (nI (k + 1)) (upd vv k x) (upd zz k y) (fun _ => 0) (fun _ => 0) (fun _ => 0) (fun _ => 0) (fun _ => 0) (fun _ => 0) (fun _ => 0) (fun _ => 0) (fun _ => 0) (fun _ => 0) := by
      intro x y hx hy
      refine ih (k + 1) _ _ (by omega) ?_
      intro n hn
      by_cases c : n = k
      · subst c; rw [pk_us, pk_us]; exact ⟨hx, hy⟩
      · rw [pk_un c, pk_un c]; exact hc n (by omega)
    have key : ∀ x : Int32, x = nI (in_v k) → wY_init_132 post (wY_init_102 post 0 (d + 1)) (nI k) x (nI k) 0 vv zz (fun _ => 0) (fun _ => 0) (fun _ => 0) (fun _ => 0) (fun _ => 0) (fun _ => 0) (fun _ => 0) (fun _ => 0) (fun _ => 0) (fun _ => 0) := by
      intro x hx
      unfold wY_init_132
      rw [nI_clamp (n := k) (by omega)]
      refine ⟨hi, nm_e (pk_le 5 k (fun h5 => ⟨hi, nm_e (nm_r (nI_1 k) (J x 1 hx ?_))⟩) (fun h5 => ⟨hi, nm_e (nm_r (nI_1 k) (J x 7 hx ?_))⟩))⟩
      · unfold in_z; rw [if_pos h5]; rfl
      · unfold in_z; rw [if_neg (by omega)]; rfl
    rw [wY_init_102]
    dsimp only
    refine br_f (nI_ge (b := 11) hk' (by decide)) (pk_lt k 5 (fun h5 => pk_eq k 1 (fun e => key 1 ?_) (fun e => key 0 ?_)) (fun h5 => key 2 ?_))
    · subst e; rfl
    · unfold in_v; rw [if_neg (by omega), if_neg e]; rfl
    · unfold in_v; rw [if_pos h5]; rfl
theorem i_vc0 : wpX_init (fun u => wpY_init (fun v => i_Rel 0 u v)) := by
  refine ⟨7, in_X ?_ 6 5 _ _ rfl (fun n a b => by omega)⟩
  intro ch sz hx
  refine ⟨12, in_Y ?_ 11 0 _ _ rfl (fun n a => by omega)⟩
  intro vv zz hy
  refine cg_rel (vs := in_v) (zs := in_z) (na := fun _ => 0) (nb := fun _ => 0) (wn := fun _ => 0) (tb := fun _ => false) in_W ⟨?_, ?_, ?_, ?_, ?_, ?_⟩ ⟨fun n hn => (hy n hn).1, fun n hn => (hy n hn).2, ?_, ?_⟩
  · intro i hi
    rw [b_0]
    unfold in_v
    rw [if_neg (by omega), if_neg (by omega)]
    rfl
  · intro i hi
    rw [b_0, Bool.and_false]
  · intro n h5 h11
    rw [(hx n h5 h11).1]
    unfold in_v
    rw [if_pos h5]
    rfl
  · intro n h5 h11
    rw [(hx n h5 h11).2]
    unfold in_z
    rw [if_pos h5]
    rfl
  · intro k hk
    exact ⟨rfl, rfl⟩
  · intro k hk ht
    exact Bool.noConfusion (ht : false = true)
  · intro k hk
    rfl
  · intro k hk
    exact ⟨rfl, rfl, rfl⟩
theorem i_vc_add {k : Nat} {u : SX} {v : SY} (I : i_Rel k u v) (hk : k + 4 ≤ 2048) (v1 : Int32) (v2 : Int32) (v3 : Int32) : wpX_add (fun r u' => wpY_add (fun r' v' => r' = r ∧ i_Rel (k + 4) u' v') v v1 v2 v3) u v1 v2 v3 := by
  have I0 := i_up I
  obtain ⟨fs, fp, ch, sz, ea, eb, kd, ga, sr, we, ro, se, ln, vv, zz, tt, aa, bb, ww, yw, yu, yf, ye, ys, yn, vs, zs, na, nb, wn, tb, rfl, rfl, W, A, B⟩ := I
  unfold wpX_add wpY_add
  dsimp only
  by_cases e12 : v1 = v2
  · exact br_t e12 (br_t e12 ⟨rfl, I0⟩)
  refine br_f e12 ?_
  rcases cg_node v1 with ⟨a, ha, rfl⟩ | ⟨nx, ny⟩
  · refine xc_node (by omega) (fun _ => br_f (by decide) ?_) (fun z => by omega)
    rcases cg_node v2 with ⟨b, hb, rfl⟩ | ⟨nx, ny⟩
    · refine xc_node (by omega) (fun _ => br_f (by decide) ?_) (fun z => by omega)
      by_cases e3 : v3 < 0
      · exact br_t e3 (br_f e12 (yc_node (by omega) (fun _ => br_f (by decide) (yc_node (by omega) (fun _ => br_f (by decide) (br_t e3 ⟨rfl, I0⟩)) (fun z => by omega))) (fun z => by omega)))
      · obtain ⟨w, hw, rfl⟩ := nI_of e3
        refine br_f e3 (pk_lt w 27 (fun h27 => ?_) (fun h27 => ?_))
        · have hi : ∀ j, j < 12 → vp_in (nI j) 12 := fun j hj => vp_in_nI hj (by omega)
          refine ⟨13, cg_free A ?_ ?_ 12 0 rfl (fun j hj => by omega)⟩
          · intro j hj t0 t1
            refine br_f (fun z => absurd ((nI_eq (b := 12) (by omega) (by decide)).mp z) (by omega)) ?_
            rw [nI_clamp (n := j) (by omega)]
            refine ⟨hi j hj, nm_e ⟨hi j hj, nm_e ⟨by decide, hi j hj, nm_e ⟨by decide, by decide, hi j hj, nm_e ⟨by decide, hi j hj, nm_e (nm_e ?_)⟩⟩⟩⟩⟩
            refine br_f e12 (yc_node (by omega) (fun _ => br_f (by decide) (yc_node (by omega) (fun _ => br_f (by decide) (br_f e3 (pk_le w 26 (fun _ => ⟨13, cg_put B ?_ ?_ 12 0 rfl (fun j hj => by omega)⟩) (fun z => by omega)))) (fun z => by omega))) (fun z => by omega))
            · intro j' hj' t0' t1'
              have e : j' = j := by
                rcases Nat.lt_trichotomy j' j with c | c | c
                · have := t1 j' c; rw [t0'] at this; exact absurd this (by decide)
                · exact c
                · have := t1' j c; rw [t0] at this; exact absurd this (by decide)
              subst e
              exact ⟨rfl, cg_rel (cg_addW W ha hb h27) (cg_addX A hj h27) (cg_addY B)⟩
            · intro z
              have := z j hj
              rw [t0] at this
              exact absurd this (by decide)
          · intro t1
            refine br_t rfl (br_f e12 (yc_node (by omega) (fun _ => br_f (by decide) (yc_node (by omega) (fun _ => br_f (by decide) (br_f e3 (pk_le w 26 (fun _ => ⟨13, cg_put B ?_ ?_ 12 0 rfl (fun j hj => by omega)⟩) (fun z => by omega)))) (fun z => by omega))) (fun z => by omega)))
            · intro j' hj' t0' t1'
              have := t1 j' hj'
              rw [t0'] at this
              exact absurd this (by decide)
            · intro z
              exact ⟨rfl, I0⟩
        · exact br_f e12 (yc_node (by omega) (fun _ => br_f (by decide) (yc_node (by omega) (fun _ => br_f (by decide) (br_f e3 (pk_le w 26 (fun z => by omega) (fun _ => ⟨rfl, I0⟩)))) (fun z => by omega))) (fun z => by omega))
    · exact nx _ (br_t rfl (br_f e12 (yc_node (by omega) (fun _ => br_f (by decide) (ny _ _ _ _ _ _ _ _ _ _ _ _ _ _ (br_t rfl ⟨rfl, I0⟩))) (fun z => by omega))))
  · exact nx _ (br_t rfl (br_f e12 (ny _ _ _ _ _ _ _ _ _ _ _ _ _ _ (br_t rfl ⟨rfl, I0⟩))))
theorem i_vc_remove {k : Nat} {u : SX} {v : SY} (I : i_Rel k u v) (hk : k + 4 ≤ 2048) (v1 : Int32) : wpX_remove (fun r u' => wpY_remove (fun r' v' => r' = r ∧ i_Rel (k + 4) u' v') v v1) u v1 := by
  have I0 := i_up I
  obtain ⟨fs, fp, ch, sz, ea, eb, kd, ga, sr, we, ro, se, ln, vv, zz, tt, aa, bb, ww, yw, yu, yf, ye, ys, yn, vs, zs, na, nb, wn, tb, rfl, rfl, W, A, B⟩ := I
  unfold wpX_remove wpY_remove
  dsimp only
  by_cases e1 : v1 < 0
  · exact br_t e1 (br_t e1 ⟨rfl, I0⟩)
  · obtain ⟨j, hj, rfl⟩ := nI_of e1
    refine br_f e1 (pk_le 12 j (fun h => br_f e1 (pk_lt 11 j (fun _ => ⟨rfl, I0⟩) (fun z => by omega))) (fun h => ?_))
    have hi : vp_in (nI j) 12 := vp_in_nI h (by omega)
    have hp := A.2.1 j (by omega)
    rw [decide_eq_true h, Bool.true_and] at hp
    have ht := B.2.2.1 j h
    refine xc_bit (by omega) (fun hb => br_f (by decide) (nm_e (br_f e1 (pk_lt 11 j (fun z => by omega) (fun _ => ⟨hi, ?_⟩))))) (fun hb => br_t rfl (br_f e1 (pk_lt 11 j (fun z => by omega) (fun _ => ⟨hi, ?_⟩))))
    · rw [hp] at hb
      rw [nI_clamp (n := j) (by omega), ht, hb]
      exact br_f (by decide) ⟨hi, nm_e ⟨rfl, cg_rel W (cg_remX A h) (cg_remY B)⟩⟩
    · rw [hp] at hb
      rw [nI_clamp (n := j) (by omega), ht, hb]
      exact br_t rfl ⟨rfl, I0⟩
theorem i_vc_set {k : Nat} {u : SX} {v : SY} (I : i_Rel k u v) (hk : k + 4 ≤ 2048) (v1 : Int32) (v2 : Int32) : wpX_set (fun r u' => wpY_set (fun r' v' => r' = r ∧ i_Rel (k + 4) u' v') v v1 v2) u v1 v2 := by
  have I0 := i_up I
  obtain ⟨fs, fp, ch, sz, ea, eb, kd, ga, sr, we, ro, se, ln, vv, zz, tt, aa, bb, ww, yw, yu, yf, ye, ys, yn, vs, zs, na, nb, wn, tb, rfl, rfl, W, A, B⟩ := I
  unfold wpX_set wpY_set
  dsimp only
  by_cases e1 : v1 < 2
  · exact br_t e1 (br_t e1 ⟨rfl, I0⟩)
  · have e0 : ¬ v1 < 0 := fun z => e1 (Int32.lt_trans z (by decide))
    obtain ⟨i, hi, rfl⟩ := nI_of e0
    have h2 : 2 ≤ i := by
      rcases Nat.lt_or_ge i 2 with c | c
      · exact absurd (nI_lt (b := 2) c (by decide)) e1
      · exact c
    refine br_f e1 (pk_le 5 i (fun h => br_f e1 (pk_lt 4 i (fun _ => ⟨rfl, I0⟩) (fun z => by omega))) (fun h => ?_))
    by_cases e2 : v2 < 0
    · exact br_t e2 (br_f e1 (pk_lt 4 i (fun z => by omega) (fun _ => br_t e2 ⟨rfl, I0⟩)))
    · obtain ⟨w, hw, rfl⟩ := nI_of e2
      refine br_f e2 (pk_le w 1 (fun h1 => ?_) (fun h1 => br_f e1 (pk_lt 4 i (fun z => by omega) (fun _ => br_f e2 (pk_le w 1 (fun z => by omega) (fun _ => ⟨rfl, I0⟩))))))
      have ei : nI i - 2 = nI (i - 2) := pk_sub (b := 2) h2
      refine nm_r ei (nm_e (br_f e1 (pk_lt 4 i (fun z => by omega) (fun _ => br_f e2 (pk_le w 1 (fun _ => ⟨vp_in_nI (by omega) (by omega), nm_e ⟨rfl, ?_⟩⟩) (fun z => by omega))))))
      rw [nI_clamp (n := i) (by omega)]
      have ex := cg_setX A (p := i - 2) (v := w) (by omega) h1
      rw [show 2 + (i - 2) = i from by omega] at ex
      exact cg_rel (cg_setW W h2 h h1) ex (cg_valY B)
theorem i_vc_size {k : Nat} {u : SX} {v : SY} (I : i_Rel k u v) (hk : k + 4 ≤ 2048) (v1 : Int32) (v2 : Int32) : wpX_size (fun r u' => wpY_size (fun r' v' => r' = r ∧ i_Rel (k + 4) u' v') v v1 v2) u v1 v2 := by
  have I0 := i_up I
  obtain ⟨fs, fp, ch, sz, ea, eb, kd, ga, sr, we, ro, se, ln, vv, zz, tt, aa, bb, ww, yw, yu, yf, ye, ys, yn, vs, zs, na, nb, wn, tb, rfl, rfl, W, A, B⟩ := I
  unfold wpX_size wpY_size
  dsimp only
  rcases cg_store v1 with ⟨s, h5, h11, rfl⟩ | ⟨nx, ny⟩
  · refine xc_store (by omega) (fun _ _ => br_f (by decide) ?_) (fun z => absurd ⟨h5, h11⟩ z)
    by_cases e2 : v2 < 1
    · exact br_t e2 (yc_store (by omega) (fun _ _ => br_f (by decide) (br_t e2 ⟨rfl, I0⟩)) (fun z => absurd ⟨h5, h11⟩ z))
    · have e0 : ¬ v2 < 0 := fun z => e2 (Int32.lt_trans z (by decide))
      obtain ⟨z, hz, rfl⟩ := nI_of e0
      have h1 : 1 ≤ z := by
        rcases Nat.lt_or_ge z 1 with c | c
        · exact absurd (nI_lt (b := 1) c (by decide)) e2
        · exact c
      refine br_f e2 (pk_le z 3 (fun h3 => ⟨vp_in_nI h11 (by omega), nm_e ?_⟩) (fun h3 => ?_))
      · refine yc_store (by omega) (fun _ _ => br_f (by decide) (br_f e2 (pk_le z 3 (fun _ => ⟨vp_in_nI h11 (by omega), nm_e ⟨rfl, ?_⟩⟩) (fun z => by omega)))) (fun z => absurd ⟨h5, h11⟩ z)
        rw [nI_clamp (n := s) (by omega)]
        exact cg_rel (cg_sizW W h5 h1 h3) (cg_sizX A) (cg_sizY B)
      · exact yc_store (by omega) (fun _ _ => br_f (by decide) (br_f e2 (pk_le z 3 (fun z => by omega) (fun _ => ⟨rfl, I0⟩)))) (fun z => absurd ⟨h5, h11⟩ z)
  · exact nx _ (br_t rfl (ny _ _ _ _ _ _ _ _ _ _ _ _ _ _ (br_t rfl ⟨rfl, I0⟩)))
theorem i_vc_charge {k : Nat} {u : SX} {v : SY} (I : i_Rel k u v) (hk : k + 4 ≤ 2048) (v1 : Int32) (v2 : Int32) : wpX_charge (fun r u' => wpY_charge (fun r' v' => r' = r ∧ i_Rel (k + 4) u' v') v v1 v2) u v1 v2 := by
  have I0 := i_up I
  obtain ⟨fs, fp, ch, sz, ea, eb, kd, ga, sr, we, ro, se, ln, vv, zz, tt, aa, bb, ww, yw, yu, yf, ye, ys, yn, vs, zs, na, nb, wn, tb, rfl, rfl, W, A, B⟩ := I
  unfold wpX_charge wpY_charge
  dsimp only
  rcases cg_store v1 with ⟨s, h5, h11, rfl⟩ | ⟨nx, ny⟩
  · refine xc_store (by omega) (fun _ _ => br_f (by decide) ?_) (fun z => absurd ⟨h5, h11⟩ z)
    by_cases e2 : v2 < 0
    · exact br_t e2 (yc_store (by omega) (fun _ _ => br_f (by decide) (br_t e2 ⟨rfl, I0⟩)) (fun z => absurd ⟨h5, h11⟩ z))
    · obtain ⟨z, hz, rfl⟩ := nI_of e2
      refine br_f e2 (pk_le z 2 (fun h3 => ⟨vp_in_nI h11 (by omega), nm_e ?_⟩) (fun h3 => ?_))
      · refine yc_store (by omega) (fun _ _ => br_f (by decide) (br_f e2 (pk_le z 2 (fun _ => ⟨vp_in_nI h11 (by omega), nm_e ⟨rfl, ?_⟩⟩) (fun z => by omega)))) (fun z => absurd ⟨h5, h11⟩ z)
        rw [nI_clamp (n := s) (by omega)]
        exact cg_rel (cg_chgW W h5 h3) (cg_chgX A h5) (cg_valY B)
      · exact yc_store (by omega) (fun _ _ => br_f (by decide) (br_f e2 (pk_le z 2 (fun z => by omega) (fun _ => ⟨rfl, I0⟩)))) (fun z => absurd ⟨h5, h11⟩ z)
  · exact nx _ (br_t rfl (ny _ _ _ _ _ _ _ _ _ _ _ _ _ _ (br_t rfl ⟨rfl, I0⟩)))
theorem i_vc_settle {k : Nat} {u : SX} {v : SY} (I : i_Rel k u v) (hk : k + 4 ≤ 2048) : wpX_settle (fun r u' => wpY_settle (fun r' v' => r' = r ∧ i_Rel (k + 4) u' v') v) u := by
  obtain ⟨fs, fp, ch, sz, ea, eb, kd, ga, sr, we, ro, se, ln, vv, zz, tt, aa, bb, ww, yw, yu, yf, ye, ys, yn, vs, zs, na, nb, wn, tb, rfl, rfl, W, A, B⟩ := I
  refine st_X W A ?_
  intro ch we ro se A'
  refine st_Y W B ?_
  intro ln vv zz tt aa bb ww yw yu yf ye ys yn B'
  exact ⟨rfl, cg_rel (st_W W) A' B'⟩
theorem i_vc_holds {k : Nat} {u : SX} {v : SY} (I : i_Rel k u v) (hk : k + 4 ≤ 2048) (v1 : Int32) : wpX_holds (fun r => wpY_holds (fun r' => r' = r ∧ i_Rel (k + 4) u v) v v1) u v1 := by
  have I0 := i_up I
  obtain ⟨fs, fp, ch, sz, ea, eb, kd, ga, sr, we, ro, se, ln, vv, zz, tt, aa, bb, ww, yw, yu, yf, ye, ys, yn, vs, zs, na, nb, wn, tb, rfl, rfl, W, A, B⟩ := I
  unfold wpX_holds wpY_holds
  dsimp only
  rcases cg_node v1 with ⟨n, hn, rfl⟩ | ⟨nx, ny⟩
  · refine xc_node (by omega) (fun _ => br_f (by decide) (xc_value W A hn (yc_node (by omega) (fun _ => br_f (by decide) ⟨vp_in_nI hn (by omega), ?_, I0⟩) (fun z => by omega)))) (fun z => by omega)
    rw [nI_clamp (by omega)]
    exact B.1 n hn
  · exact nx _ (br_t rfl (ny _ _ _ _ _ _ _ _ _ _ _ _ _ _ (br_t rfl ⟨rfl, I0⟩)))
theorem i_vc_would {k : Nat} {u : SX} {v : SY} (I : i_Rel k u v) (hk : k + 4 ≤ 2048) (v1 : Int32) : wpX_would (fun r u' => wpY_would (fun r' v' => r' = r ∧ i_Rel (k + 4) u' v') v v1) u v1 := by
  obtain ⟨fs, fp, ch, sz, ea, eb, kd, ga, sr, we, ro, se, ln, vv, zz, tt, aa, bb, ww, yw, yu, yf, ye, ys, yn, vs, zs, na, nb, wn, tb, rfl, rfl, W, A, B⟩ := I
  unfold wpX_would wpY_would
  dsimp only
  rcases cg_node v1 with ⟨n, hn, rfl⟩ | ⟨nx, ny⟩
  · refine xc_node (by omega) (fun _ => br_f (by decide) (xr_trace W A ?_)) (fun z => by omega)
    intro we ro _ hr
    dsimp only
    refine xo_outcome W A hn (yo_work W B ?_)
    intro yw yu yf ye ys _ hs
    dsimp only
    have R : ∀ r' : Int32, r' = nI (oc_v (ne_rt (cf_k vs wn tb) na nb (cf_s wn) zs (ne_W (cf_k vs wn tb) na nb (cf_s wn) zs) n) vs) → r' = nI (oc_v (ro n) vs) ∧ i_Rel (k + 4) (fs, fp, ch, sz, ea, eb, kd, ga, sr, we, ro, se) (0, vv, zz, tt, aa, bb, ww, yw, yu, yf, ye, ys, yn) := fun r' e => ⟨by rw [hr n hn]; exact e, cg_rel W A B⟩
    refine yc_node (by omega) (fun _ => br_f (by decide) (pk_le 5 n (fun h5 => yr_after W B hn (R _ ?_)) (fun h5 => ⟨vp_in_nI hn (by omega), R _ ?_⟩))) (fun z => by omega)
    · rw [hs n hn]
    · rw [nI_clamp (by omega), B.1 n hn, mo_in W h5]
  · refine nx _ (br_t rfl (yo_work W B ?_))
    intro yw yu yf ye ys _ hs
    dsimp only
    exact ny _ _ _ _ _ _ _ _ _ _ _ _ _ _ (br_t rfl ⟨rfl, cg_rel W A B⟩)
theorem i_vc_weight {k : Nat} {u : SX} {v : SY} (I : i_Rel k u v) (hk : k + 4 ≤ 2048) (v1 : Int32) : wpX_weight (fun r u' => wpY_weight (fun r' v' => r' = r ∧ i_Rel (k + 4) u' v') v v1) u v1 := by
  obtain ⟨fs, fp, ch, sz, ea, eb, kd, ga, sr, we, ro, se, ln, vv, zz, tt, aa, bb, ww, yw, yu, yf, ye, ys, yn, vs, zs, na, nb, wn, tb, rfl, rfl, W, A, B⟩ := I
  unfold wpX_weight wpY_weight
  dsimp only
  rcases cg_node v1 with ⟨n, hn, rfl⟩ | ⟨nx, ny⟩
  · refine xc_node (by omega) (fun _ => br_f (by decide) (xr_trace W A ?_)) (fun z => by omega)
    intro we ro he _
    dsimp only
    rw [nI_clamp (n := n) (by omega)]
    refine ⟨vp_in_nI hn (by omega), yo_work W B ?_⟩
    intro yw yu yf ye ys hs _
    dsimp only
    exact yc_node (by omega) (fun _ => br_f (by decide) ⟨vp_in_nI hn (by omega), by rw [he n hn, hs n hn], cg_rel W A B⟩) (fun z => by omega)
  · refine nx _ (br_t rfl (yo_work W B ?_))
    intro yw yu yf ye ys _ hs
    dsimp only
    exact ny _ _ _ _ _ _ _ _ _ _ _ _ _ _ (br_t rfl ⟨rfl, cg_rel W A B⟩)
theorem i_vc_roots {k : Nat} {u : SX} {v : SY} (I : i_Rel k u v) (hk : k + 4 ≤ 2048) (v1 : Int32) : wpX_roots (fun r u' => wpY_roots (fun r' v' => r' = r ∧ i_Rel (k + 4) u' v') v v1) u v1 := by
  obtain ⟨fs, fp, ch, sz, ea, eb, kd, ga, sr, we, ro, se, ln, vv, zz, tt, aa, bb, ww, yw, yu, yf, ye, ys, yn, vs, zs, na, nb, wn, tb, rfl, rfl, W, A, B⟩ := I
  unfold wpX_roots wpY_roots
  dsimp only
  rcases cg_node v1 with ⟨n, hn, rfl⟩ | ⟨nx, ny⟩
  · refine xc_node (by omega) (fun _ => br_f (by decide) (xr_trace W A ?_)) (fun z => by omega)
    intro we ro _ he
    dsimp only
    rw [nI_clamp (n := n) (by omega)]
    refine ⟨vp_in_nI hn (by omega), yo_work W B ?_⟩
    intro yw yu yf ye ys _ hs
    dsimp only
    exact yc_node (by omega) (fun _ => br_f (by decide) ⟨vp_in_nI hn (by omega), by rw [he n hn, hs n hn], cg_rel W A B⟩) (fun z => by omega)
  · refine nx _ (br_t rfl (yo_work W B ?_))
    intro yw yu yf ye ys _ hs
    dsimp only
    exact ny _ _ _ _ _ _ _ _ _ _ _ _ _ _ (br_t rfl ⟨rfl, cg_rel W A B⟩)
theorem i_vc_closed {k : Nat} {u : SX} {v : SY} (I : i_Rel k u v) (hk : k + 4 ≤ 2048) : wpX_closed (fun r => wpY_closed (fun r' => r' = r ∧ i_Rel (k + 4) u v) v) u := by
  have I0 := i_up I
  obtain ⟨fs, fp, ch, sz, ea, eb, kd, ga, sr, we, ro, se, ln, vv, zz, tt, aa, bb, ww, yw, yu, yf, ye, ys, yn, vs, zs, na, nb, wn, tb, rfl, rfl, W, A, B⟩ := I
  unfold wpX_closed
  dsimp only
  exact xc_closed W A (yr_closed W B ⟨rfl, I0⟩)
theorem i_vc_switches {k : Nat} {u : SX} {v : SY} (I : i_Rel k u v) (hk : k + 4 ≤ 2048) : wpX_switches (fun r => wpY_switches (fun r' => r' = r ∧ i_Rel (k + 4) u v) v) u := by
  have I0 := i_up I
  obtain ⟨fs, fp, ch, sz, ea, eb, kd, ga, sr, we, ro, se, ln, vv, zz, tt, aa, bb, ww, yw, yu, yf, ye, ys, yn, vs, zs, na, nb, wn, tb, rfl, rfl, W, A, B⟩ := I
  unfold wpX_switches
  dsimp only
  refine yr_switches B ⟨?_, I0⟩
  apply b_ext
  intro i hi
  rw [sx_set_bt _ 12 (by omega) i hi, A.2.1 i hi]
theorem i_vc_shorted {k : Nat} {u : SX} {v : SY} (I : i_Rel k u v) (hk : k + 4 ≤ 2048) : wpX_shorted (fun r => wpY_shorted (fun r' => r' = r ∧ i_Rel (k + 4) u v) v) u := by
  have I0 := i_up I
  obtain ⟨fs, fp, ch, sz, ea, eb, kd, ga, sr, we, ro, se, ln, vv, zz, tt, aa, bb, ww, yw, yu, yf, ye, ys, yn, vs, zs, na, nb, wn, tb, rfl, rfl, W, A, B⟩ := I
  exact xs_shorted W A (fun h => sh_shorted W B (fun _ => ⟨rfl, I0⟩) (fun z => absurd h z)) (fun h => sh_shorted W B (fun z => absurd z h) (fun _ => ⟨rfl, I0⟩))
theorem i_vc_reach {k : Nat} {u : SX} {v : SY} (I : i_Rel k u v) (hk : k + 4 ≤ 2048) (v1 : Int32) : wpX_reach (fun r => wpY_reach (fun r' => r' = r ∧ i_Rel (k + 4) u v) v v1) u v1 := by
  have I0 := i_up I
  obtain ⟨fs, fp, ch, sz, ea, eb, kd, ga, sr, we, ro, se, ln, vv, zz, tt, aa, bb, ww, yw, yu, yf, ye, ys, yn, vs, zs, na, nb, wn, tb, rfl, rfl, W, A, B⟩ := I
  unfold wpX_reach
  dsimp only
  rcases cg_node v1 with ⟨n, hn, rfl⟩ | ⟨nx, ny⟩
  · exact xc_node (by omega) (fun _ => br_f (by decide) (xc_closed W A (xs_spread W A hn (yr_reach W B hn ⟨rfl, I0⟩)))) (fun z => by omega)
  · refine nx _ (br_t rfl ?_)
    unfold wpY_reach
    dsimp only
    exact ny _ _ _ _ _ _ _ _ _ _ _ _ _ _ (br_t rfl ⟨rfl, I0⟩)
theorem i_vc_unknowns {k : Nat} {u : SX} {v : SY} (I : i_Rel k u v) (hk : k + 4 ≤ 2048) : wpX_unknowns (fun r u' => wpY_unknowns (fun r' v' => r' = r ∧ i_Rel (k + 4) u' v') v) u := by
  obtain ⟨fs, fp, ch, sz, ea, eb, kd, ga, sr, we, ro, se, ln, vv, zz, tt, aa, bb, ww, yw, yu, yf, ye, ys, yn, vs, zs, na, nb, wn, tb, rfl, rfl, W, A, B⟩ := I
  unfold wpX_unknowns
  dsimp only
  refine xr_trace W A ?_
  intro we ro _ hr
  dsimp only
  refine ⟨7, un_X W A hr ?_ 6 0 rfl⟩
  unfold wpY_unknowns
  dsimp only
  refine yo_work W B ?_
  intro yw yu yf ye ys _ hs
  dsimp only
  exact ⟨7, un_Y W B hs ⟨rfl, cg_rel W A B⟩ 6 0 rfl⟩
theorem i_vc_inputsFor {k : Nat} {u : SX} {v : SY} (I : i_Rel k u v) (hk : k + 4 ≤ 2048) (v1 : Int32) (v2 : Int32) : wpX_inputsFor (fun r u' => wpY_inputsFor (fun r' v' => r' = r ∧ i_Rel (k + 4) u' v') v v1 v2) u v1 v2 := by
  have I0 := i_up I
  obtain ⟨fs, fp, ch, sz, ea, eb, kd, ga, sr, we, ro, se, ln, vv, zz, tt, aa, bb, ww, yw, yu, yf, ye, ys, yn, vs, zs, na, nb, wn, tb, rfl, rfl, W, A, B⟩ := I
  unfold wpX_inputsFor wpY_inputsFor
  dsimp only
  rcases cg_store v1 with ⟨s, h5, h11, rfl⟩ | ⟨nx, ny⟩
  · refine xc_store (by omega) (fun _ _ => br_f (by decide) ?_) (fun z => absurd ⟨h5, h11⟩ z)
    by_cases e2 : v2 < 0
    · exact br_t e2 (yc_store (by omega) (fun _ _ => br_f (by decide) (br_t e2 ⟨rfl, I0⟩)) (fun z => absurd ⟨h5, h11⟩ z))
    · obtain ⟨w, hw, rfl⟩ := nI_of e2
      refine br_f e2 (pk_le w 2 (fun h2 => ⟨9, if_X20 W A h11 h2 8 0 we ro rfl ?_⟩) (fun h2 => ?_))
      · intro we ro
        refine yc_store (by omega) (fun _ _ => br_f (by decide) (br_f e2 (pk_le w 2 (fun _ => ?_) (fun z => by omega)))) (fun z => absurd ⟨h5, h11⟩ z)
        have a2 := W.2.2.1 2 (by omega)
        have a3 := W.2.2.1 3 (by omega)
        have a4 := W.2.2.1 4 (by omega)
        have eo : ((vv 2 ||| (vv 3 <<< ((1 : Int32) &&& 31))) ||| (vv 4 <<< ((2 : Int32) &&& 31))) = nI (vs 2 + 2 * vs 3 + 4 * vs 4) := by
          rw [B.1 2 (by omega), B.1 3 (by omega), B.1 4 (by omega)]
          exact if_old (vs 2) (by omega) (vs 3) (by omega) (vs 4) (by omega)
        refine nm_r eo ⟨9, ?_⟩
        have ho : ∀ n, if_v vs (vs 2 + 2 * vs 3 + 4 * vs 4) n = vs n := by
          intro n
          by_cases c2 : n = 2
          · subst c2; rw [if_2]; omega
          · by_cases c3 : n = 3
            · subst c3; rw [if_3]; omega
            · by_cases c4 : n = 4
              · subst c4; rw [if_4]; omega
              · exact if_o c2 c3 c4
        exact if_Y51 W h5 h11 h2 (by omega) ho (fun ln vv zz tt aa bb ww yw yu yf ye ys yn B' => ⟨rfl, cg_rel W A B'⟩) 8 ln vv yw yu yf ye ys vs (Nat.le_refl _) (fun n _ _ _ => rfl) B
      · exact yc_store (by omega) (fun _ _ => br_f (by decide) (br_f e2 (pk_le w 2 (fun z => by omega) (fun _ => ⟨rfl, I0⟩)))) (fun z => absurd ⟨h5, h11⟩ z)
  · exact nx _ (br_t rfl (ny _ _ _ _ _ _ _ _ _ _ _ _ _ _ (br_t rfl ⟨rfl, I0⟩)))
end
