/-! ===== the reference walks all ways ===== -/
theorem yk_ule {c : Nat → Bool} {na nb st ow : Nat → Nat} {f : Nat → Nat} : ∀ i, ne_u c na nb st ow f i ≤ ow (f 0) := by
  intro i
  induction i with
  | zero => exact Nat.le_refl _
  | succ i ih => simp only [ne_u]; exact Nat.le_trans (Nat.min_le_right _ _) ih
def yk_S (c : Nat → Bool) (na nb st ow : Nat → Nat) (F : Prop) (w : Nat → Nat) (l : Nat) (yw yu yf : Nat → Int32) : Prop :=
  (∀ i, i < l → yw i = nI (w i)) ∧ (∀ i, i < l → yu i = nI (ne_u c na nb st ow w i)) ∧ (F → ∀ i, i < l → (ne_F c na nb st ow (ne_W c na nb st ow) w i → yf i = 1) ∧ (¬ ne_F c na nb st ow (ne_W c na nb st ow) w i → yf i = 0))
theorem yk_S0 {c : Nat → Bool} {na nb st ow : Nat → Nat} {F : Prop} {w : Nat → Nat} {yw yu yf : Nat → Int32} : yk_S c na nb st ow F w 0 yw yu yf :=
  ⟨fun i hi => by omega, fun i hi => by omega, fun _ i hi => by omega⟩
theorem yk_Sp {c : Nat → Bool} {na nb st ow : Nat → Nat} {F : Prop} {w : Nat → Nat} {l m : Nat} {yw yu yf : Nat → Int32} (h : yk_S c na nb st ow F w l yw yu yf) (hm : m ≤ l) : yk_S c na nb st ow F w m yw yu yf :=
  ⟨fun i hi => h.1 i (by omega), fun i hi => h.2.1 i (by omega), fun f i hi => h.2.2 f i (by omega)⟩
theorem yk_Sn {c : Nat → Bool} {na nb st ow : Nat → Nat} {F : Prop} {w : Nat → Nat} {L t m : Nat} {yw yu yf : Nat → Int32} {z : Int32} (h : yk_S c na nb st ow F w L yw yu yf) (hm : ne_u c na nb st ow (gp_u w L t) L = m)
    (hz : F → (((L = 0 ∨ ne_F c na nb st ow (ne_W c na nb st ow) w (L - 1)) ∧ m = ne_W c na nb st ow t) → z = 1) ∧ (¬ ((L = 0 ∨ ne_F c na nb st ow (ne_W c na nb st ow) w (L - 1)) ∧ m = ne_W c na nb st ow t) → z = 0)) :
    yk_S c na nb st ow F (gp_u w L t) (L + 1) (upd yw L (nI t)) (upd yu L (nI m)) (upd yf L z) := by
  have ag : ∀ i, i < L → ∀ j, j ≤ i → w j = gp_u w L t j := fun i hi j hj => (gp_un (by omega)).symm
  refine ⟨?_, ?_, ?_⟩
  · intro i hi
    by_cases e : i = L
    · subst e; rw [pk_us, gp_us]
    · rw [pk_un e, gp_un e]; exact h.1 i (by omega)
  · intro i hi
    by_cases e : i = L
    · subst e; rw [pk_us, hm]
    · rw [pk_un e, ← ne_u_cg i (ag i (by omega))]; exact h.2.1 i (by omega)
  · intro f i hi
    by_cases e : i = L
    · subst e
      rw [pk_us]
      have key : ne_F c na nb st ow (ne_W c na nb st ow) (gp_u w i t) i ↔ ((i = 0 ∨ ne_F c na nb st ow (ne_W c na nb st ow) w (i - 1)) ∧ m = ne_W c na nb st ow t) := by
        constructor
        · intro hf
          have a := hf i (Nat.le_refl _)
          rw [gp_us, hm] at a
          refine ⟨?_, a⟩
          rcases Nat.eq_zero_or_pos i with z0 | z0
          · exact Or.inl z0
          · refine Or.inr (ne_F_cg (f := gp_u w i t) ?_ (fun j hj => hf j (by omega)))
            intro j hj
            exact gp_un (by omega)
        · rintro ⟨h1, h2⟩ j hj
          by_cases e : j = i
          · subst e; rw [gp_us, hm]; exact h2
          · rcases h1 with h1 | h1
            · omega
            · have a := ne_F_cg (g := gp_u w i t) (fun j hj => (gp_un (by omega)).symm) h1
              exact a j (by omega)
      rw [key]
      exact hz f
    · rw [pk_un e]
      have key : ne_F c na nb st ow (ne_W c na nb st ow) (gp_u w L t) i ↔ ne_F c na nb st ow (ne_W c na nb st ow) w i :=
        ⟨ne_F_cg (fun j hj => (ag i (by omega) j hj).symm), ne_F_cg (ag i (by omega))⟩
      rw [key]
      exact h.2.2 f i (by omega)
section
variable {ln : Int32} {vv zz tt aa bb ww yw yu yf ye ys yn : Nat → Int32} {vs zs na nb wn : Nat → Nat} {tb : Nat → Bool}
theorem yk_137 {L : Nat} (hL : L < 11) {z : Int32} (hz : z = 0 ∨ z = 1) {post : SY → Prop} (h : post (nI (L + 1), vv, zz, tt, aa, bb, ww, yw, yu, upd yf L z, ye, ys, yn)) : wY_append_137 post z (nI L) (nI L) vv zz tt aa bb ww yw yu yf ye ys yn := by
  have ek : (nI L).toNatClampNeg = L := nI_clamp (by omega)
  have hi : vp_in (nI L) 11 := vp_in_nI hL (by omega)
  have en : vp_nar .boolean z = z := by rcases hz with e | e <;> subst e <;> rfl
  unfold wY_append_137
  rw [ek, en]
  exact ⟨hi, nm_e (nm_r (nI_1 L) h)⟩
theorem yk_114 {L t : Nat} (hL : L < 11) (ht : t < 11) {post : SY → Prop} (h1 : yu L = ye t → post (nI (L + 1), vv, zz, tt, aa, bb, ww, yw, yu, upd yf L 1, ye, ys, yn)) (h0 : yu L ≠ ye t → post (nI (L + 1), vv, zz, tt, aa, bb, ww, yw, yu, upd yf L 0, ye, ys, yn)) : wY_append_114 post (nI t) (nI L) (nI L) vv zz tt aa bb ww yw yu yf ye ys yn := by
  unfold wY_append_114 wY_append_136
  rw [nI_clamp (n := L) (by omega), nI_clamp (n := t) (by omega)]
  exact ⟨vp_in_nI hL (by omega), vp_in_nI ht (by omega), br_c (fun e => yk_137 hL (Or.inr rfl) (h1 e)) (fun e => yk_137 hL (Or.inl rfl) (h0 e))⟩
theorem yk_84 {L t m : Nat} (hL : L < 11) (ht : t < 11) {post : SY → Prop} (h : ∀ z : Int32, (z = 1 ∧ (L = 0 ∨ yf (L - 1) ≠ 0) ∧ nI m = ye t) ∨ (z = 0 ∧ ¬ ((L = 0 ∨ yf (L - 1) ≠ 0) ∧ nI m = ye t)) → post (nI (L + 1), vv, zz, tt, aa, bb, ww, yw, upd yu L (nI m), upd yf L z, ye, ys, yn)) : wY_append_84 post (nI t) (nI m) (nI L) (nI L) vv zz tt aa bb ww yw yu yf ye ys yn := by
  have ek : (nI L).toNatClampNeg = L := nI_clamp (by omega)
  have hi : vp_in (nI L) 11 := vp_in_nI hL (by omega)
  unfold wY_append_84 wY_append_136
  rw [ek]
  refine ⟨hi, nm_e ?_⟩
  refine pk_eq L 0 (fun e => ?_) (fun e => ?_)
  · refine yk_114 hL ht (fun z => h 1 (Or.inl ⟨rfl, Or.inl e, ?_⟩)) (fun z => h 0 (Or.inr ⟨rfl, fun z' => z ?_⟩))
    · rw [pk_us] at z; exact z
    · rw [pk_us]; exact z'.2
  · obtain ⟨K, rfl⟩ : ∃ K, L = K + 1 := ⟨L - 1, by omega⟩
    have e1 : nI (K + 1) - 1 = nI K := nI_pred K
    rw [e1, nI_clamp (n := K) (by omega)]
    refine ⟨vp_in_nI (by omega) (by omega), br_c (fun z => ?_) (fun z => ?_)⟩
    · refine yk_137 hL (Or.inl rfl) (h 0 (Or.inr ⟨rfl, fun z' => ?_⟩))
      rcases z'.1 with a | a
      · omega
      · exact a z
    · refine yk_114 hL ht (fun q => h 1 (Or.inl ⟨rfl, Or.inr z, ?_⟩)) (fun q => h 0 (Or.inr ⟨rfl, fun z' => q ?_⟩))
      · rw [pk_us] at q; exact q
      · rw [pk_us]; exact z'.2
theorem yk_55 {L t o b m : Nat} (hL : L < 11) (ht : t < 11) (ho : o ≤ 7) (hb : b ≤ 7) (hm : Nat.min o b = m) {post : SY → Prop} (h : ∀ z : Int32, (z = 1 ∧ (L = 0 ∨ yf (L - 1) ≠ 0) ∧ nI m = ye t) ∨ (z = 0 ∧ ¬ ((L = 0 ∨ yf (L - 1) ≠ 0) ∧ nI m = ye t)) → post (nI (L + 1), vv, zz, tt, aa, bb, ww, upd yw L (nI t), upd yu L (nI m), upd yf L z, ye, ys, yn)) : wY_append_55 post (nI t) (nI o) (nI b) (nI L) vv zz tt aa bb ww yw yu yf ye ys yn := by
  have ek : (nI L).toNatClampNeg = L := nI_clamp (by omega)
  have hi : vp_in (nI L) 11 := vp_in_nI hL (by omega)
  unfold wY_append_55
  rw [ek]
  refine ⟨hi, nm_e (pk_le b o (fun hle => ?_) (fun hlt => ?_))⟩
  · have : b = m := by rw [← hm]; exact (Nat.min_eq_right hle).symm
    subst this
    exact yk_84 hL ht h
  · have : o = m := by rw [← hm]; exact (Nat.min_eq_left (by omega)).symm
    subst this
    exact yk_84 hL ht h
theorem yk_append (W : cf_W vs zs na nb wn) (S : cf_Y vv zz tt aa bb ww vs zs na nb wn tb) {F : Prop} {w : Nat → Nat} {L t : Nat} (hL : L < 11) (ht : t < 11) (hw : ∀ i, i < L → w i < 11) (hk : yk_S (cf_k vs wn tb) na nb (cf_s wn) zs F w L yw yu yf) (hF : F → ∀ n, n < 11 → ye n = nI ((ne_W (cf_k vs wn tb) na nb (cf_s wn) zs) n)) {post : SY → Prop} (h : ∀ yw' yu' yf' : Nat → Int32, yk_S (cf_k vs wn tb) na nb (cf_s wn) zs F (gp_u w L t) (L + 1) yw' yu' yf' → post (nI (L + 1), vv, zz, tt, aa, bb, ww, yw', yu', yf', ye, ys, yn)) : wpY_append post (nI L, vv, zz, tt, aa, bb, ww, yw, yu, yf, ye, ys, yn) (nI t) := by
  have hz7 := cf_z7 W
  unfold wpY_append
  dsimp only
  have hz : ∀ (m : Nat) (z : Int32), m ≤ 7 → (z = 1 ∧ (L = 0 ∨ yf (L - 1) ≠ 0) ∧ nI m = ye t) ∨ (z = 0 ∧ ¬ ((L = 0 ∨ yf (L - 1) ≠ 0) ∧ nI m = ye t)) → (F → (((L = 0 ∨ ne_F (cf_k vs wn tb) na nb (cf_s wn) zs (ne_W (cf_k vs wn tb) na nb (cf_s wn) zs) w (L - 1)) ∧ m = (ne_W (cf_k vs wn tb) na nb (cf_s wn) zs) t) → z = 1) ∧ (¬ ((L = 0 ∨ ne_F (cf_k vs wn tb) na nb (cf_s wn) zs (ne_W (cf_k vs wn tb) na nb (cf_s wn) zs) w (L - 1)) ∧ m = (ne_W (cf_k vs wn tb) na nb (cf_s wn) zs) t) → z = 0)) := by
    intro m z hm hz f
    have e1 : nI m = ye t ↔ m = (ne_W (cf_k vs wn tb) na nb (cf_s wn) zs) t := by
      rw [hF f t ht]
      exact nI_eq (by omega) (by have := ne_W_le (cf_k vs wn tb) na nb (cf_s wn) zs t; omega)
    have e2 : (L = 0 ∨ yf (L - 1) ≠ 0) ↔ (L = 0 ∨ ne_F (cf_k vs wn tb) na nb (cf_s wn) zs (ne_W (cf_k vs wn tb) na nb (cf_s wn) zs) w (L - 1)) := by
      rcases Nat.eq_zero_or_pos L with z0 | z0
      · exact ⟨fun _ => Or.inl z0, fun _ => Or.inl z0⟩
      · have a := hk.2.2 f (L - 1) (by omega)
        by_cases c : ne_F (cf_k vs wn tb) na nb (cf_s wn) zs (ne_W (cf_k vs wn tb) na nb (cf_s wn) zs) w (L - 1)
        · rw [a.1 c]; exact ⟨fun _ => Or.inr c, fun _ => Or.inr (by decide)⟩
        · rw [a.2 c]
          exact ⟨fun z => z.elim (fun z => Or.inl z) (fun z => absurd rfl z), fun z => z.elim (fun z => Or.inl z) (fun z => absurd z c)⟩
    rw [← e1, ← e2]
    rcases hz with ⟨a, b⟩ | ⟨a, b⟩
    · exact ⟨fun _ => a, fun q => absurd b q⟩
    · exact ⟨fun q => absurd q b, fun _ => a⟩
  refine pk_eq L 0 (fun e => ⟨vp_in_nI ht (by omega), ?_⟩) (fun e => ?_)
  · subst e
    rw [nI_clamp (by omega), S.2.1 t ht]
    have h7 := hz7 t ht
    have hm : ne_u (cf_k vs wn tb) na nb (cf_s wn) zs (gp_u w 0 t) 0 = zs t := by simp only [ne_u]; rw [gp_us]
    unfold wY_append_32
    exact br_t rfl (yk_55 hL ht h7 h7 (Nat.min_self _) (fun z hh => h _ _ _ (yk_Sn hk hm (hz _ _ h7 hh))))
  · obtain ⟨K, rfl⟩ : ∃ K, L = K + 1 := ⟨L - 1, by omega⟩
    have e1 : nI (K + 1) - 1 = nI K := nI_pred K
    have hi : vp_in (nI K) 11 := vp_in_nI (by omega) (by omega)
    rw [e1, nI_clamp (n := K) (by omega), hk.1 K (by omega)]
    refine ⟨hi, yc_between W S (hw K (by omega)) ht ?_⟩
    unfold wY_append_32
    rw [e1, nI_clamp (n := K) (by omega), hk.2.1 K (by omega)]
    have h0 : w 0 < 11 := hw 0 (by omega)
    have hu : ne_u (cf_k vs wn tb) na nb (cf_s wn) zs w K ≤ 7 := Nat.le_trans (yk_ule K) (hz7 _ h0)
    have hb : ne_B (cf_k vs wn tb) na nb (cf_s wn) (w K) t ≤ 7 := Nat.le_trans (ne_b_le (cf_k vs wn tb) na nb (cf_s wn) (w K) t (cf_s_le W) 12 (Nat.le_refl _)) (by omega)
    have hm : ne_u (cf_k vs wn tb) na nb (cf_s wn) zs (gp_u w (K + 1) t) (K + 1) = Nat.min (ne_B (cf_k vs wn tb) na nb (cf_s wn) (w K) t) (ne_u (cf_k vs wn tb) na nb (cf_s wn) zs w K) := by
      simp only [ne_u]
      rw [gp_us, gp_un (by omega), ne_u_cg (f := gp_u w (K + 1) t) (g := w) K (fun j hj => gp_un (by omega))]
    have h7 : Nat.min (ne_B (cf_k vs wn tb) na nb (cf_s wn) (w K) t) (ne_u (cf_k vs wn tb) na nb (cf_s wn) zs w K) ≤ 7 := Nat.le_trans (Nat.min_le_left _ _) hb
    exact br_f (nI_ne0 (by omega) (by omega)) ⟨hi, yk_55 hL ht hb hu rfl (fun z hh => h _ _ _ (yk_Sn hk hm (hz _ _ h7 hh)))⟩
end
