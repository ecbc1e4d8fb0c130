/-! ===== what is owed ===== -/
def in_v (n : Nat) : Nat := if 5 ≤ n then 2 else if n = 1 then 1 else 0
def in_z (n : Nat) : Nat := if 5 ≤ n then 1 else 7
theorem in_W : cf_W in_v in_z (fun _ => 0) (fun _ => 0) (fun _ => 0) := by
  refine ⟨rfl, rfl, ?_, ?_, ?_, ?_, ?_⟩
  · intro n hn
    unfold in_v
    rw [if_neg (by omega)]
    split <;> omega
  · intro n hn
    unfold in_v
    split
    · omega
    · split <;> omega
  · intro n hn
    unfold in_z
    rw [if_neg (by omega)]
  · intro n hn h11
    unfold in_z
    rw [if_pos hn]
    omega
  · intro k hk
    exact ⟨(by decide : 0 < 11), (by decide : 0 < 11), (by decide : 0 < 27)⟩
theorem in_X {post : SX → Prop} (h : ∀ ch sz : Nat → Int32, (∀ n, 5 ≤ n → n < 11 → ch n = 2 ∧ sz n = 1) → post (0, 0, ch, sz, (fun _ => 0), (fun _ => 0), (fun _ => 0), (fun _ => 0), (fun _ => 0), (fun _ => 0), (fun _ => 0), (fun _ => 0))) :
    ∀ d k (ch sz : Nat → Int32), k + d = 11 → (∀ n, 5 ≤ n → n < k → ch n = 2 ∧ sz n = 1) → wX_init_96 post 0 0 (d + 1) (nI k) ch sz (fun _ => 0) (fun _ => 0) (fun _ => 0) (fun _ => 0) (fun _ => 0) (fun _ => 0) (fun _ => 0) (fun _ => 0) := by
  intro d
  induction d with
  | zero =>
    intro k ch sz hk hc
    have e : k = 11 := by omega
    subst e
    exact br_t (by decide) (h ch sz hc)
  | succ d ih =>
    intro k ch sz hk hc
    have hk' : k < 11 := by omega
    have hi : vp_in (nI k) 11 := vp_in_nI hk' (by omega)
    rw [wX_init_96]
    dsimp only
    rw [nI_clamp (n := k) (by omega)]
    refine br_f (nI_ge (b := 11) hk' (by decide)) ⟨hi, nm_e ⟨hi, nm_e (nm_r (nI_1 k) (ih (k + 1) _ _ (by omega) ?_))⟩⟩
    intro n h5 hn
    by_cases c : n = k
    · subst c; exact ⟨pk_us, pk_us⟩
    · rw [pk_un c, pk_un c]; exact hc n h5 (by omega)
theorem in_Y {post : SY → Prop} (h : ∀ vv zz : Nat → Int32, (∀ n, n < 11 → vv n = nI (in_v n) ∧ zz n = nI (in_z n)) → post (0, vv, zz, (fun _ => 0), (fun _ => 0), (fun _ => 0), (fun _ => 0), (fun _ => 0), (fun _ => 0), (fun _ => 0), (fun _ => 0), (fun _ => 0), (fun _ => 0))) :
    ∀ d k (vv zz : Nat → Int32), k + d = 11 → (∀ n, n < k → vv n = nI (in_v n) ∧ zz n = nI (in_z n)) → wY_init_102 post 0 (d + 1) (nI k) vv zz (fun _ => 0) (fun _ => 0) (fun _ => 0) (fun _ => 0) (fun _ => 0) (fun _ => 0) (fun _ => 0) (fun _ => 0) (fun _ => 0) (fun _ => 0) := by
  intro d
  induction d with
  | zero =>
    intro k vv zz hk hc
    have e : k = 11 := by omega
    subst e
    exact br_t (by decide) (h vv zz hc)
  | succ d ih =>
    intro k vv zz hk hc
    have hk' : k < 11 := by omega
    have hi : vp_in (nI k) 11 := vp_in_nI hk' (by omega)
    have J : ∀ x y : Int32, x = nI (in_v k) → y = nI (in_z k) → wY_init_102 post 0 (d + 1) (nI (k + 1)) (upd vv k x) (upd zz k y) (fun _ => 0) (fun _ => 0) (fun _ => 0) (fun _ => 0) (fun _ => 0) (fun _ => 0) (fun _ => 0) (fun _ => 0) (fun _ => 0) (fun _ => 0) := by
      intro x y hx hy
      refine ih (k + 1) _ _ (by omega) ?_
      intro n hn
      by_cases c : n = k
      · subst c; rw [pk_us, pk_us]; exact ⟨hx, hy⟩
      · rw [pk_un c, pk_un c]; exact hc n (by omega)
    have key : ∀ x : Int32, x = nI (in_v k) → wY_init_132 post (wY_init_102 post 0 (d + 1)) (nI k) x (nI k) 0 vv zz (fun _ => 0) (fun _ => 0) (fun _ => 0) (fun _ => 0) (fun _ => 0) (fun _ => 0) (fun _ => 0) (fun _ => 0) (fun _ => 0) (fun _ => 0) := by
      intro x hx
      unfold wY_init_132
      rw [nI_clamp (n := k) (by omega)]
      refine ⟨hi, nm_e (pk_le 5 k (fun h5 => ⟨hi, nm_e (nm_r (nI_1 k) (J x 1 hx ?_))⟩) (fun h5 => ⟨hi, nm_e (nm_r (nI_1 k) (J x 7 hx ?_))⟩))⟩
      · unfold in_z; rw [if_pos h5]; rfl
      · unfold in_z; rw [if_neg (by omega)]; rfl
    rw [wY_init_102]
    dsimp only
    refine br_f (nI_ge (b := 11) hk' (by decide)) (pk_lt k 5 (fun h5 => pk_eq k 1 (fun e => key 1 ?_) (fun e => key 0 ?_)) (fun h5 => key 2 ?_))
    · subst e; rfl
    · unfold in_v; rw [if_neg (by omega), if_neg e]; rfl
    · unfold in_v; rw [if_pos h5]; rfl
theorem i_vc0 : wpX_init (fun u => wpY_init (fun v => i_Rel 0 u v)) := by
  refine ⟨7, in_X ?_ 6 5 _ _ rfl (fun n a b => by omega)⟩
  intro ch sz hx
  refine ⟨12, in_Y ?_ 11 0 _ _ rfl (fun n a => by omega)⟩
  intro vv zz hy
  refine cg_rel (vs := in_v) (zs := in_z) (na := fun _ => 0) (nb := fun _ => 0) (wn := fun _ => 0) (tb := fun _ => false) in_W ⟨?_, ?_, ?_, ?_, ?_, ?_⟩ ⟨fun n hn => (hy n hn).1, fun n hn => (hy n hn).2, ?_, ?_⟩
  · intro i hi
    rw [b_0]
    unfold in_v
    rw [if_neg (by omega), if_neg (by omega)]
    rfl
  · intro i hi
    rw [b_0, Bool.and_false]
  · intro n h5 h11
    rw [(hx n h5 h11).1]
    unfold in_v
    rw [if_pos h5]
    rfl
  · intro n h5 h11
    rw [(hx n h5 h11).2]
    unfold in_z
    rw [if_pos h5]
    rfl
  · intro k hk
    exact ⟨rfl, rfl⟩
  · intro k hk ht
    exact Bool.noConfusion (ht : false = true)
  · intro k hk
    rfl
  · intro k hk
    exact ⟨rfl, rfl, rfl⟩
theorem i_vc_add {k : Nat} {u : SX} {v : SY} (I : i_Rel k u v) (hk : k + 4 ≤ 2048) (v1 : Int32) (v2 : Int32) (v3 : Int32) : wpX_add (fun r u' => wpY_add (fun r' v' => r' = r ∧ i_Rel (k + 4) u' v') v v1 v2 v3) u v1 v2 v3 := by
  have I0 := i_up I
  obtain ⟨fs, fp, ch, sz, ea, eb, kd, ga, sr, we, ro, se, ln, vv, zz, tt, aa, bb, ww, yw, yu, yf, ye, ys, yn, vs, zs, na, nb, wn, tb, rfl, rfl, W, A, B⟩ := I
  unfold wpX_add wpY_add
  dsimp only
  by_cases e12 : v1 = v2
  · exact br_t e12 (br_t e12 ⟨rfl, I0⟩)
  refine br_f e12 ?_
  rcases cg_node v1 with ⟨a, ha, rfl⟩ | ⟨nx, ny⟩
  · refine xc_node (by omega) (fun _ => br_f (by decide) ?_) (fun z => by omega)
    rcases cg_node v2 with ⟨b, hb, rfl⟩ | ⟨nx, ny⟩
    · refine xc_node (by omega) (fun _ => br_f (by decide) ?_) (fun z => by omega)
      by_cases e3 : v3 < 0
      · exact br_t e3 (br_f e12 (yc_node (by omega) (fun _ => br_f (by decide) (yc_node (by omega) (fun _ => br_f (by decide) (br_t e3 ⟨rfl, I0⟩)) (fun z => by omega))) (fun z => by omega)))
      · obtain ⟨w, hw, rfl⟩ := nI_of e3
        refine br_f e3 (pk_lt w 27 (fun h27 => ?_) (fun h27 => ?_))
        · have hi : ∀ j, j < 12 → vp_in (nI j) 12 := fun j hj => vp_in_nI hj (by omega)
          refine ⟨13, cg_free A ?_ ?_ 12 0 rfl (fun j hj => by omega)⟩
          · intro j hj t0 t1
            refine br_f (fun z => absurd ((nI_eq (b := 12) (by omega) (by decide)).mp z) (by omega)) ?_
            rw [nI_clamp (n := j) (by omega)]
            refine ⟨hi j hj, nm_e ⟨hi j hj, nm_e ⟨by decide, hi j hj, nm_e ⟨by decide, by decide, hi j hj, nm_e ⟨by decide, hi j hj, nm_e (nm_e ?_)⟩⟩⟩⟩⟩
            refine br_f e12 (yc_node (by omega) (fun _ => br_f (by decide) (yc_node (by omega) (fun _ => br_f (by decide) (br_f e3 (pk_le w 26 (fun _ => ⟨13, cg_put B ?_ ?_ 12 0 rfl (fun j hj => by omega)⟩) (fun z => by omega)))) (fun z => by omega))) (fun z => by omega))
            · intro j' hj' t0' t1'
              have e : j' = j := by
                rcases Nat.lt_trichotomy j' j with c | c | c
                · have := t1 j' c; rw [t0'] at this; exact absurd this (by decide)
                · exact c
                · have := t1' j c; rw [t0] at this; exact absurd this (by decide)
              subst e
              exact ⟨rfl, cg_rel (cg_addW W ha hb h27) (cg_addX A hj h27) (cg_addY B)⟩
            · intro z
              have := z j hj
              rw [t0] at this
              exact absurd this (by decide)
          · intro t1
            refine br_t rfl (br_f e12 (yc_node (by omega) (fun _ => br_f (by decide) (yc_node (by omega) (fun _ => br_f (by decide) (br_f e3 (pk_le w 26 (fun _ => ⟨13, cg_put B ?_ ?_ 12 0 rfl (fun j hj => by omega)⟩) (fun z => by omega)))) (fun z => by omega))) (fun z => by omega)))
            · intro j' hj' t0' t1'
              have := t1 j' hj'
              rw [t0'] at this
              exact absurd this (by decide)
            · intro z
              exact ⟨rfl, I0⟩
        · exact br_f e12 (yc_node (by omega) (fun _ => br_f (by decide) (yc_node (by omega) (fun _ => br_f (by decide) (br_f e3 (pk_le w 26 (fun z => by omega) (fun _ => ⟨rfl, I0⟩)))) (fun z => by omega))) (fun z => by omega))
    · exact nx _ (br_t rfl (br_f e12 (yc_node (by omega) (fun _ => br_f (by decide) (ny _ _ _ _ _ _ _ _ _ _ _ _ _ _ (br_t rfl ⟨rfl, I0⟩))) (fun z => by omega))))
  · exact nx _ (br_t rfl (br_f e12 (ny _ _ _ _ _ _ _ _ _ _ _ _ _ _ (br_t rfl ⟨rfl, I0⟩))))
theorem i_vc_remove {k : Nat} {u : SX} {v : SY} (I : i_Rel k u v) (hk : k + 4 ≤ 2048) (v1 : Int32) : wpX_remove (fun r u' => wpY_remove (fun r' v' => r' = r ∧ i_Rel (k + 4) u' v') v v1) u v1 := by
  have I0 := i_up I
  obtain ⟨fs, fp, ch, sz, ea, eb, kd, ga, sr, we, ro, se, ln, vv, zz, tt, aa, bb, ww, yw, yu, yf, ye, ys, yn, vs, zs, na, nb, wn, tb, rfl, rfl, W, A, B⟩ := I
  unfold wpX_remove wpY_remove
  dsimp only
  by_cases e1 : v1 < 0
  · exact br_t e1 (br_t e1 ⟨rfl, I0⟩)
  · obtain ⟨j, hj, rfl⟩ := nI_of e1
    refine br_f e1 (pk_le 12 j (fun h => br_f e1 (pk_lt 11 j (fun _ => ⟨rfl, I0⟩) (fun z => by omega))) (fun h => ?_))
    have hi : vp_in (nI j) 12 := vp_in_nI h (by omega)
    have hp := A.2.1 j (by omega)
    rw [decide_eq_true h, Bool.true_and] at hp
    have ht := B.2.2.1 j h
    refine xc_bit (by omega) (fun hb => br_f (by decide) (nm_e (br_f e1 (pk_lt 11 j (fun z => by omega) (fun _ => ⟨hi, ?_⟩))))) (fun hb => br_t rfl (br_f e1 (pk_lt 11 j (fun z => by omega) (fun _ => ⟨hi, ?_⟩))))
    · rw [hp] at hb
      rw [nI_clamp (n := j) (by omega), ht, hb]
      exact br_f (by decide) ⟨hi, nm_e ⟨rfl, cg_rel W (cg_remX A h) (cg_remY B)⟩⟩
    · rw [hp] at hb
      rw [nI_clamp (n := j) (by omega), ht, hb]
      exact br_t rfl ⟨rfl, I0⟩
theorem i_vc_set {k : Nat} {u : SX} {v : SY} (I : i_Rel k u v) (hk : k + 4 ≤ 2048) (v1 : Int32) (v2 : Int32) : wpX_set (fun r u' => wpY_set (fun r' v' => r' = r ∧ i_Rel (k + 4) u' v') v v1 v2) u v1 v2 := by
  have I0 := i_up I
  obtain ⟨fs, fp, ch, sz, ea, eb, kd, ga, sr, we, ro, se, ln, vv, zz, tt, aa, bb, ww, yw, yu, yf, ye, ys, yn, vs, zs, na, nb, wn, tb, rfl, rfl, W, A, B⟩ := I
  unfold wpX_set wpY_set
  dsimp only
  by_cases e1 : v1 < 2
  · exact br_t e1 (br_t e1 ⟨rfl, I0⟩)
  · have e0 : ¬ v1 < 0 := fun z => e1 (Int32.lt_trans z (by decide))
    obtain ⟨i, hi, rfl⟩ := nI_of e0
    have h2 : 2 ≤ i := by
      rcases Nat.lt_or_ge i 2 with c | c
      · exact absurd (nI_lt (b := 2) c (by decide)) e1
      · exact c
    refine br_f e1 (pk_le 5 i (fun h => br_f e1 (pk_lt 4 i (fun _ => ⟨rfl, I0⟩) (fun z => by omega))) (fun h => ?_))
    by_cases e2 : v2 < 0
    · exact br_t e2 (br_f e1 (pk_lt 4 i (fun z => by omega) (fun _ => br_t e2 ⟨rfl, I0⟩)))
    · obtain ⟨w, hw, rfl⟩ := nI_of e2
      refine br_f e2 (pk_le w 1 (fun h1 => ?_) (fun h1 => br_f e1 (pk_lt 4 i (fun z => by omega) (fun _ => br_f e2 (pk_le w 1 (fun z => by omega) (fun _ => ⟨rfl, I0⟩))))))
      have ei : nI i - 2 = nI (i - 2) := pk_sub (b := 2) h2
      refine nm_r ei (nm_e (br_f e1 (pk_lt 4 i (fun z => by omega) (fun _ => br_f e2 (pk_le w 1 (fun _ => ⟨vp_in_nI (by omega) (by omega), nm_e ⟨rfl, ?_⟩⟩) (fun z => by omega))))))
      rw [nI_clamp (n := i) (by omega)]
      have ex := cg_setX A (p := i - 2) (v := w) (by omega) h1
      rw [show 2 + (i - 2) = i from by omega] at ex
      exact cg_rel (cg_setW W h2 h h1) ex (cg_valY B)
theorem i_vc_size {k : Nat} {u : SX} {v : SY} (I : i_Rel k u v) (hk : k + 4 ≤ 2048) (v1 : Int32) (v2 : Int32) : wpX_size (fun r u' => wpY_size (fun r' v' => r' = r ∧ i_Rel (k + 4) u' v') v v1 v2) u v1 v2 := by
  have I0 := i_up I
  obtain ⟨fs, fp, ch, sz, ea, eb, kd, ga, sr, we, ro, se, ln, vv, zz, tt, aa, bb, ww, yw, yu, yf, ye, ys, yn, vs, zs, na, nb, wn, tb, rfl, rfl, W, A, B⟩ := I
  unfold wpX_size wpY_size
  dsimp only
  rcases cg_store v1 with ⟨s, h5, h11, rfl⟩ | ⟨nx, ny⟩
  · refine xc_store (by omega) (fun _ _ => br_f (by decide) ?_) (fun z => absurd ⟨h5, h11⟩ z)
    by_cases e2 : v2 < 1
    · exact br_t e2 (yc_store (by omega) (fun _ _ => br_f (by decide) (br_t e2 ⟨rfl, I0⟩)) (fun z => absurd ⟨h5, h11⟩ z))
    · have e0 : ¬ v2 < 0 := fun z => e2 (Int32.lt_trans z (by decide))
      obtain ⟨z, hz, rfl⟩ := nI_of e0
      have h1 : 1 ≤ z := by
        rcases Nat.lt_or_ge z 1 with c | c
        · exact absurd (nI_lt (b := 1) c (by decide)) e2
        · exact c
      refine br_f e2 (pk_le z 3 (fun h3 => ⟨vp_in_nI h11 (by omega), nm_e ?_⟩) (fun h3 => ?_))
      · refine yc_store (by omega) (fun _ _ => br_f (by decide) (br_f e2 (pk_le z 3 (fun _ => ⟨vp_in_nI h11 (by omega), nm_e ⟨rfl, ?_⟩⟩) (fun z => by omega)))) (fun z => absurd ⟨h5, h11⟩ z)
        rw [nI_clamp (n := s) (by omega)]
        exact cg_rel (cg_sizW W h5 h1 h3) (cg_sizX A) (cg_sizY B)
      · exact yc_store (by omega) (fun _ _ => br_f (by decide) (br_f e2 (pk_le z 3 (fun z => by omega) (fun _ => ⟨rfl, I0⟩)))) (fun z => absurd ⟨h5, h11⟩ z)
  · exact nx _ (br_t rfl (ny _ _ _ _ _ _ _ _ _ _ _ _ _ _ (br_t rfl ⟨rfl, I0⟩)))
theorem i_vc_charge {k : Nat} {u : SX} {v : SY} (I : i_Rel k u v) (hk : k + 4 ≤ 2048) (v1 : Int32) (v2 : Int32) : wpX_charge (fun r u' => wpY_charge (fun r' v' => r' = r ∧ i_Rel (k + 4) u' v') v v1 v2) u v1 v2 := by
  have I0 := i_up I
  obtain ⟨fs, fp, ch, sz, ea, eb, kd, ga, sr, we, ro, se, ln, vv, zz, tt, aa, bb, ww, yw, yu, yf, ye, ys, yn, vs, zs, na, nb, wn, tb, rfl, rfl, W, A, B⟩ := I
  unfold wpX_charge wpY_charge
  dsimp only
  rcases cg_store v1 with ⟨s, h5, h11, rfl⟩ | ⟨nx, ny⟩
  · refine xc_store (by omega) (fun _ _ => br_f (by decide) ?_) (fun z => absurd ⟨h5, h11⟩ z)
    by_cases e2 : v2 < 0
    · exact br_t e2 (yc_store (by omega) (fun _ _ => br_f (by decide) (br_t e2 ⟨rfl, I0⟩)) (fun z => absurd ⟨h5, h11⟩ z))
    · obtain ⟨z, hz, rfl⟩ := nI_of e2
      refine br_f e2 (pk_le z 2 (fun h3 => ⟨vp_in_nI h11 (by omega), nm_e ?_⟩) (fun h3 => ?_))
      · refine yc_store (by omega) (fun _ _ => br_f (by decide) (br_f e2 (pk_le z 2 (fun _ => ⟨vp_in_nI h11 (by omega), nm_e ⟨rfl, ?_⟩⟩) (fun z => by omega)))) (fun z => absurd ⟨h5, h11⟩ z)
        rw [nI_clamp (n := s) (by omega)]
        exact cg_rel (cg_chgW W h5 h3) (cg_chgX A h5) (cg_valY B)
      · exact yc_store (by omega) (fun _ _ => br_f (by decide) (br_f e2 (pk_le z 2 (fun z => by omega) (fun _ => ⟨rfl, I0⟩)))) (fun z => absurd ⟨h5, h11⟩ z)
  · exact nx _ (br_t rfl (ny _ _ _ _ _ _ _ _ _ _ _ _ _ _ (br_t rfl ⟨rfl, I0⟩)))
theorem i_vc_settle {k : Nat} {u : SX} {v : SY} (I : i_Rel k u v) (hk : k + 4 ≤ 2048) : wpX_settle (fun r u' => wpY_settle (fun r' v' => r' = r ∧ i_Rel (k + 4) u' v') v) u := by
  obtain ⟨fs, fp, ch, sz, ea, eb, kd, ga, sr, we, ro, se, ln, vv, zz, tt, aa, bb, ww, yw, yu, yf, ye, ys, yn, vs, zs, na, nb, wn, tb, rfl, rfl, W, A, B⟩ := I
  refine st_X W A ?_
  intro ch we ro se A'
  refine st_Y W B ?_
  intro ln vv zz tt aa bb ww yw yu yf ye ys yn B'
  exact ⟨rfl, cg_rel (st_W W) A' B'⟩
theorem i_vc_holds {k : Nat} {u : SX} {v : SY} (I : i_Rel k u v) (hk : k + 4 ≤ 2048) (v1 : Int32) : wpX_holds (fun r => wpY_holds (fun r' => r' = r ∧ i_Rel (k + 4) u v) v v1) u v1 := by
  have I0 := i_up I
  obtain ⟨fs, fp, ch, sz, ea, eb, kd, ga, sr, we, ro, se, ln, vv, zz, tt, aa, bb, ww, yw, yu, yf, ye, ys, yn, vs, zs, na, nb, wn, tb, rfl, rfl, W, A, B⟩ := I
  unfold wpX_holds wpY_holds
  dsimp only
  rcases cg_node v1 with ⟨n, hn, rfl⟩ | ⟨nx, ny⟩
  · refine xc_node (by omega) (fun _ => br_f (by decide) (xc_value W A hn (yc_node (by omega) (fun _ => br_f (by decide) ⟨vp_in_nI hn (by omega), ?_, I0⟩) (fun z => by omega)))) (fun z => by omega)
    rw [nI_clamp (by omega)]
    exact B.1 n hn
  · exact nx _ (br_t rfl (ny _ _ _ _ _ _ _ _ _ _ _ _ _ _ (br_t rfl ⟨rfl, I0⟩)))
theorem i_vc_would {k : Nat} {u : SX} {v : SY} (I : i_Rel k u v) (hk : k + 4 ≤ 2048) (v1 : Int32) : wpX_would (fun r u' => wpY_would (fun r' v' => r' = r ∧ i_Rel (k + 4) u' v') v v1) u v1 := by
  obtain ⟨fs, fp, ch, sz, ea, eb, kd, ga, sr, we, ro, se, ln, vv, zz, tt, aa, bb, ww, yw, yu, yf, ye, ys, yn, vs, zs, na, nb, wn, tb, rfl, rfl, W, A, B⟩ := I
  unfold wpX_would wpY_would
  dsimp only
  rcases cg_node v1 with ⟨n, hn, rfl⟩ | ⟨nx, ny⟩
  · refine xc_node (by omega) (fun _ => br_f (by decide) (xr_trace W A ?_)) (fun z => by omega)
    intro we ro _ hr
    dsimp only
    refine xo_outcome W A hn (yo_work W B ?_)
    intro yw yu yf ye ys _ hs
    dsimp only
    have R : ∀ r' : Int32, r' = nI (oc_v (ne_rt (cf_k vs wn tb) na nb (cf_s wn) zs (ne_W (cf_k vs wn tb) na nb (cf_s wn) zs) n) vs) → r' = nI (oc_v (ro n) vs) ∧ i_Rel (k + 4) (fs, fp, ch, sz, ea, eb, kd, ga, sr, we, ro, se) (0, vv, zz, tt, aa, bb, ww, yw, yu, yf, ye, ys, yn) := fun r' e => ⟨by rw [hr n hn]; exact e, cg_rel W A B⟩
    refine yc_node (by omega) (fun _ => br_f (by decide) (pk_le 5 n (fun h5 => yr_after W B hn (R _ ?_)) (fun h5 => ⟨vp_in_nI hn (by omega), R _ ?_⟩))) (fun z => by omega)
    · rw [hs n hn]
    · rw [nI_clamp (by omega), B.1 n hn, mo_in W h5]
  · refine nx _ (br_t rfl (yo_work W B ?_))
    intro yw yu yf ye ys _ hs
    dsimp only
    exact ny _ _ _ _ _ _ _ _ _ _ _ _ _ _ (br_t rfl ⟨rfl, cg_rel W A B⟩)
theorem i_vc_weight {k : Nat} {u : SX} {v : SY} (I : i_Rel k u v) (hk : k + 4 ≤ 2048) (v1 : Int32) : wpX_weight (fun r u' => wpY_weight (fun r' v' => r' = r ∧ i_Rel (k + 4) u' v') v v1) u v1 := by
  obtain ⟨fs, fp, ch, sz, ea, eb, kd, ga, sr, we, ro, se, ln, vv, zz, tt, aa, bb, ww, yw, yu, yf, ye, ys, yn, vs, zs, na, nb, wn, tb, rfl, rfl, W, A, B⟩ := I
  unfold wpX_weight wpY_weight
  dsimp only
  rcases cg_node v1 with ⟨n, hn, rfl⟩ | ⟨nx, ny⟩
  · refine xc_node (by omega) (fun _ => br_f (by decide) (xr_trace W A ?_)) (fun z => by omega)
    intro we ro he _
    dsimp only
    rw [nI_clamp (n := n) (by omega)]
    refine ⟨vp_in_nI hn (by omega), yo_work W B ?_⟩
    intro yw yu yf ye ys hs _
    dsimp only
    exact yc_node (by omega) (fun _ => br_f (by decide) ⟨vp_in_nI hn (by omega), by rw [he n hn, hs n hn], cg_rel W A B⟩) (fun z => by omega)
  · refine nx _ (br_t rfl (yo_work W B ?_))
    intro yw yu yf ye ys _ hs
    dsimp only
    exact ny _ _ _ _ _ _ _ _ _ _ _ _ _ _ (br_t rfl ⟨rfl, cg_rel W A B⟩)
theorem i_vc_roots {k : Nat} {u : SX} {v : SY} (I : i_Rel k u v) (hk : k + 4 ≤ 2048) (v1 : Int32) : wpX_roots (fun r u' => wpY_roots (fun r' v' => r' = r ∧ i_Rel (k + 4) u' v') v v1) u v1 := by
  obtain ⟨fs, fp, ch, sz, ea, eb, kd, ga, sr, we, ro, se, ln, vv, zz, tt, aa, bb, ww, yw, yu, yf, ye, ys, yn, vs, zs, na, nb, wn, tb, rfl, rfl, W, A, B⟩ := I
  unfold wpX_roots wpY_roots
  dsimp only
  rcases cg_node v1 with ⟨n, hn, rfl⟩ | ⟨nx, ny⟩
  · refine xc_node (by omega) (fun _ => br_f (by decide) (xr_trace W A ?_)) (fun z => by omega)
    intro we ro _ he
    dsimp only
    rw [nI_clamp (n := n) (by omega)]
    refine ⟨vp_in_nI hn (by omega), yo_work W B ?_⟩
    intro yw yu yf ye ys _ hs
    dsimp only
    exact yc_node (by omega) (fun _ => br_f (by decide) ⟨vp_in_nI hn (by omega), by rw [he n hn, hs n hn], cg_rel W A B⟩) (fun z => by omega)
  · refine nx _ (br_t rfl (yo_work W B ?_))
    intro yw yu yf ye ys _ hs
    dsimp only
    exact ny _ _ _ _ _ _ _ _ _ _ _ _ _ _ (br_t rfl ⟨rfl, cg_rel W A B⟩)
theorem i_vc_closed {k : Nat} {u : SX} {v : SY} (I : i_Rel k u v) (hk : k + 4 ≤ 2048) : wpX_closed (fun r => wpY_closed (fun r' => r' = r ∧ i_Rel (k + 4) u v) v) u := by
  have I0 := i_up I
  obtain ⟨fs, fp, ch, sz, ea, eb, kd, ga, sr, we, ro, se, ln, vv, zz, tt, aa, bb, ww, yw, yu, yf, ye, ys, yn, vs, zs, na, nb, wn, tb, rfl, rfl, W, A, B⟩ := I
  unfold wpX_closed
  dsimp only
  exact xc_closed W A (yr_closed W B ⟨rfl, I0⟩)
theorem i_vc_switches {k : Nat} {u : SX} {v : SY} (I : i_Rel k u v) (hk : k + 4 ≤ 2048) : wpX_switches (fun r => wpY_switches (fun r' => r' = r ∧ i_Rel (k + 4) u v) v) u := by
  have I0 := i_up I
  obtain ⟨fs, fp, ch, sz, ea, eb, kd, ga, sr, we, ro, se, ln, vv, zz, tt, aa, bb, ww, yw, yu, yf, ye, ys, yn, vs, zs, na, nb, wn, tb, rfl, rfl, W, A, B⟩ := I
  unfold wpX_switches
  dsimp only
  refine yr_switches B ⟨?_, I0⟩
  apply b_ext
  intro i hi
  rw [sx_set_bt _ 12 (by omega) i hi, A.2.1 i hi]
theorem i_vc_shorted {k : Nat} {u : SX} {v : SY} (I : i_Rel k u v) (hk : k + 4 ≤ 2048) : wpX_shorted (fun r => wpY_shorted (fun r' => r' = r ∧ i_Rel (k + 4) u v) v) u := by
  have I0 := i_up I
  obtain ⟨fs, fp, ch, sz, ea, eb, kd, ga, sr, we, ro, se, ln, vv, zz, tt, aa, bb, ww, yw, yu, yf, ye, ys, yn, vs, zs, na, nb, wn, tb, rfl, rfl, W, A, B⟩ := I
  exact xs_shorted W A (fun h => sh_shorted W B (fun _ => ⟨rfl, I0⟩) (fun z => absurd h z)) (fun h => sh_shorted W B (fun z => absurd z h) (fun _ => ⟨rfl, I0⟩))
theorem i_vc_reach {k : Nat} {u : SX} {v : SY} (I : i_Rel k u v) (hk : k + 4 ≤ 2048) (v1 : Int32) : wpX_reach (fun r => wpY_reach (fun r' => r' = r ∧ i_Rel (k + 4) u v) v v1) u v1 := by
  have I0 := i_up I
  obtain ⟨fs, fp, ch, sz, ea, eb, kd, ga, sr, we, ro, se, ln, vv, zz, tt, aa, bb, ww, yw, yu, yf, ye, ys, yn, vs, zs, na, nb, wn, tb, rfl, rfl, W, A, B⟩ := I
  unfold wpX_reach
  dsimp only
  rcases cg_node v1 with ⟨n, hn, rfl⟩ | ⟨nx, ny⟩
  · exact xc_node (by omega) (fun _ => br_f (by decide) (xc_closed W A (xs_spread W A hn (yr_reach W B hn ⟨rfl, I0⟩)))) (fun z => by omega)
  · refine nx _ (br_t rfl ?_)
    unfold wpY_reach
    dsimp only
    exact ny _ _ _ _ _ _ _ _ _ _ _ _ _ _ (br_t rfl ⟨rfl, I0⟩)
theorem i_vc_unknowns {k : Nat} {u : SX} {v : SY} (I : i_Rel k u v) (hk : k + 4 ≤ 2048) : wpX_unknowns (fun r u' => wpY_unknowns (fun r' v' => r' = r ∧ i_Rel (k + 4) u' v') v) u := by
  obtain ⟨fs, fp, ch, sz, ea, eb, kd, ga, sr, we, ro, se, ln, vv, zz, tt, aa, bb, ww, yw, yu, yf, ye, ys, yn, vs, zs, na, nb, wn, tb, rfl, rfl, W, A, B⟩ := I
  unfold wpX_unknowns
  dsimp only
  refine xr_trace W A ?_
  intro we ro _ hr
  dsimp only
  refine ⟨7, un_X W A hr ?_ 6 0 rfl⟩
  unfold wpY_unknowns
  dsimp only
  refine yo_work W B ?_
  intro yw yu yf ye ys _ hs
  dsimp only
  exact ⟨7, un_Y W B hs ⟨rfl, cg_rel W A B⟩ 6 0 rfl⟩
theorem i_vc_inputsFor {k : Nat} {u : SX} {v : SY} (I : i_Rel k u v) (hk : k + 4 ≤ 2048) (v1 : Int32) (v2 : Int32) : wpX_inputsFor (fun r u' => wpY_inputsFor (fun r' v' => r' = r ∧ i_Rel (k + 4) u' v') v v1 v2) u v1 v2 := by
  have I0 := i_up I
  obtain ⟨fs, fp, ch, sz, ea, eb, kd, ga, sr, we, ro, se, ln, vv, zz, tt, aa, bb, ww, yw, yu, yf, ye, ys, yn, vs, zs, na, nb, wn, tb, rfl, rfl, W, A, B⟩ := I
  unfold wpX_inputsFor wpY_inputsFor
  dsimp only
  rcases cg_store v1 with ⟨s, h5, h11, rfl⟩ | ⟨nx, ny⟩
  · refine xc_store (by omega) (fun _ _ => br_f (by decide) ?_) (fun z => absurd ⟨h5, h11⟩ z)
    by_cases e2 : v2 < 0
    · exact br_t e2 (yc_store (by omega) (fun _ _ => br_f (by decide) (br_t e2 ⟨rfl, I0⟩)) (fun z => absurd ⟨h5, h11⟩ z))
    · obtain ⟨w, hw, rfl⟩ := nI_of e2
      refine br_f e2 (pk_le w 2 (fun h2 => ⟨9, if_X20 W A h11 h2 8 0 we ro rfl ?_⟩) (fun h2 => ?_))
      · intro we ro
        refine yc_store (by omega) (fun _ _ => br_f (by decide) (br_f e2 (pk_le w 2 (fun _ => ?_) (fun z => by omega)))) (fun z => absurd ⟨h5, h11⟩ z)
        have a2 := W.2.2.1 2 (by omega)
        have a3 := W.2.2.1 3 (by omega)
        have a4 := W.2.2.1 4 (by omega)
        have eo : ((vv 2 ||| (vv 3 <<< ((1 : Int32) &&& 31))) ||| (vv 4 <<< ((2 : Int32) &&& 31))) = nI (vs 2 + 2 * vs 3 + 4 * vs 4) := by
          rw [B.1 2 (by omega), B.1 3 (by omega), B.1 4 (by omega)]
          exact if_old (vs 2) (by omega) (vs 3) (by omega) (vs 4) (by omega)
        refine nm_r eo ⟨9, ?_⟩
        have ho : ∀ n, if_v vs (vs 2 + 2 * vs 3 + 4 * vs 4) n = vs n := by
          intro n
          by_cases c2 : n = 2
          · subst c2; rw [if_2]; omega
          · by_cases c3 : n = 3
            · subst c3; rw [if_3]; omega
            · by_cases c4 : n = 4
              · subst c4; rw [if_4]; omega
              · exact if_o c2 c3 c4
        exact if_Y51 W h5 h11 h2 (by omega) ho (fun ln vv zz tt aa bb ww yw yu yf ye ys yn B' => ⟨rfl, cg_rel W A B'⟩) 8 ln vv yw yu yf ye ys vs (Nat.le_refl _) (fun n _ _ _ => rfl) B
      · exact yc_store (by omega) (fun _ _ => br_f (by decide) (br_f e2 (pk_le w 2 (fun z => by omega) (fun _ => ⟨rfl, I0⟩)))) (fun z => absurd ⟨h5, h11⟩ z)
  · exact nx _ (br_t rfl (ny _ _ _ _ _ _ _ _ _ _ _ _ _ _ (br_t rfl ⟨rfl, I0⟩)))
