theorem gy_ct {post : Int32 → SY → Prop} {fz os vx vy vw vl vr vo vh : Int32} {rs ru fi ac wd nx ot pt se : Nat → Int32} {s c : Nat} {w : Nat → Nat} {x y : Int32} (hs : s ≤ 3000) (hc : c < 6) (hw : ∀ j, j < s → w j < 6 ∧ wd j = nI (w j)) : ∀ d p f, p + d = s → post (nI (f + gw_cnt (fun q => decide (¬ nI q < x) && decide (¬ y ≤ nI q) && decide (w q = c)) d p)) (fz, nI s, os, vx, vy, vw, vl, vr, vo, vh, rs, ru, fi, ac, wd, nx, ot, pt, se) → wY_count_32 post (nI c) x y fz (nI s) os vx vy vw vl vr vo vh rs ru fi ac wd nx ot pt se (d + 1) (nI f) (nI p) := by
  intro d
  induction d with
  | zero =>
    intro p f hp h
    rw [wY_count_32]
    dsimp only
    exact br_t (nI_le (by omega) (by omega)) h
  | succ d ih =>
    intro p f hp h
    rw [wY_count_32]
    dsimp only
    have k := hw p (by omega)
    rw [nI_clamp (by omega), k.2]
    refine br_f (nI_ge (by omega) (by omega)) ?_
    by_cases z1 : nI p < x
    · rw [gw_cnt_f (by simp [z1])] at h
      exact br_t z1 (nm_r (nI_1 _) (ih (p + 1) f (by omega) h))
    · refine br_f z1 ?_
      by_cases z2 : y ≤ nI p
      · rw [gw_cnt_f (by simp [z2])] at h
        exact br_t z2 (nm_r (nI_1 _) (ih (p + 1) f (by omega) h))
      · refine br_f z2 ⟨vp_in_nI (by omega) (by omega), ?_⟩
        by_cases z3 : w p = c
        · rw [gw_cnt_t (by rw [decide_eq_true z1, decide_eq_true z2, decide_eq_true z3]; rfl)] at h
          refine br_t (by rw [z3]) (nm_r (nI_1 _) (nm_r (nI_1 _) (ih (p + 1) (f + 1) (by omega) ?_)))
          rw [show ∀ m, f + 1 + m = f + (m + 1) by intro m; omega]
          exact h
        · rw [gw_cnt_f (by simp [z3])] at h
          exact br_f (fun q => z3 ((nI_eq (by omega) (by omega)).mp q)) (nm_r (nI_1 _) (ih (p + 1) f (by omega) h))
theorem gy_st {post : Int32 → Prop} {fz sz os vx vy vw vl vr vo vh : Int32} {rs ru fi ac wd nx ot pt se : Nat → Int32} {s m q x : Nat} {w : Nat → Nat} (hs : s ≤ 3000) (hm : m ≤ 8) (hq : q + m ≤ s) (hw : ∀ j, j < s → w j < 6 ∧ wd j = nI (w j)) (hp : ∀ j, j < m → pt j = nI (gw_dg x j))
    (H1 : (∀ i, i < m → w (q + i) = gw_dg x i) → post 1) (H0 : ¬ (∀ i, i < m → w (q + i) = gw_dg x i) → post 0) : ∀ d k b, k + d = m → (b = 1 ∧ (∀ i, i < k → w (q + i) = gw_dg x i)) ∨ (b = 0 ∧ ¬ (∀ i, i < m → w (q + i) = gw_dg x i)) → wY_standsAt_17 post (nI q) (nI m) fz sz os vx vy vw vl vr vo vh rs ru fi ac wd nx ot pt se (d + 1) b (nI k) := by
  intro d
  induction d with
  | zero =>
    intro k b hk hb
    rw [wY_standsAt_17]
    dsimp only
    have e : k = m := by omega
    subst e
    rcases hb with ⟨e, h⟩ | ⟨e, h⟩
    · subst e
      exact br_t (nI_le (by omega) (by omega)) ⟨rfl, H1 h⟩
    · subst e
      exact br_t (nI_le (by omega) (by omega)) ⟨rfl, H0 h⟩
  | succ d ih =>
    intro k b hk hb
    rw [wY_standsAt_17]
    dsimp only
    refine br_f (nI_ge (by omega) (by omega)) ?_
    rcases hb with ⟨e, h⟩ | ⟨e, h⟩
    · subst e
      have k1 := hw (q + k) (by omega)
      have k2 := gw_dg_lt x k
      rw [nI_add, nI_clamp (by omega), nI_clamp (by omega), k1.2, hp k (by omega)]
      refine br_f (by decide) ⟨vp_in_nI (by omega) (by omega), vp_in_nI (by omega) (by omega), ?_⟩
      by_cases z : w (q + k) = gw_dg x k
      · refine br_t (by rw [z]) (nm_r (nI_1 _) (ih (k + 1) 1 (by omega) (Or.inl ⟨rfl, fun i hi => ?_⟩)))
        by_cases y : i = k
        · rw [y]; exact z
        · exact h i (by omega)
      · exact br_f (fun r => z ((nI_eq (by omega) (by omega)).mp r)) (nm_r (nI_1 _) (ih (k + 1) 0 (by omega) (Or.inr ⟨rfl, fun r => z (r k (by omega))⟩)))
    · subst e
      exact br_t rfl (nm_r (nI_1 _) (ih (k + 1) 0 (by omega) (Or.inr ⟨rfl, h⟩)))
theorem gy_standsAt {post : Int32 → Prop} {fz os vx vy vw vl vr vo vh : Int32} {rs ru fi ac wd nx ot pt se : Nat → Int32} {s m q x : Nat} {w : Nat → Nat} {v : Int32} (G : gw_Good 4 v x m) (hs : s ≤ 3000) (hq : q < s) (hw : ∀ j, j < s → w j < 6 ∧ wd j = nI (w j)) (hp : ∀ j, j < m → pt j = nI (gw_dg x j))
    (H1 : q + m ≤ s ∧ gw_hor w m q = x → post 1) (H0 : ¬ (q + m ≤ s ∧ gw_hor w m q = x) → post 0) : wpY_standsAt post (fz, nI s, os, vx, vy, vw, vl, vr, vo, vh, rs, ru, fi, ac, wd, nx, ot, pt, se) (nI q) (nI m) := by
  unfold wpY_standsAt
  dsimp only
  have hm := gw_Good_le G
  rw [nI_add]
  by_cases z : q + m ≤ s
  · refine br_t (nI_le z (by omega)) ⟨m + 1, ?_⟩
    have C : gw_hor w m q = x ↔ ∀ i, i < m → w (q + i) = gw_dg x i := by
      have c := gw_hor_inj (f := w) (g := gw_dg x) m q 0 (fun i hi => (hw (q + i) (by omega)).1) (fun i _ => gw_dg_lt x _)
      rw [gw_Good_hor G] at c
      rw [c]
      exact ⟨fun h i hi => by have := h i hi; rw [Nat.zero_add] at this; exact this, fun h i hi => by rw [Nat.zero_add]; exact h i hi⟩
    exact gy_st hs (by omega) z hw hp (fun h => H1 ⟨z, C.mpr h⟩) (fun h => H0 (fun k => h (C.mp k.2))) m 0 1 (by omega) (Or.inl ⟨rfl, fun i hi => absurd hi (Nat.not_lt_zero i)⟩)
  · exact br_f (nI_ge (by omega) (by omega)) (H0 (fun k => z k.1))
theorem gy_fi {post : Int32 → SY → Prop} {fz os vx vy vw vl vr vo vh : Int32} {rs ru fi ac wd nx ot pt se : Nat → Int32} {s m x : Nat} {w : Nat → Nat} {v y : Int32} (G : gw_Good 4 v x m) (hs : s ≤ 3000) (hw : ∀ j, j < s → w j < 6 ∧ wd j = nI (w j)) (hp : ∀ j, j < m → pt j = nI (gw_dg x j)) :
    ∀ d p, p + d = s → post (gx_f (gw_fst (fun q => decide (¬ nI q < y) && decide (q + m ≤ s ∧ gw_hor w m q = x)) d p)) (fz, nI s, os, vx, vy, vw, vl, vr, vo, vh, rs, ru, fi, ac, wd, nx, ot, pt, se) → wY_find_35 post y (nI m) fz (nI s) os vx vy vw vl vr vo vh rs ru fi ac wd nx ot pt se (d + 1) (nI p) := by
  intro d
  induction d with
  | zero =>
    intro p hd h
    rw [wY_find_35]
    dsimp only
    exact br_t (nI_le (by omega) (by omega)) h
  | succ d ih =>
    intro p hd h
    rw [wY_find_35]
    dsimp only
    refine br_f (nI_ge (by omega) (by omega)) ?_
    by_cases z1 : nI p < y
    · rw [gw_fst_f (by rw [decide_eq_false (fun k => k z1)]; simp)] at h
      exact br_t z1 (nm_r (nI_1 _) (ih (p + 1) (by omega) h))
    · refine br_f z1 (gy_standsAt G hs (by omega) hw hp (fun k => ?_) (fun k => ?_))
      · rw [gw_fst_t (by rw [decide_eq_true z1, decide_eq_true k]; rfl)] at h
        exact br_f (by decide) h
      · rw [gw_fst_f (by rw [decide_eq_false k]; simp)] at h
        exact br_t rfl (nm_r (nI_1 _) (ih (p + 1) (by omega) h))
theorem gy_oc {post : Int32 → SY → Prop} {fz os vx vy vw vl vr vo vh : Int32} {rs ru fi ac wd nx ot pt se : Nat → Int32} {s m x : Nat} {w : Nat → Nat} {v : Int32} (G : gw_Good 4 v x m) (hs : s ≤ 3000) (hw : ∀ j, j < s → w j < 6 ∧ wd j = nI (w j)) (hp : ∀ j, j < m → pt j = nI (gw_dg x j)) :
    ∀ d p f, p + d = s → post (nI (f + gw_cnt (fun q => decide (q + m ≤ s ∧ gw_hor w m q = x)) d p)) (fz, nI s, os, vx, vy, vw, vl, vr, vo, vh, rs, ru, fi, ac, wd, nx, ot, pt, se) → wY_occurrences_35 post (nI m) fz (nI s) os vx vy vw vl vr vo vh rs ru fi ac wd nx ot pt se (d + 1) (nI f) (nI p) := by
  intro d
  induction d with
  | zero =>
    intro p f hd h
    rw [wY_occurrences_35]
    dsimp only
    exact br_t (nI_le (by omega) (by omega)) h
  | succ d ih =>
    intro p f hd h
    rw [wY_occurrences_35]
    dsimp only
    refine br_f (nI_ge (by omega) (by omega)) (gy_standsAt G hs (by omega) hw hp (fun k => ?_) (fun k => ?_))
    · rw [gw_cnt_t (decide_eq_true k)] at h
      refine br_f (by decide) (nm_r (nI_1 _) (nm_r (nI_1 _) (ih (p + 1) (f + 1) (by omega) ?_)))
      rw [show ∀ m, f + 1 + m = f + (m + 1) by intro m; omega]
      exact h
    · rw [gw_cnt_f (by rw [decide_eq_true_eq]; exact k)] at h
      exact br_t rfl (nm_r (nI_1 _) (ih (p + 1) f (by omega) h))
theorem gy_r61 {post : Int32 → SY → Prop} {J : Int32 → Int32 → Int32 → Prop} {fz sz os vx vy vw vl vr vo vh : Int32} {rs ru fi ac wd nx ot pt se : Nat → Int32} {p : Nat} {a z : Int32} (h : J (gw_mx a z) z (nI (p + 1))) : wY_run_61 post J a (nI p) z fz sz os vx vy vw vl vr vo vh rs ru fi ac wd nx ot pt se := by
  unfold wY_run_61
  rw [gw_mx_c] at h
  unfold gw_mx at h
  by_cases y : z ≤ a
  · rw [if_pos y] at h
    exact br_t y (nm_r (nI_1 _) h)
  · rw [if_neg y] at h
    exact br_f y (nm_r (nI_1 _) h)
theorem gy_rn {post : Int32 → SY → Prop} {fz os vx vy vw vl vr vo vh : Int32} {rs ru fi ac wd nx ot pt se : Nat → Int32} {s : Nat} {w : Nat → Nat} (hs : s ≤ 3000) (hw : ∀ j, j < s → w j < 6 ∧ wd j = nI (w j)) (h : post (gw_gr (gw_rh w) s) (fz, nI s, os, vx, vy, vw, vl, vr, vo, vh, rs, ru, fi, ac, wd, nx, ot, pt, se)) :
    ∀ d p, p + d = s → wY_run_20 post fz (nI s) os vx vy vw vl vr vo vh rs ru fi ac wd nx ot pt se (d + 1) (gw_gr (gw_rh w) p) (gw_rh w p) (nI p) := by
  intro d
  induction d with
  | zero =>
    intro p hp
    rw [wY_run_20]
    dsimp only
    have e : p = s := by omega
    subst e
    exact br_t (nI_le (by omega) (by omega)) h
  | succ d ih =>
    intro p hp
    rw [wY_run_20]
    dsimp only
    have K := ih (p + 1) (by omega)
    rw [gw_gr_s] at K
    refine br_f (nI_ge (by omega) (by omega)) ?_
    have k := hw p (by omega)
    by_cases y : p = 0
    · have e : gw_rh w (p + 1) = 1 := by rw [gw_rh_s, if_neg (by omega)]
      rw [e] at K
      refine br_t (by rw [y]; decide) ?_
      unfold wY_run_60
      exact gy_r61 K
    · obtain ⟨q, rfl⟩ : ∃ q, p = q + 1 := ⟨p - 1, by omega⟩
      have k1 := hw q (by omega)
      rw [nI_pred, nI_clamp (by omega), nI_clamp (by omega), k.2, k1.2]
      refine br_f (nI_nle (by omega) (by omega)) ⟨vp_in_nI (by omega) (by omega), vp_in_nI (by omega) (by omega), ?_⟩
      by_cases z : w (q + 1) = w q
      · have e : gw_rh w (q + 1 + 1) = gw_rh w (q + 1) + 1 := by rw [gw_rh_s w (q + 1), if_pos ⟨by omega, by rw [Nat.add_sub_cancel]; exact z⟩]
        rw [e] at K
        exact br_t (by rw [z]) (gy_r61 K)
      · have e : gw_rh w (q + 1 + 1) = 1 := by rw [gw_rh_s w (q + 1), if_neg (fun r => z (by have := r.2; rw [Nat.add_sub_cancel] at this; exact this))]
        rw [e] at K
        refine br_f (fun r => z ((nI_eq (by omega) (by omega)).mp r)) ?_
        unfold wY_run_60
        exact gy_r61 K
theorem gy_c89 {post : Int32 → SY → Prop} {fz vx vy vw vl vr vo vh : Int32} {rs ru fi ac wd nx ot pt se : Nat → Int32} {s s' e : Nat} {w w' : Nat → Nat} (hs : s ≤ 3000) (hs' : s' ≤ 3000) (hw : ∀ j, j < s → w j < 6 ∧ ot j = nI (w j)) (hw' : ∀ j, j < s' → w' j < 6 ∧ wd j = nI (w' j)) (he : e = gw_min s s') :
    ∀ d p, p + d = e → post (nI (gw_pre w w' d p)) (fz, nI s', nI s, vx, vy, vw, vl, vr, vo, vh, rs, ru, fi, ac, wd, nx, ot, pt, se) → wY_common_89 post fz (nI s') (nI s) vx vy vw vl vr vo vh rs ru fi ac wd nx ot pt se (d + 1) (nI p) := by
  intro d
  have hm := gw_min_le s s'
  induction d with
  | zero =>
    intro p hp h
    rw [wY_common_89]
    dsimp only
    have q : p = gw_min s s' := by omega
    unfold gw_min at q
    by_cases z : s ≤ s'
    · rw [if_pos z] at q
      exact br_c (fun _ => h) (fun _ => br_t (nI_le (by omega) (by omega)) h)
    · rw [if_neg z] at q
      exact br_t (nI_le (by omega) (by omega)) h
  | succ d ih =>
    intro p hp h
    rw [wY_common_89]
    dsimp only
    have k := hw p (by omega)
    have k' := hw' p (by omega)
    rw [nI_clamp (by omega), k.2, k'.2]
    refine br_f (nI_ge (by omega) (by omega)) (br_f (nI_ge (by omega) (by omega)) ⟨vp_in_nI (by omega) (by omega), vp_in_nI (by omega) (by omega), ?_⟩)
    by_cases z : w p = w' p
    · rw [gw_pre_t z] at h
      exact br_t (by rw [z]) (nm_r (nI_1 _) (ih (p + 1) (by omega) h))
    · rw [gw_pre_f z] at h
      exact br_f (fun r => z ((nI_eq (by omega) (by omega)).mp r).symm) h
theorem gy_c45 {post : Int32 → SY → Prop} {fz os vx vy vw vl vr vo vh : Int32} {rs ru fi ac wd nx pt se : Nat → Int32} {s : Nat} {w : Nat → Nat} {x : Int32} (hs : s ≤ 3000) (hw : ∀ j, j < s → w j < 6 ∧ wd j = nI (w j))
    (H : ∀ ot, (∀ j, j < s → w j < 6 ∧ ot j = nI (w j)) → ∃ n, wY_common_45 post x fz (nI s) os vx vy vw vl vr vo vh (n + 1) (nI s) rs ru fi ac wd nx ot pt se) : ∀ d p ot, p + d = s → (∀ j, j < p → ot j = nI (w j)) → ∃ n, wY_common_45 post x fz (nI s) os vx vy vw vl vr vo vh (n + 1) (nI p) rs ru fi ac wd nx ot pt se := by
  intro d
  induction d with
  | zero =>
    intro p ot hp h
    have e : p = s := by omega
    subst e
    exact H ot (fun j hj => ⟨(hw j hj).1, h j hj⟩)
  | succ d ih =>
    intro p ot hp h
    have k := hw p (by omega)
    obtain ⟨n, hn⟩ := ih (p + 1) (upd ot p (nI (w p))) (by omega) (fun j hj => by
      by_cases z : j = p
      · rw [z, pk_us]
      · rw [pk_un z]
        exact h j (by omega))
    refine ⟨n + 1, ?_⟩
    rw [wY_common_45]
    dsimp only
    rw [nI_clamp (by omega), k.2, gw_nar k.1]
    exact br_f (nI_ge (by omega) (by omega)) ⟨vp_in_nI (by omega) (by omega), vp_in_nI (by omega) (by omega), nm_e (nm_r (nI_1 _) hn)⟩
theorem gy_mi {post : Int32 → SY → Prop} {fz os vx vy vw vl vr vo vh : Int32} {rs ru fi ac wd nx ot pt se : Nat → Int32} {s : Nat} {w : Nat → Nat} (hs : s ≤ 3000) (hw : ∀ j, j < s → w j < 6 ∧ wd j = nI (w j))
    (H1 : (∀ p, p < s → w p = w (s - 1 - p)) → post 1 (fz, nI s, os, vx, vy, vw, vl, vr, vo, vh, rs, ru, fi, ac, wd, nx, ot, pt, se)) (H0 : (∃ p, p < s ∧ ¬ w p = w (s - 1 - p)) → post 0 (fz, nI s, os, vx, vy, vw, vl, vr, vo, vh, rs, ru, fi, ac, wd, nx, ot, pt, se)) :
    ∀ d p b, p + d = s → (b = 1 ∧ (∀ t, t < p → w t = w (s - 1 - t))) ∨ (b = 0 ∧ ∃ t, t < s ∧ ¬ w t = w (s - 1 - t)) → wY_mirrored_17 post fz (nI s) os vx vy vw vl vr vo vh rs ru fi ac wd nx ot pt se (d + 1) b (nI p) := by
  intro d
  induction d with
  | zero =>
    intro p b hp hb
    rw [wY_mirrored_17]
    dsimp only
    refine br_t (nI_le (by omega) (by omega)) ?_
    rcases hb with ⟨e, h⟩ | ⟨e, h⟩
    · subst e
      exact br_f (by decide) (H1 (fun t ht => h t (by omega)))
    · subst e
      exact br_t rfl (H0 h)
  | succ d ih =>
    intro p b hp hb
    rw [wY_mirrored_17]
    dsimp only
    refine br_f (nI_ge (by omega) (by omega)) ?_
    rcases hb with ⟨e, h⟩ | ⟨e, h⟩
    · subst e
      have E : nI s - 1 - nI p = nI (s - 1 - p) := by
        obtain ⟨q, hq⟩ : ∃ q, s = q + 1 := ⟨s - 1, by omega⟩
        rw [hq, nI_pred, pk_sub (by omega), Nat.add_sub_cancel]
      have k := hw p (by omega)
      have k' := hw (s - 1 - p) (by omega)
      rw [E, nI_clamp (by omega), nI_clamp (by omega), k.2, k'.2]
      refine br_f (by decide) ⟨vp_in_nI (by omega) (by omega), vp_in_nI (by omega) (by omega), ?_⟩
      by_cases z : w p = w (s - 1 - p)
      · refine br_t (by rw [← z]) (nm_r (nI_1 _) (ih (p + 1) 1 (by omega) (Or.inl ⟨rfl, fun t ht => ?_⟩)))
        by_cases y : t = p
        · rw [y]; exact z
        · exact h t (by omega)
      · exact br_f (fun r => z ((nI_eq (by omega) (by omega)).mp r)) (nm_r (nI_1 _) (ih (p + 1) 0 (by omega) (Or.inr ⟨rfl, p, by omega, z⟩)))
    · subst e
      exact br_t rfl (nm_r (nI_1 _) (ih (p + 1) 0 (by omega) (Or.inr ⟨rfl, h⟩)))
