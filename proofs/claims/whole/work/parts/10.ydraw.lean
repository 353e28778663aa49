theorem gy_k120 {post : Int32 → SY → Prop} {fz sz os vx vy vw vl vr vo vh : Int32} {rs ru fi ac wd nx ot pt se : Nat → Int32} {P : Nat → Bool} (hP : ∀ c, c < 216 → se c = if P c = true then 1 else 0) : ∀ d c f, c + d = 216 → post (nI (f + gw_cnt P d c)) (fz, sz, os, vx, vy, vw, vl, vr, vo, vh, rs, ru, fi, ac, wd, nx, ot, pt, se) → wY_kinds_120 post fz sz os vx vy vw vl vr vo vh rs ru fi ac wd nx ot pt se (d + 1) (nI f) (nI c) := by
  intro d
  induction d with
  | zero =>
    intro c f hc h
    rw [wY_kinds_120]
    dsimp only
    exact br_t (nI_le (a := 216) (by omega) (by omega)) h
  | succ d ih =>
    intro c f hc h
    rw [wY_kinds_120]
    dsimp only
    rw [nI_clamp (by omega), hP c (by omega)]
    refine br_f (nI_ge (b := 216) (by omega) (by decide)) ⟨vp_in_nI (by omega) (by omega), ?_⟩
    by_cases z : P c = true
    · rw [gw_cnt_t z] at h
      rw [if_pos z]
      refine br_f (by decide) (nm_r (nI_1 _) (nm_r (nI_1 _) (ih (c + 1) (f + 1) (by omega) ?_)))
      rw [show ∀ m, f + 1 + m = f + (m + 1) by intro m; omega]
      exact h
    · rw [gw_cnt_f z] at h
      rw [if_neg z]
      exact br_t rfl (nm_r (nI_1 _) (ih (c + 1) f (by omega) h))
theorem gw_cd216 {w : Nat → Nat} {p k : Nat} (hk : k ≤ 3) (h : ∀ i, i < k → w (p + i) < 6) : gw_cd w p k < 216 :=
  Nat.lt_of_lt_of_le (gw_cd_lt k h) (Nat.le_trans (Nat.pow_le_pow_right (by decide) hk) (by decide))
theorem gy_k70 {post : Int32 → SY → Prop} {J : Int32 → (Nat → Int32) → (Nat → Int32) → (Nat → Int32) → (Nat → Int32) → (Nat → Int32) → (Nat → Int32) → (Nat → Int32) → (Nat → Int32) → (Nat → Int32) → Prop} {fz sz os vx vy vw vl vr vo vh : Int32} {rs ru fi ac wd nx ot pt se : Nat → Int32} {s k p : Nat} {w : Nat → Nat} (hs : s ≤ 3000) (hk : k ≤ 3) (hp : p + k ≤ s) (hw : ∀ j, j < s → w j < 6 ∧ wd j = nI (w j))
    (H : J (nI (p + 1)) rs ru fi ac wd nx ot pt (upd se (gw_cd w p k) 1)) : ∀ d i, i + d = k → wY_kinds_70 post J (nI k) (nI p) fz sz os vx vy vw vl vr vo vh rs ru fi ac wd nx ot pt se (d + 1) (nI (gw_cd w p i)) (nI i) := by
  intro d
  have h216 : gw_cd w p k < 216 := gw_cd216 hk (fun i hi => (hw (p + i) (by omega)).1)
  induction d with
  | zero =>
    intro i hi
    rw [wY_kinds_70]
    dsimp only
    have e : i = k := by omega
    subst e
    rw [nI_clamp (by omega)]
    exact br_t (nI_le (by omega) (by omega)) ⟨vp_in_nI h216 (by omega), nm_e (nm_r (nI_1 _) H)⟩
  | succ d ih =>
    intro i hi
    rw [wY_kinds_70]
    dsimp only
    have k1 := hw (p + i) (by omega)
    have e : 6 * nI (gw_cd w p i) + nI (w (p + i)) = nI (gw_cd w p (i + 1)) := by
      rw [show (6 : Int32) = nI 6 from by decide, pk_mul, nI_add, gw_cd_s]
    rw [nI_add, nI_clamp (n := p + i) (by omega), k1.2, e]
    exact br_f (nI_ge (by omega) (by omega)) ⟨vp_in_nI (by omega) (by omega), nm_e (nm_r (nI_1 _) (ih (i + 1) (by omega)))⟩
theorem gy_k53 {post : Int32 → SY → Prop} {fz os vx vy vw vl vr vo vh : Int32} {rs ru fi ac wd nx ot pt : Nat → Int32} {s k : Nat} {w : Nat → Nat} (hs : s ≤ 3000) (h1 : 1 ≤ k) (hk : k ≤ 3) (hw : ∀ j, j < s → w j < 6 ∧ wd j = nI (w j))
    (H : ∀ se, post (nI (gw_cnt (gw_S (fun t => gw_cd w t k) (s + 1 - k)) 216 0)) (fz, nI s, os, vx, vy, vw, vl, vr, vo, vh, rs, ru, fi, ac, wd, nx, ot, pt, se)) : ∀ d p se, p + d = s + 1 - k → (∀ c, c < 216 → se c = if gw_S (fun t => gw_cd w t k) p c = true then 1 else 0) → wY_kinds_53 post (nI k) fz (nI s) os vx vy vw vl vr vo vh (d + 1) (nI p) rs ru fi ac wd nx ot pt se := by
  intro d
  induction d with
  | zero =>
    intro p se hp h
    rw [wY_kinds_53]
    dsimp only
    rw [nI_add]
    have e : p = s + 1 - k := by omega
    subst e
    refine br_t (nI_lt (by omega) (by omega)) ⟨217, ?_⟩
    refine gy_k120 h 216 0 0 (by omega) ?_
    rw [Nat.zero_add]
    exact H se
  | succ d ih =>
    intro p se hp h
    rw [wY_kinds_53]
    dsimp only
    rw [nI_add]
    refine br_f (nI_nlt (by omega) (by omega)) ⟨k + 1, ?_⟩
    refine gy_k70 hs hk (by omega) hw ?_ k 0 (by omega)
    refine ih (p + 1) _ (by omega) (fun c hc => ?_)
    by_cases z : c = gw_cd w p k
    · rw [z, pk_us]
      exact (if_pos (if_pos rfl)).symm
    · rw [pk_un z, h c hc]
      have e : gw_S (fun t => gw_cd w t k) (p + 1) c = gw_S (fun t => gw_cd w t k) p c := if_neg z
      rw [e]
theorem gy_k28 {post : Int32 → SY → Prop} {fz os vx vy vw vl vr vo vh : Int32} {rs ru fi ac wd nx ot pt : Nat → Int32} {s k : Nat} {w : Nat → Nat} (hs : s ≤ 3000) (h1 : 1 ≤ k) (hk : k ≤ 3) (hw : ∀ j, j < s → w j < 6 ∧ wd j = nI (w j))
    (H : ∀ se, post (nI (gw_cnt (gw_S (fun t => gw_cd w t k) (s + 1 - k)) 216 0)) (fz, nI s, os, vx, vy, vw, vl, vr, vo, vh, rs, ru, fi, ac, wd, nx, ot, pt, se)) : ∀ d p se, p + d = 216 → (∀ c, c < p → se c = 0) → wY_kinds_28 post (nI k) fz (nI s) os vx vy vw vl vr vo vh (d + 1) (nI p) rs ru fi ac wd nx ot pt se := by
  intro d
  induction d with
  | zero =>
    intro p se hp h
    rw [wY_kinds_28]
    dsimp only
    refine br_t (nI_le (a := 216) (by omega) (by omega)) ⟨s + 1 - k + 1, ?_⟩
    refine gy_k53 hs h1 hk hw H (s + 1 - k) 0 se (by omega) (fun c hc => ?_)
    rw [h c (by omega)]
    rfl
  | succ d ih =>
    intro p se hp h
    rw [wY_kinds_28]
    dsimp only
    rw [nI_clamp (by omega)]
    refine br_f (nI_ge (b := 216) (by omega) (by decide)) ⟨vp_in_nI (by omega) (by omega), nm_e (nm_r (nI_1 _) ?_)⟩
    refine ih (p + 1) _ (by omega) (fun c hc => ?_)
    by_cases z : c = p
    · rw [z, pk_us]
      rfl
    · rw [pk_un z]
      exact h c (by omega)
theorem gy_265 {post : SY → Prop} {J : Int32 → Int32 → Int32 → Int32 → Int32 → Int32 → Int32 → Int32 → Prop} {fz sz os vx vy vw vl vr vo vh : Int32} {rs ru fi ac wd nx ot pt se : Nat → Int32} {p : Nat} {x1 z : Int32} (h : J (nI (p + 1)) vx vy vw vl vr z (gw_mx vy vh)) : wY_draw_265 post J x1 (nI p) z fz sz os vx vy vw vl vr vo vh rs ru fi ac wd nx ot pt se := by
  unfold wY_draw_265
  unfold gw_mx at h
  by_cases y : vy ≤ vh
  · rw [if_pos y] at h; exact br_t y (nm_r (nI_1 _) h)
  · rw [if_neg y] at h; exact br_f y (nm_r (nI_1 _) h)
theorem gy_239 {post : SY → Prop} {J : Int32 → Int32 → Int32 → Int32 → Int32 → Int32 → Int32 → Int32 → Prop} {fz sz os vx vy vw vl vr vo vh : Int32} {rs ru fi ac wd nx ot pt se : Nat → Int32} {p : Nat} {x1 z : Int32} (h : J (nI (p + 1)) vx vy vw vl z (gw_mn vy vo) (gw_mx vy vh)) : wY_draw_239 post J x1 (nI p) z fz sz os vx vy vw vl vr vo vh rs ru fi ac wd nx ot pt se := by
  unfold wY_draw_239
  unfold gw_mn at h
  by_cases y : vo ≤ vy
  · rw [if_pos y] at h; exact br_t y (gy_265 h)
  · rw [if_neg y] at h; exact br_f y (gy_265 h)
theorem gy_213 {post : SY → Prop} {J : Int32 → Int32 → Int32 → Int32 → Int32 → Int32 → Int32 → Int32 → Prop} {fz sz os vx vy vw vl vr vo vh : Int32} {rs ru fi ac wd nx ot pt se : Nat → Int32} {p : Nat} {x1 z : Int32} (h : J (nI (p + 1)) vx vy vw z (gw_mx vx vr) (gw_mn vy vo) (gw_mx vy vh)) : wY_draw_213 post J x1 (nI p) z fz sz os vx vy vw vl vr vo vh rs ru fi ac wd nx ot pt se := by
  unfold wY_draw_213
  by_cases y : vx ≤ vr
  · have e : gw_mx vx vr = vr := if_pos y
    rw [e] at h; exact br_t y (gy_239 h)
  · have e : gw_mx vx vr = vx := if_neg y
    rw [e] at h; exact br_f y (gy_239 h)
theorem gy_187 {post : SY → Prop} {J : Int32 → Int32 → Int32 → Int32 → Int32 → Int32 → Int32 → Int32 → Prop} {fz sz os vx vy vw vl vr vo vh : Int32} {rs ru fi ac wd nx ot pt se : Nat → Int32} {p : Nat} {x1 z : Int32} (h : J (nI (p + 1)) vx vy z (gw_mn vx vl) (gw_mx vx vr) (gw_mn vy vo) (gw_mx vy vh)) : wY_draw_187 post J x1 (nI p) z fz sz os vx vy vw vl vr vo vh rs ru fi ac wd nx ot pt se := by
  unfold wY_draw_187
  by_cases y : vl ≤ vx
  · have e : gw_mn vx vl = vl := if_pos y
    rw [e] at h; exact br_t y (gy_213 h)
  · have e : gw_mn vx vl = vx := if_neg y
    rw [e] at h; exact br_f y (gy_213 h)
theorem gy_150 {post : SY → Prop} {J : Int32 → Int32 → Int32 → Int32 → Int32 → Int32 → Int32 → Int32 → Prop} {fz sz os vx vy vw vl vr vo vh : Int32} {rs ru fi ac wd nx ot pt se : Nat → Int32} {p : Nat} {x1 a : Int32} (h : J (nI (p + 1)) vx vy (gw_td a vw) (gw_mn vx vl) (gw_mx vx vr) (gw_mn vy vo) (gw_mx vy vh)) : wY_draw_150 post J x1 (nI p) a fz sz os vx vy vw vl vr vo vh rs ru fi ac wd nx ot pt se := by
  unfold wY_draw_150
  unfold gw_td at h
  by_cases y : a = 2
  · rw [if_pos y] at h; exact br_t y ⟨by decide, gy_187 h⟩
  · rw [if_neg y] at h
    refine br_f y ?_
    by_cases z : a = 3
    · rw [if_pos z] at h; exact br_t z ⟨by decide, gy_187 h⟩
    · rw [if_neg z] at h; exact br_f z (gy_187 h)
theorem gy_105 {post : SY → Prop} {J : Int32 → Int32 → Int32 → Int32 → Int32 → Int32 → Int32 → Int32 → Prop} {fz sz os vx vy vw vl vr vo vh : Int32} {rs ru fi ac wd nx ot pt se : Nat → Int32} {p : Nat} {x1 a z : Int32} (ha : a = 1) (h : J (nI (p + 1)) z (vy + gw_ty a vw) (gw_td a vw) (gw_mn z vl) (gw_mx z vr) (gw_mn (vy + gw_ty a vw) vo) (gw_mx (vy + gw_ty a vw) vh)) : wY_draw_105 post J x1 (nI p) a z fz sz os vx vy vw vl vr vo vh rs ru fi ac wd nx ot pt se := by
  unfold wY_draw_105
  by_cases y : vw = 1
  · have e : gw_ty a vw = 1 := by unfold gw_ty; rw [if_pos ha, if_pos y]
    rw [e] at h
    refine br_t y ?_
    unfold wY_draw_147
    exact gy_150 h
  · refine br_f y ?_
    by_cases x : vw = 3
    · have e : gw_ty a vw = -1 := by unfold gw_ty; rw [if_pos ha, if_neg y, if_pos x]
      rw [e, ← Int32.sub_eq_add_neg] at h
      refine br_t x ?_
      unfold wY_draw_147
      exact gy_150 h
    · have e : gw_ty a vw = 0 := by unfold gw_ty; rw [if_pos ha, if_neg y, if_neg x]
      rw [e, Int32.add_zero] at h
      refine br_f x ?_
      unfold wY_draw_147
      exact gy_150 h
theorem gy_dr {post : SY → Prop} {fz os : Int32} {rs ru fi ac wd nx ot pt se : Nat → Int32} {s e : Nat} {y : Int32} {w : Nat → Nat} {act : Nat → Int32} (hs : s ≤ 3000) (he : e ≤ s) (hy : ∀ t, t < s → (¬ y ≤ nI t ↔ t < e)) (hw : ∀ j, j < s → w j < 6 ∧ wd j = nI (w j)) (ha : ∀ p, act p = ac (w p))
    (h : post (fz, nI s, os, gw_x act e, gw_y act e, gw_d act e, gw_le (gw_x act) e, gw_gr (gw_x act) e, gw_le (gw_y act) e, gw_gr (gw_y act) e, rs, ru, fi, ac, wd, nx, ot, pt, se)) :
    ∀ d p, p + d = e → wY_draw_37 post y fz (nI s) os rs ru fi ac wd nx ot pt se (d + 1) (nI p) (gw_x act p) (gw_y act p) (gw_d act p) (gw_le (gw_x act) p) (gw_gr (gw_x act) p) (gw_le (gw_y act) p) (gw_gr (gw_y act) p) := by
  intro d
  induction d with
  | zero =>
    intro p hp
    rw [wY_draw_37]
    dsimp only
    have q : p = e := by omega
    subst q
    by_cases z : s ≤ p
    · exact br_t (nI_le z (by omega)) h
    · refine br_f (nI_ge (by omega) (by omega)) (br_t ?_ h)
      have k := hy p (by omega)
      by_cases r : y ≤ nI p
      · exact r
      · have := k.mp r
        omega
  | succ d ih =>
    intro p hp
    rw [wY_draw_37]
    dsimp only
    have k := hw p (by omega)
    have hc := k.1
    have K := ih (p + 1) (by omega)
    rw [gw_le_s, gw_le_s, gw_gr_s, gw_gr_s, gw_mn_c, gw_mx_c, gw_mn_c (gw_le (gw_y act) p), gw_mx_c (gw_gr (gw_y act) p)] at K
    have ex : gw_x act (p + 1) = gw_x act p + gw_tx (act p) (gw_d act p) := rfl
    have ey : gw_y act (p + 1) = gw_y act p + gw_ty (act p) (gw_d act p) := rfl
    have ed : gw_d act (p + 1) = gw_td (act p) (gw_d act p) := rfl
    rw [ex, ey, ed] at K
    rw [nI_clamp (by omega), k.2, nI_clamp (by omega), ← ha p]
    refine br_f (nI_ge (by omega) (by omega)) (br_f ((hy p (by omega)).mpr (by omega)) ⟨vp_in_nI (by omega) (by omega), vp_in_nI hc (by omega), nm_e ?_⟩)
    by_cases a1 : act p = 1
    · refine br_t a1 ?_
      by_cases d0 : gw_d act p = 0
      · have e1 : gw_tx (act p) (gw_d act p) = 1 := by unfold gw_tx; rw [if_pos a1, if_pos d0]
        rw [e1] at K
        exact br_t d0 (gy_105 a1 K)
      · refine br_f d0 ?_
        by_cases d2 : gw_d act p = 2
        · have e1 : gw_tx (act p) (gw_d act p) = -1 := by unfold gw_tx; rw [if_pos a1, if_neg d0, if_pos d2]
          rw [e1, ← Int32.sub_eq_add_neg] at K
          exact br_t d2 (gy_105 a1 K)
        · have e1 : gw_tx (act p) (gw_d act p) = 0 := by unfold gw_tx; rw [if_pos a1, if_neg d0, if_neg d2]
          rw [e1, Int32.add_zero] at K
          exact br_f d2 (gy_105 a1 K)
    · have e1 : gw_tx (act p) (gw_d act p) = 0 := by unfold gw_tx; rw [if_neg a1]
      have e2 : gw_ty (act p) (gw_d act p) = 0 := by unfold gw_ty; rw [if_neg a1]
      rw [e1, e2, Int32.add_zero, Int32.add_zero] at K
      exact br_f a1 (gy_150 K)
theorem gy_draw {post : SY → Prop} {fz os vx vy vw vl vr vo vh : Int32} {rs ru fi ac wd nx ot pt se : Nat → Int32} {s e : Nat} {y : Int32} {w : Nat → Nat} {act : Nat → Int32} (hs : s ≤ 3000) (he : e ≤ s) (hy : ∀ t, t < s → (¬ y ≤ nI t ↔ t < e)) (hw : ∀ j, j < s → w j < 6 ∧ wd j = nI (w j)) (ha : ∀ p, act p = ac (w p))
    (h : post (fz, nI s, os, gw_x act e, gw_y act e, gw_d act e, gw_le (gw_x act) e, gw_gr (gw_x act) e, gw_le (gw_y act) e, gw_gr (gw_y act) e, rs, ru, fi, ac, wd, nx, ot, pt, se)) : wpY_draw post (fz, nI s, os, vx, vy, vw, vl, vr, vo, vh, rs, ru, fi, ac, wd, nx, ot, pt, se) y := by
  unfold wpY_draw
  dsimp only
  exact ⟨e + 1, gy_dr hs he hy hw ha h e 0 (by omega)⟩
