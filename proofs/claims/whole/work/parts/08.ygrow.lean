theorem gy_in {post : Int32 → SY → Prop} {J : Int32 → Int32 → (Nat → Int32) → (Nat → Int32) → (Nat → Int32) → (Nat → Int32) → (Nat → Int32) → (Nat → Int32) → (Nat → Int32) → (Nat → Int32) → (Nat → Int32) → Prop} {fz sz os vx vy vw vl vr vo vh : Int32} {rs ru fi ac wd ot pt se : Nat → Int32} {R T w : Nat → Nat} {q : Nat}
    (hr : gx_r R T ru rs) (hR : ∀ c, c < 6 → R c ≤ 4) (hT : ∀ j, j < 24 → T j < 6) (hc : w q < 6) (ho : gw_off R w q + R (w q) ≤ 3000)
    (K : ∀ nx, (∀ j, j < gw_off R w (q + 1) → nx j = nI (gw_G R T w (q + 1) j)) → J (nI (gw_off R w (q + 1))) (nI (q + 1)) rs ru fi ac wd nx ot pt se) :
    ∀ d i nx, i + d = R (w q) → (∀ j, j < gw_off R w q + i → nx j = nI (gw_G R T w (q + 1) j)) →
      wY_grow_38 post J (nI (gw_off R w q)) (nI q) (nI (w q)) fz sz os vx vy vw vl vr vo vh (d + 1) (nI i) rs ru fi ac wd nx ot pt se := by
  intro d
  have hb := hr.1 _ hc
  have h4 := hR _ hc
  induction d with
  | zero =>
    intro i nx hi h2
    rw [wY_grow_38]
    dsimp only
    rw [nI_clamp (by omega), hb]
    refine ⟨vp_in_nI hc (by omega), br_t (nI_le (by omega) (by omega)) ⟨vp_in_nI hc (by omega), nm_r (nI_add _ _) (nm_r (nI_1 _) ?_)⟩⟩
    exact K nx (fun j hj => h2 j (by rw [gw_off_s] at hj; omega))
  | succ d ih =>
    intro i nx hi h2
    rw [wY_grow_38]
    dsimp only
    have e4 : 4 * nI (w q) + nI i = nI (4 * w q + i) := by
      rw [show (4 : Int32) = nI 4 from by decide, pk_mul, nI_add]
    have ha := hr.2 (4 * w q + i) (by omega)
    have ht := hT (4 * w q + i) (by omega)
    have e5 : nI (gw_off R w q) + nI i = nI (gw_off R w q + i) := nI_add _ _
    rw [nI_clamp (by omega), hb, e4, e5, nI_clamp (by omega), nI_clamp (by omega), ha, gw_i8 ht, gw_nar ht]
    refine ⟨vp_in_nI hc (by omega), br_f (nI_ge (by omega) (by omega)) ⟨vp_in_nI (by omega) (by omega), vp_in_nI (by omega) (by omega), nm_e (nm_r (nI_1 _) ?_)⟩⟩
    refine ih (i + 1) _ (by omega) (fun j hj => ?_)
    by_cases z : j = gw_off R w q + i
    · rw [z, pk_us, gw_G_hi]
    · rw [pk_un z]
      exact h2 j (by omega)
theorem gy_cp {post : Int32 → SY → Prop} {fz sz os vx vy vw vl vr vo vh : Int32} {rs ru fi ac nx ot pt se : Nat → Int32} {e : Nat} {v : Nat → Nat} (he : e ≤ 3000) (hn : ∀ j, j < e → nx j = nI (v j) ∧ v j < 6)
    (H : ∀ wd, (∀ j, j < e → wd j = nI (v j)) → post 1 (fz, sz, os, vx, vy, vw, vl, vr, vo, vh, rs, ru, fi, ac, wd, nx, ot, pt, se)) : ∀ d p wd, p + d = e → (∀ j, j < p → wd j = nI (v j)) → wY_grow_98 post (nI e) fz sz os vx vy vw vl vr vo vh (d + 1) (nI p) rs ru fi ac wd nx ot pt se := by
  intro d
  induction d with
  | zero =>
    intro p wd hp h
    rw [wY_grow_98]
    dsimp only
    exact br_t (nI_le (by omega) (by omega)) (H wd (fun j hj => h j (by omega)))
  | succ d ih =>
    intro p wd hp h
    rw [wY_grow_98]
    dsimp only
    have k := hn p (by omega)
    rw [nI_clamp (by omega), k.1, gw_nar k.2]
    refine br_f (nI_ge (by omega) (by omega)) ⟨vp_in_nI (by omega) (by omega), vp_in_nI (by omega) (by omega), nm_e (nm_r (nI_1 _) ?_)⟩
    refine ih (p + 1) _ (by omega) (fun j hj => ?_)
    by_cases z : j = p
    · rw [z, pk_us]
    · rw [pk_un z]
      exact h j (by omega)
theorem gy_out {post : Int32 → SY → Prop} {fz os vx vy vw vl vr vo vh : Int32} {rs ru fi ac wd ot pt se : Nat → Int32} {R T w : Nat → Nat} {s : Nat}
    (hr : gx_r R T ru rs) (hR : ∀ c, c < 6 → R c ≤ 4) (hT : ∀ j, j < 24 → T j < 6) (hs : s ≤ 3000) (hw : ∀ j, j < s → w j < 6 ∧ wd j = nI (w j))
    (H1 : gw_off R w s ≤ 3000 → ∀ wd nx, (∀ j, j < gw_off R w s → wd j = nI (gw_G R T w s j)) → post 1 (fz, nI (gw_off R w s), os, vx, vy, vw, vl, vr, vo, vh, rs, ru, fi, ac, wd, nx, ot, pt, se))
    (H2 : ¬ gw_off R w s ≤ 3000 → ∀ nx, post 0 (fz, nI s, os, vx, vy, vw, vl, vr, vo, vh, rs, ru, fi, ac, wd, nx, ot, pt, se)) :
    ∀ d p nx, p + d = s → gw_off R w p ≤ 3000 → (∀ j, j < gw_off R w p → nx j = nI (gw_G R T w p j)) →
      wY_grow_4 post fz (nI s) os vx vy vw vl vr vo vh (d + 1) (nI (gw_off R w p)) (nI p) rs ru fi ac wd nx ot pt se := by
  intro d
  induction d with
  | zero =>
    intro p nx hp ho h2
    rw [wY_grow_4]
    dsimp only
    have e : p = s := by omega
    subst e
    refine br_t (nI_le (by omega) (by omega)) ⟨gw_off R w p + 1, ?_⟩
    refine gy_cp ho (fun j hj => ⟨h2 j hj, ?_⟩) (fun wd' k => H1 ho wd' nx k) (gw_off R w p) 0 wd (by omega) (fun j hj => absurd hj (Nat.not_lt_zero j))
    exact gw_G_lt hR hT (fun j hj => (hw j hj).1) p (Nat.le_refl _) j hj
  | succ d ih =>
    intro p nx hp ho h2
    rw [wY_grow_4]
    dsimp only
    have k := hw p (by omega)
    have hc := k.1
    have h4 := hR _ hc
    rw [nI_clamp (by omega)]
    refine br_f (nI_ge (by omega) (by omega)) ⟨vp_in_nI (by omega) (by omega), nm_r k.2 ⟨vp_in_nI hc (by omega), ?_⟩⟩
    rw [nI_clamp (by omega), hr.1 _ hc, nI_add]
    by_cases z : gw_off R w p + R (w p) ≤ 3000
    · refine br_t (nI_le (b := 3000) z (by decide)) ⟨R (w p) + 1, ?_⟩
      refine gy_in hr hR hT hc z ?_ (R (w p)) 0 nx (by omega) (fun j hj => ?_)
      · intro nx' k2
        exact ih (p + 1) nx' (by omega) (by rw [gw_off_s]; exact z) k2
      · rw [gw_G_lo (by omega)]
        exact h2 j (by omega)
    · refine br_f (nI_ge (b := gw_off R w p + R (w p)) (a := 3000) (by omega) (by omega)) (H2 ?_ nx)
      have := gw_off_le (R := R) (w := w) (show p + 1 ≤ s by omega)
      rw [gw_off_s] at this
      omega
theorem gy_grow {post : Int32 → SY → Prop} {fz os vx vy vw vl vr vo vh : Int32} {rs ru fi ac wd nx ot pt se : Nat → Int32} {R T w : Nat → Nat} {s : Nat}
    (hr : gx_r R T ru rs) (hR : ∀ c, c < 6 → R c ≤ 4) (hT : ∀ j, j < 24 → T j < 6) (hs : s ≤ 3000) (hw : ∀ j, j < s → w j < 6 ∧ wd j = nI (w j))
    (H1 : gw_off R w s ≤ 3000 → ∀ wd nx, (∀ j, j < gw_off R w s → wd j = nI (gw_G R T w s j)) → post 1 (fz, nI (gw_off R w s), os, vx, vy, vw, vl, vr, vo, vh, rs, ru, fi, ac, wd, nx, ot, pt, se))
    (H2 : ¬ gw_off R w s ≤ 3000 → ∀ nx, post 0 (fz, nI s, os, vx, vy, vw, vl, vr, vo, vh, rs, ru, fi, ac, wd, nx, ot, pt, se)) : wpY_grow post (fz, nI s, os, vx, vy, vw, vl, vr, vo, vh, rs, ru, fi, ac, wd, nx, ot, pt, se) := by
  unfold wpY_grow
  dsimp only
  exact ⟨s + 1, gy_out hr hR hT hs hw H1 H2 s 0 nx (by omega) (Nat.zero_le _) (fun j hj => absurd hj (Nat.not_lt_zero j))⟩
theorem gy_w0 {post : Int32 → SY → Prop} {fz sz os vx vy vw vl vr vo vh : Int32} {rs ru fi ac wd nx ot pt se : Nat → Int32} {x1 x3 : Int32} {f : Nat} (h : post (-2) (fz, sz, os, vx, vy, vw, vl, vr, vo, vh, rs, ru, fi, ac, wd, nx, ot, pt, se)) : wY_write_53 post x1 (f + 1) 0 x3 fz sz os vx vy vw vl vr vo vh rs ru fi ac wd nx ot pt se := by
  rw [wY_write_53]
  dsimp only
  exact br_c (fun _ => br_t rfl h) (fun _ => br_t rfl (br_t rfl h))
theorem gy_w53 {post : Int32 → SY → Prop} {fz os vx vy vw vl vr vo vh : Int32} {rs ru fi ac ot pt se : Nat → Int32} {R T F : Nat → Nat} {fs n : Nat}
    (hP : gw_P R T F fs) (hr : gx_r R T ru rs) (hn : n < 13)
    (H1 : ∀ s w, gw_gen R T F fs n = some (s, w) → ∀ wd nx, (∀ j, j < s → wd j = nI (w j)) → post 0 (fz, nI s, os, vx, vy, vw, vl, vr, vo, vh, rs, ru, fi, ac, wd, nx, ot, pt, se))
    (H2 : gw_gen R T F fs n = none → ∀ sz wd nx, post (-2) (fz, sz, os, vx, vy, vw, vl, vr, vo, vh, rs, ru, fi, ac, wd, nx, ot, pt, se)) :
    ∀ d k s w wd nx, k + d = n → gw_gen R T F fs k = some (s, w) → (∀ j, j < s → wd j = nI (w j)) → wY_write_53 post (nI n) (d + 1) 1 (nI k) fz (nI s) os vx vy vw vl vr vo vh rs ru fi ac wd nx ot pt se := by
  intro d
  induction d with
  | zero =>
    intro k s w wd nx hk e h
    rw [wY_write_53]
    dsimp only
    have q : k = n := by omega
    subst q
    exact br_t (nI_le (by omega) (by omega)) (br_f (by decide) (H1 s w e wd nx h))
  | succ d ih =>
    intro k s w wd nx hk e h
    rw [wY_write_53]
    dsimp only
    have o := gw_gen_ok hP k s w e
    refine br_f (nI_ge (by omega) (by omega)) (br_f (by decide) ?_)
    refine gy_grow hr hP.1 hP.2.1 o.1 (fun j hj => ⟨o.2 j hj, h j hj⟩) ?_ ?_
    · intro c wd' nx' h'
      exact nm_r (nI_1 _) (ih (k + 1) _ _ wd' nx' (by omega) (gw_gen_yes e c) h')
    · intro c nx'
      exact nm_r (nI_1 _) (gy_w0 (H2 (gw_gen_nos (gw_gen_long e c) (by omega)) _ _ _))
def gy_R (R T F : Nat → Nat) (fs : Nat) (fz : Int32) (rs ru fi : Nat → Int32) : Prop := gx_r R T ru rs ∧ fz = nI fs ∧ ∀ j, j < fs → fi j = nI (F j)
theorem gy_w22 {post : Int32 → SY → Prop} {fz os vx vy vw vl vr vo vh : Int32} {rs ru fi ac nx ot pt se : Nat → Int32} {R T F : Nat → Nat} {fs n : Nat}
    (hP : gw_P R T F fs) (hY : gy_R R T F fs fz rs ru fi) (hn : n < 13)
    (H1 : ∀ s w, gw_gen R T F fs n = some (s, w) → ∀ wd nx, (∀ j, j < s → wd j = nI (w j)) → post 0 (fz, nI s, os, vx, vy, vw, vl, vr, vo, vh, rs, ru, fi, ac, wd, nx, ot, pt, se))
    (H2 : gw_gen R T F fs n = none → ∀ sz wd nx, post (-2) (fz, sz, os, vx, vy, vw, vl, vr, vo, vh, rs, ru, fi, ac, wd, nx, ot, pt, se)) :
    ∀ d p wd, p + d = fs → (∀ j, j < p → wd j = nI (F j)) → wY_write_22 post (nI n) fz (nI fs) os vx vy vw vl vr vo vh (d + 1) (nI p) rs ru fi ac wd nx ot pt se := by
  intro d
  have h8 := hP.2.2.2.2
  have hf := hY.2.1
  induction d with
  | zero =>
    intro p wd hp h
    rw [wY_write_22]
    dsimp only
    have q : p = fs := by omega
    subst q
    refine br_t (by rw [hf]; exact nI_le (by omega) (by omega)) ⟨n + 1, ?_⟩
    exact gy_w53 hP hY.1 hn H1 H2 n 0 p F wd nx (by omega) rfl h
  | succ d ih =>
    intro p wd hp h
    rw [wY_write_22]
    dsimp only
    have hF := hP.2.2.1 p (by omega)
    rw [nI_clamp (by omega), hY.2.2 p (by omega), gw_i8 hF, gw_nar hF]
    refine br_f (by rw [hf]; exact nI_ge (by omega) (by omega)) ⟨vp_in_nI (by omega) (by omega), vp_in_nI (by omega) (by omega), nm_e (nm_r (nI_1 _) ?_)⟩
    refine ih (p + 1) _ (by omega) (fun j hj => ?_)
    by_cases z : j = p
    · rw [z, pk_us]
    · rw [pk_un z]
      exact h j (by omega)
theorem gy_write {post : Int32 → SY → Prop} {fz sz os vx vy vw vl vr vo vh : Int32} {rs ru fi ac wd nx ot pt se : Nat → Int32} {R T F : Nat → Nat} {fs n : Nat}
    (hP : gw_P R T F fs) (hY : gy_R R T F fs fz rs ru fi) (hn : n < 13)
    (H1 : ∀ s w, gw_gen R T F fs n = some (s, w) → ∀ wd nx, (∀ j, j < s → wd j = nI (w j)) → post 0 (fz, nI s, os, vx, vy, vw, vl, vr, vo, vh, rs, ru, fi, ac, wd, nx, ot, pt, se))
    (H2 : gw_gen R T F fs n = none → ∀ sz wd nx, post (-2) (fz, sz, os, vx, vy, vw, vl, vr, vo, vh, rs, ru, fi, ac, wd, nx, ot, pt, se)) : wpY_write post (fz, sz, os, vx, vy, vw, vl, vr, vo, vh, rs, ru, fi, ac, wd, nx, ot, pt, se) (nI n) := by
  unfold wpY_write
  dsimp only
  refine br_f (nI_pos (by omega)) (br_t (nI_le (b := 12) (by omega) (by decide)) ⟨fs + 1, ?_⟩)
  have k := gy_w22 (os := os) (vx := vx) (vy := vy) (vw := vw) (vl := vl) (vr := vr) (vo := vo) (vh := vh) (ac := ac) (nx := nx) (ot := ot) (pt := pt) (se := se) hP hY hn H1 H2 fs 0 wd (by omega) (fun j hj => absurd hj (Nat.not_lt_zero j))
  have hf := hY.2.1
  subst hf
  exact k
def gy_No (R T F : Nat → Nat) (fs : Nat) (x r : Int32) : Prop := ((x < 0 ∨ nI 13 ≤ x) ∧ r = -1) ∨ (∃ n, n < 13 ∧ x = nI n ∧ gw_gen R T F fs n = none ∧ r = -2)
theorem gy_No_lt {R T F : Nat → Nat} {fs : Nat} {x r : Int32} (h : gy_No R T F fs x r) : ¬ 0 ≤ r := by
  rcases h with ⟨_, e⟩ | ⟨_, _, _, _, e⟩
  · rw [e]; decide
  · rw [e]; decide
theorem gy_wNo {post : Int32 → SY → Prop} {fz sz os vx vy vw vl vr vo vh : Int32} {rs ru fi ac wd nx ot pt se : Nat → Int32} {R T F : Nat → Nat} {fs : Nat} {x r : Int32} (hP : gw_P R T F fs) (hY : gy_R R T F fs fz rs ru fi) (h : gy_No R T F fs x r)
    (H : ∀ sz wd nx, post r (fz, sz, os, vx, vy, vw, vl, vr, vo, vh, rs, ru, fi, ac, wd, nx, ot, pt, se)) : wpY_write post (fz, sz, os, vx, vy, vw, vl, vr, vo, vh, rs, ru, fi, ac, wd, nx, ot, pt, se) x := by
  rcases h with ⟨hx, e⟩ | ⟨n, hn, ex, hg, e⟩
  · subst e
    unfold wpY_write
    dsimp only
    by_cases z : x < 0
    · exact br_t z (H _ _ _)
    · refine br_f z (br_f (fun k => ?_) (H _ _ _))
      exact absurd (Int32.le_trans (hx.resolve_left z) k) (by decide)
  · subst e ex
    refine gy_write hP hY hn (fun s w k => ?_) (fun _ => H)
    rw [hg] at k
    cases k
theorem gy_wOk {post : Int32 → SY → Prop} {fz sz os vx vy vw vl vr vo vh : Int32} {rs ru fi ac wd nx ot pt se : Nat → Int32} {R T F w : Nat → Nat} {fs n s : Nat} (hP : gw_P R T F fs) (hY : gy_R R T F fs fz rs ru fi) (hn : n < 13) (e : gw_gen R T F fs n = some (s, w))
    (H : ∀ wd nx, (∀ j, j < s → wd j = nI (w j)) → post 0 (fz, nI s, os, vx, vy, vw, vl, vr, vo, vh, rs, ru, fi, ac, wd, nx, ot, pt, se)) : wpY_write post (fz, sz, os, vx, vy, vw, vl, vr, vo, vh, rs, ru, fi, ac, wd, nx, ot, pt, se) (nI n) := by
  refine gy_write hP hY hn (fun s' w' k => ?_) (fun k => ?_)
  · rw [e] at k
    cases k
    exact H
  · rw [e] at k
    cases k
theorem gy_isL {post : Int32 → Prop} {fz sz os vx vy vw vl vr vo vh : Int32} {rs ru fi ac wd nx ot pt se : Nat → Int32} {c : Nat} (hc : c < 6) (h : post 1) : wpY_isLetter post (fz, sz, os, vx, vy, vw, vl, vr, vo, vh, rs, ru, fi, ac, wd, nx, ot, pt, se) (nI c) := by
  unfold wpY_isLetter
  dsimp only
  exact br_f (nI_pos (by omega)) (br_f (nI_nlt (a := 5) (by omega) (by omega)) h)
theorem gy_isN {post : Int32 → Prop} {fz sz os vx vy vw vl vr vo vh : Int32} {rs ru fi ac wd nx ot pt se : Nat → Int32} {x : Int32} (hx : x < 0 ∨ nI 6 ≤ x) (h : post 0) : wpY_isLetter post (fz, sz, os, vx, vy, vw, vl, vr, vo, vh, rs, ru, fi, ac, wd, nx, ot, pt, se) x := by
  unfold wpY_isLetter
  dsimp only
  by_cases z : x < 0
  · exact br_t z h
  · refine br_f z (br_t ?_ h)
    refine Int32.not_le.mp (fun k => ?_)
    exact absurd (Int32.le_trans (hx.resolve_left z) k) (by decide)
theorem gy_rd {post : Int32 → SY → Prop} {fz sz os vx vy vw vl vr vo vh : Int32} {rs ru fi ac wd nx ot se : Nat → Int32} {x most : Nat} (hx : x < 2 ^ 31) (hm : most ≤ 8) : ∀ d k pt, k + d = most → (∀ j, j < k → pt j = nI (gw_dg x j)) →
    (∀ pt, (∀ j, j < gw_len x d k → pt j = nI (gw_dg x j)) → wY_read_49 post (nI (gw_len x d k)) (nI (x / 7 ^ (gw_len x d k))) fz sz os vx vy vw vl vr vo vh rs ru fi ac wd nx ot pt se) → wY_read_5 post (nI most) fz sz os vx vy vw vl vr vo vh (d + 1) (nI k) (nI (x / 7 ^ k)) rs ru fi ac wd nx ot pt se := by
  intro d
  induction d with
  | zero =>
    intro k pt hk hp H
    rw [wY_read_5]
    dsimp only
    exact br_c (fun _ => H pt hp) (fun _ => br_t (nI_le (by omega) (by omega)) (H pt hp))
  | succ d ih =>
    intro k pt hk hp H
    rw [wY_read_5]
    dsimp only
    have hlt : x / 7 ^ k < 2 ^ 31 := Nat.lt_of_le_of_lt (Nat.div_le_self _ _) hx
    by_cases z : x / 7 ^ k % 7 = 0
    · rw [gw_len_z z] at H
      rw [gw_rem7 hx, z]
      exact br_c (fun _ => H pt hp) (fun _ => br_c (fun _ => H pt hp) (fun _ => ⟨by decide, br_t (by decide) (H pt hp)⟩))
    · rw [gw_len_n z] at H
      rw [gw_digit hx z, gw_rem7 hx, gw_quo7 hx, nI_clamp (by omega)]
      have hpos : 0 < x / 7 ^ k := Nat.pos_of_ne_zero (fun q => z (by rw [q]))
      refine br_f (nI_nle hpos hlt) (br_f (nI_ge (by omega) (by omega)) ⟨by decide, br_f (nI_nle (by omega) (by omega)) ⟨by decide, vp_in_nI (by omega) (by omega), nm_e ⟨by decide, nm_e (nm_r (nI_1 _) ?_)⟩⟩⟩)
      refine ih (k + 1) _ (by omega) (fun j hj => ?_) H
      by_cases y : j = k
      · rw [y, pk_us]
      · rw [pk_un y]
        exact hp j (by omega)
theorem gy_rd_good {post : Int32 → SY → Prop} {fz sz os vx vy vw vl vr vo vh : Int32} {rs ru fi ac wd nx ot pt se : Nat → Int32} {most x l : Nat} {y : Int32} (G : gw_Good most y x l) (hm : most ≤ 8) (h : ∀ pt, (∀ j, j < l → pt j = nI (gw_dg x j)) → post (nI l) (fz, sz, os, vx, vy, vw, vl, vr, vo, vh, rs, ru, fi, ac, wd, nx, ot, pt, se)) : wpY_read post (fz, sz, os, vx, vy, vw, vl, vr, vo, vh, rs, ru, fi, ac, wd, nx, ot, pt, se) y (nI most) := by
  obtain ⟨hx, e, el, h0⟩ := G
  unfold wpY_read
  dsimp only
  refine ⟨most + 1, ?_⟩
  rw [e, show nI x = nI (x / 7 ^ 0) by rw [Nat.pow_zero, Nat.div_one]]
  refine gy_rd hx hm most 0 pt (by omega) (fun j hj => absurd hj (Nat.not_lt_zero j)) ?_
  rw [← el, h0]
  intro pt' k
  exact br_t rfl (h pt' k)
theorem gy_rd_bad {post : Int32 → SY → Prop} {fz sz os vx vy vw vl vr vo vh : Int32} {rs ru fi ac wd nx ot pt se : Nat → Int32} {most : Nat} {y : Int32} (G : gw_Bad most y) (hm : most ≤ 8) (h : ∀ pt, post (-1) (fz, sz, os, vx, vy, vw, vl, vr, vo, vh, rs, ru, fi, ac, wd, nx, ot, pt, se)) : wpY_read post (fz, sz, os, vx, vy, vw, vl, vr, vo, vh, rs, ru, fi, ac, wd, nx, ot, pt, se) y (nI most) := by
  unfold wpY_read
  dsimp only
  rcases G with hy | ⟨x, hx, e, h0⟩
  · refine ⟨1, ?_⟩
    rw [wY_read_5]
    dsimp only
    refine br_t (Int32.le_of_lt hy) (br_f (fun z => ?_) (h pt))
    rw [z] at hy
    exact absurd hy (by decide)
  · refine ⟨most + 1, ?_⟩
    rw [e, show nI x = nI (x / 7 ^ 0) by rw [Nat.pow_zero, Nat.div_one]]
    refine gy_rd hx hm most 0 pt (by omega) (fun j hj => absurd hj (Nat.not_lt_zero j)) ?_
    intro pt' k
    exact br_f (nI_ne0 (Nat.pos_of_ne_zero h0) (Nat.lt_of_le_of_lt (Nat.div_le_self _ _) hx)) (h pt')
