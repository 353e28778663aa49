def gw_I (i : Nat) (la lb : Nat → Int32) : Prop := (∀ c, c < 6 → lb c = if c < i then 1 else 0) ∧ (∀ j, j < 24 → la j = if j % 4 = 0 ∧ j / 4 < i then nI (j / 4) else 0)
def gw_T0 (j : Nat) : Nat := if j % 4 = 0 then j / 4 else 0
theorem gw_I0 : gw_I 0 (fun _ => 0) (fun _ => 0) := ⟨fun c _ => (if_neg (by omega)).symm, fun j _ => (if_neg (by omega)).symm⟩
theorem gw_I_s {i : Nat} {la lb : Nat → Int32} (h : gw_I i la lb) : gw_I (i + 1) (upd la (4 * i) (nI i)) (upd lb i 1) := by
  refine ⟨fun c hc => ?_, fun j hj => ?_⟩
  · by_cases z : c = i
    · rw [z, pk_us, if_pos (by omega)]
    · rw [pk_un z, h.1 c hc]
      by_cases y : c < i
      · rw [if_pos y, if_pos (by omega)]
      · rw [if_neg y, if_neg (by omega)]
  · by_cases z : j = 4 * i
    · rw [z, pk_us, if_pos (by omega), Nat.mul_div_cancel_left i (by decide)]
    · rw [pk_un z, h.2 j hj]
      by_cases y : j % 4 = 0 ∧ j / 4 < i
      · rw [if_pos y, if_pos (by omega)]
      · rw [if_neg y, if_neg (by omega)]
theorem gw_I6 {la lb : Nat → Int32} (h : gw_I 6 la lb) : gx_r (fun _ => 1) gw_T0 la lb := by
  refine ⟨fun c hc => ?_, fun j hj => ?_⟩
  · rw [h.1 c hc, if_pos hc]
    rfl
  · rw [h.2 j hj]
    unfold gw_T0
    by_cases z : j % 4 = 0
    · rw [if_pos z, if_pos (by omega)]
    · rw [if_neg z, if_neg (fun k => z k.1)]
      rfl
theorem gw_P0 : gw_P (fun _ => 1) gw_T0 (fun _ => 0) 1 := by
  refine ⟨fun c _ => (by decide : 1 ≤ 4), fun j hj => ?_, fun j _ => (by decide : 0 < 6), by decide, by decide⟩
  unfold gw_T0
  split <;> omega
theorem gx_i46 {post : SX → Prop} {ac g L : Nat → Int32} (hL : L = fun _ => 0) (hg : g = fun _ => 0)
    (H : ∀ la lb g L, gx_r (fun _ => 1) gw_T0 la lb → (∀ n, n < 13 → gx_g (fun _ => 1) gw_T0 (fun _ => 0) 1 n (L n) g) → post (la, lb, ac, g, L, 39000)) : ∀ d i la lb, i + d = 6 → gw_I i la lb → wX_init_46 post 39000 (d + 1) (nI i) la lb ac g L := by
  intro d
  induction d with
  | zero =>
    intro i la lb hi h
    rw [wX_init_46]
    dsimp only
    have e : i = 6 := by omega
    subst e
    refine br_t (nI_le (a := 6) (by omega) (by omega)) (nm_e ?_)
    have r := gw_I6 h
    refine gx_growAll gw_P0 r (pk_us) (fun j hj => ?_) (fun g' L' k => H la lb g' L' r k)
    rw [hg]
    rfl
  | succ d ih =>
    intro i la lb hi h
    rw [wX_init_46]
    dsimp only
    have e4 : nI i * 4 = nI (4 * i) := by
      rw [show (4 : Int32) = nI 4 from by decide, pk_mul, Nat.mul_comm]
    rw [e4, nI_clamp (by omega), nI_clamp (by omega), gw_i8 (by omega), gw_nar (by omega)]
    exact br_f (nI_ge (b := 6) (by omega) (by decide)) ⟨vp_in_nI (by omega) (by omega), nm_e ⟨vp_in_nI (by omega) (by omega), nm_e (nm_r (nI_1 _) (ih (i + 1) _ _ (by omega) (gw_I_s h)))⟩⟩
theorem gy_i82 {post : SY → Prop} {fz sz os vx vy vw vl vr vo vh : Int32} {fi ac wd nx ot pt se : Nat → Int32} (hfi : fi = fun _ => 0)
    (H : ∀ rs ru, gy_R (fun _ => 1) gw_T0 (fun _ => 0) 1 1 rs ru fi → post (1, sz, os, vx, vy, vw, vl, vr, vo, vh, rs, ru, fi, ac, wd, nx, ot, pt, se)) : ∀ d i ru rs, i + d = 6 → gw_I i ru rs → wY_init_82 post fz sz os vx vy vw vl vr vo vh (d + 1) (nI i) rs ru fi ac wd nx ot pt se := by
  intro d
  induction d with
  | zero =>
    intro i ru rs hi h
    rw [wY_init_82]
    dsimp only
    have e : i = 6 := by omega
    subst e
    refine br_t (nI_le (a := 6) (by omega) (by omega)) (H rs ru ⟨gw_I6 h, rfl, fun j _ => ?_⟩)
    rw [hfi]
    rfl
  | succ d ih =>
    intro i ru rs hi h
    rw [wY_init_82]
    dsimp only
    have e4 : 4 * nI i = nI (4 * i) := by
      rw [show (4 : Int32) = nI 4 from by decide, pk_mul]
    rw [e4, nI_clamp (by omega), nI_clamp (by omega)]
    exact br_f (nI_ge (b := 6) (by omega) (by decide)) ⟨vp_in_nI (by omega) (by omega), nm_e ⟨vp_in_nI (by omega) (by omega), nm_e (nm_r (nI_1 _) (ih (i + 1) _ _ (by omega) (gw_I_s h)))⟩⟩
theorem gy_ru {post : Int32 → SY → Prop} {fz sz os vx vy vw vl vr vo vh : Int32} {rs fi ac wd nx ot pt se ru0 : Nat → Int32} {x c l : Nat} (hc : c < 6) (hl : l ≤ 4) (hp : ∀ j, j < l → pt j = nI (gw_dg x j))
    (H : ∀ ru, (∀ j, ru j = gx_put ru0 (c * 4) l x j) → post (nI l) (fz, sz, os, vx, vy, vw, vl, vr, vo, vh, rs, ru, fi, ac, wd, nx, ot, pt, se)) : ∀ d i ru, i + d = l → (∀ j, ru j = gx_put ru0 (c * 4) i x j) → wY_rule_34 post (nI c) (nI l) fz sz os vx vy vw vl vr vo vh (d + 1) (nI i) rs ru fi ac wd nx ot pt se := by
  intro d
  induction d with
  | zero =>
    intro i ru hi h
    rw [wY_rule_34]
    dsimp only
    have e : i = l := by omega
    subst e
    exact br_t (nI_le (by omega) (by omega)) (H ru h)
  | succ d ih =>
    intro i ru hi h
    rw [wY_rule_34]
    dsimp only
    have e4 : 4 * nI c + nI i = nI (c * 4 + i) := by
      rw [show (4 : Int32) = nI 4 from by decide, pk_mul, nI_add, Nat.mul_comm]
    rw [e4, nI_clamp (by omega), nI_clamp (by omega), hp i (by omega)]
    refine br_f (nI_ge (by omega) (by omega)) ⟨vp_in_nI (by omega) (by omega), vp_in_nI (by omega) (by omega), nm_e (nm_r (nI_1 _) ?_)⟩
    exact ih (i + 1) _ (by omega) (fun j => gx_put_s (h j))
theorem gy_be {post : Int32 → SY → Prop} {fz sz os vx vy vw vl vr vo vh : Int32} {rs ru ac wd nx ot pt se : Nat → Int32} {x l : Nat} (hl : l ≤ 8) (hp : ∀ j, j < l → pt j = nI (gw_dg x j))
    (H : ∀ fi, (∀ j, j < l → fi j = nI (gw_dg x j)) → post (nI l) (fz, sz, os, vx, vy, vw, vl, vr, vo, vh, rs, ru, fi, ac, wd, nx, ot, pt, se)) : ∀ d i fi, i + d = l → (∀ j, j < i → fi j = nI (gw_dg x j)) → wY_begin_22 post (nI l) fz sz os vx vy vw vl vr vo vh (d + 1) (nI i) rs ru fi ac wd nx ot pt se := by
  intro d
  induction d with
  | zero =>
    intro i fi hi h
    rw [wY_begin_22]
    dsimp only
    have e : i = l := by omega
    subst e
    exact br_t (nI_le (by omega) (by omega)) (H fi h)
  | succ d ih =>
    intro i fi hi h
    rw [wY_begin_22]
    dsimp only
    rw [nI_clamp (by omega), hp i (by omega)]
    refine br_f (nI_ge (by omega) (by omega)) ⟨vp_in_nI (by omega) (by omega), vp_in_nI (by omega) (by omega), nm_e (nm_r (nI_1 _) ?_)⟩
    refine ih (i + 1) _ (by omega) (fun j hj => ?_)
    by_cases z : j = i
    · rw [z, pk_us]
    · rw [pk_un z]
      exact h j (by omega)
def gw_R1 (R : Nat → Nat) (c l : Nat) (d : Nat) : Nat := if d = c then l else R d
def gw_T1 (T : Nat → Nat) (b l x : Nat) (j : Nat) : Nat := if b ≤ j ∧ j < b + l then gw_dg x (j - b) else T j
theorem gw_P1 {R T F : Nat → Nat} {fs c l x : Nat} (h : gw_P R T F fs) (hl : l ≤ 4) : gw_P (gw_R1 R c l) (gw_T1 T (c * 4) l x) F fs := by
  refine ⟨fun d hd => ?_, fun j hj => ?_, h.2.2⟩
  · unfold gw_R1
    have := h.1 d hd
    split <;> omega
  · unfold gw_T1
    have := h.2.1 j hj
    have k := gw_dg_lt x (j - c * 4)
    split <;> omega
theorem gx_r1 {R T : Nat → Nat} {la lb la' : Nat → Int32} {c l x : Nat} (h : gx_r R T la lb) (k : ∀ j, la' j = gx_put la (c * 4) l x j) : gx_r (gw_R1 R c l) (gw_T1 T (c * 4) l x) la' (upd lb c (nI l)) := by
  refine ⟨fun d hd => ?_, fun j hj => ?_⟩
  · unfold gw_R1
    by_cases z : d = c
    · rw [z, pk_us, if_pos rfl]
    · rw [pk_un z, if_neg z, h.1 d hd]
  · rw [k j]
    unfold gx_put gw_T1
    by_cases z : c * 4 ≤ j ∧ j < c * 4 + l
    · rw [if_pos z, if_pos z]
    · rw [if_neg z, if_neg z, h.2 j hj]
def gx_R (R T F : Nat → Nat) (fs : Nat) (la lb g L : Nat → Int32) : Prop := gx_r R T la lb ∧ ∀ n, n < 13 → gx_g R T F fs n (L n) g
theorem gx_R0 {R T F : Nat → Nat} {fs : Nat} {la lb g L : Nat → Int32} (h : gx_R R T F fs la lb g L) : L 0 = nI fs ∧ ∀ j, j < fs → g j = nI (F j) := by
  have k := (h.2 0 (by decide)).2 fs F rfl
  refine ⟨k.1, fun j hj => ?_⟩
  have := k.2 j hj
  rw [Nat.zero_mul, Nat.zero_add] at this
  exact this
theorem gx_rule {post : Int32 → SX → Prop} {la lb ac g L : Nat → Int32} {R T F : Nat → Nat} {fs c x l : Nat} {y : Int32} (hP : gw_P R T F fs) (hX : gx_R R T F fs la lb g L) (hc : c < 6) (G : gw_Good 4 y x l)
    (H : ∀ la lb g L, gx_R (gw_R1 R c l) (gw_T1 T (c * 4) l x) F fs la lb g L → post (nI l) (la, lb, ac, g, L, 39000)) : wpX_rule post (la, lb, ac, g, L, 39000) (nI c) y := by
  unfold wpX_rule
  dsimp only
  have hl := gw_Good_le G
  refine gx_isL hc (br_f (by decide) (gx_wl_good G (by decide) (br_f (gw_m1 (by omega)) (gx_writeA G hc (fun la' k => ?_)))))
  dsimp only
  rw [nI_clamp (by omega)]
  refine ⟨vp_in_nI hc (by omega), nm_e ?_⟩
  have r1 := gx_r1 hX.1 k
  have h0 := gx_R0 hX
  exact gx_growAll (gw_P1 hP hl) r1 h0.1 h0.2 (fun g' L' q => H _ _ _ _ ⟨r1, q⟩)
theorem gx_rule1 {post : Int32 → SX → Prop} {la lb ac g L : Nat → Int32} {x y : Int32} (hx : x < 0 ∨ nI 6 ≤ x) (h : post (-1) (la, lb, ac, g, L, 39000)) : wpX_rule post (la, lb, ac, g, L, 39000) x y := by
  unfold wpX_rule
  dsimp only
  exact gx_isN hx (br_t rfl h)
theorem gx_rule2 {post : Int32 → SX → Prop} {la lb ac g L : Nat → Int32} {c : Nat} {y : Int32} (hc : c < 6) (G : gw_Bad 4 y) (h : post (-2) (la, lb, ac, g, L, 39000)) : wpX_rule post (la, lb, ac, g, L, 39000) (nI c) y := by
  unfold wpX_rule
  dsimp only
  exact gx_isL hc (br_f (by decide) (gx_wl_bad G (by decide) (by decide) (br_t rfl h)))
theorem gy_rule {post : Int32 → SY → Prop} {fz sz os vx vy vw vl vr vo vh : Int32} {rs ru fi ac wd nx ot pt se : Nat → Int32} {R T F : Nat → Nat} {fs c x l : Nat} {y : Int32} (hY : gy_R R T F fs fz rs ru fi) (hc : c < 6) (G : gw_Good 4 y x l)
    (H : ∀ rs ru pt, gy_R (gw_R1 R c l) (gw_T1 T (c * 4) l x) F fs fz rs ru fi → post (nI l) (fz, sz, os, vx, vy, vw, vl, vr, vo, vh, rs, ru, fi, ac, wd, nx, ot, pt, se)) : wpY_rule post (fz, sz, os, vx, vy, vw, vl, vr, vo, vh, rs, ru, fi, ac, wd, nx, ot, pt, se) (nI c) y := by
  unfold wpY_rule
  dsimp only
  have hl := gw_Good_le G
  refine gy_isL hc (br_f (by decide) (gy_rd_good G (by decide) (fun pt hp => ?_)))
  dsimp only
  rw [nI_clamp (by omega)]
  refine br_t (nI_pos' (by omega)) ⟨vp_in_nI hc (by omega), nm_e ⟨l + 1, ?_⟩⟩
  exact gy_ru hc hl hp (fun ru' k => H _ _ _ ⟨gx_r1 hY.1 k, hY.2⟩) l 0 ru (by omega) (fun j => (gx_put0 _ _ _ _).symm)
theorem gy_rule1 {post : Int32 → SY → Prop} {fz sz os vx vy vw vl vr vo vh : Int32} {rs ru fi ac wd nx ot pt se : Nat → Int32} {x y : Int32} (hx : x < 0 ∨ nI 6 ≤ x) (h : post (-1) (fz, sz, os, vx, vy, vw, vl, vr, vo, vh, rs, ru, fi, ac, wd, nx, ot, pt, se)) : wpY_rule post (fz, sz, os, vx, vy, vw, vl, vr, vo, vh, rs, ru, fi, ac, wd, nx, ot, pt, se) x y := by
  unfold wpY_rule
  dsimp only
  exact gy_isN hx (br_t rfl h)
theorem gy_rule2 {post : Int32 → SY → Prop} {fz sz os vx vy vw vl vr vo vh : Int32} {rs ru fi ac wd nx ot pt se : Nat → Int32} {c : Nat} {y : Int32} (hc : c < 6) (G : gw_Bad 4 y) (h : ∀ pt, post (-2) (fz, sz, os, vx, vy, vw, vl, vr, vo, vh, rs, ru, fi, ac, wd, nx, ot, pt, se)) : wpY_rule post (fz, sz, os, vx, vy, vw, vl, vr, vo, vh, rs, ru, fi, ac, wd, nx, ot, pt, se) (nI c) y := by
  unfold wpY_rule
  dsimp only
  exact gy_isL hc (br_f (by decide) (gy_rd_bad G (by decide) (fun pt => br_f (by decide) (h pt))))
theorem gw_P2 {R T F : Nat → Nat} {fs l x : Nat} (h : gw_P R T F fs) (h1 : 1 ≤ l) (hl : l ≤ 8) : gw_P R T (gw_dg x) l := ⟨h.1, h.2.1, fun j _ => gw_dg_lt x j, h1, hl⟩
theorem gx_begin {post : Int32 → SX → Prop} {la lb ac g L : Nat → Int32} {R T F : Nat → Nat} {fs x l : Nat} {y : Int32} (hP : gw_P R T F fs) (hX : gx_R R T F fs la lb g L) (G : gw_Good 8 y x l) (h1 : 1 ≤ l)
    (H : ∀ la lb g L, gx_R R T (gw_dg x) l la lb g L → post (nI l) (la, lb, ac, g, L, 39000)) : wpX_begin post (la, lb, ac, g, L, 39000) y := by
  unfold wpX_begin
  dsimp only
  have hl := gw_Good_le G
  refine gx_wl_good G (by decide) (br_t (nI_le (a := 1) h1 (by omega)) (gx_writeB G (fun g' k => nm_e ?_)))
  refine gx_growAll (gw_P2 hP h1 hl) hX.1 pk_us (fun j hj => ?_) (fun g' L' q => H _ _ _ _ ⟨hX.1, q⟩)
  dsimp only
  rw [k j]
  unfold gx_put
  rw [if_pos (by omega), Nat.sub_zero]
theorem gx_beginN {post : Int32 → SX → Prop} {la lb ac g L : Nat → Int32} {y : Int32} (G : gw_Bad 8 y ∨ ∃ x, gw_Good 8 y x 0) (h : post (-1) (la, lb, ac, g, L, 39000)) : wpX_begin post (la, lb, ac, g, L, 39000) y := by
  unfold wpX_begin
  dsimp only
  rcases G with G | ⟨x, G⟩
  · exact gx_wl_bad G (by decide) (by decide) (br_f (by decide) h)
  · exact gx_wl_good G (by decide) (br_f (gw_no1 (by decide)) h)
theorem gy_begin {post : Int32 → SY → Prop} {fz sz os vx vy vw vl vr vo vh : Int32} {rs ru fi ac wd nx ot pt se : Nat → Int32} {R T F : Nat → Nat} {fs x l : Nat} {y : Int32} (hY : gy_R R T F fs fz rs ru fi) (G : gw_Good 8 y x l) (h1 : 1 ≤ l)
    (H : ∀ fz fi pt, gy_R R T (gw_dg x) l fz rs ru fi → post (nI l) (fz, sz, os, vx, vy, vw, vl, vr, vo, vh, rs, ru, fi, ac, wd, nx, ot, pt, se)) : wpY_begin post (fz, sz, os, vx, vy, vw, vl, vr, vo, vh, rs, ru, fi, ac, wd, nx, ot, pt, se) y := by
  unfold wpY_begin
  dsimp only
  have hl := gw_Good_le G
  refine gy_rd_good G (by decide) (fun pt hp => br_t (nI_le (a := 1) h1 (by omega)) ⟨l + 1, ?_⟩)
  exact gy_be hl hp (fun fi' k => H _ _ _ ⟨hY.1, rfl, k⟩) l 0 fi (by omega) (fun j hj => absurd hj (Nat.not_lt_zero j))
theorem gy_beginN {post : Int32 → SY → Prop} {fz sz os vx vy vw vl vr vo vh : Int32} {rs ru fi ac wd nx ot pt se : Nat → Int32} {y : Int32} (G : gw_Bad 8 y ∨ ∃ x, gw_Good 8 y x 0) (h : ∀ pt, post (-1) (fz, sz, os, vx, vy, vw, vl, vr, vo, vh, rs, ru, fi, ac, wd, nx, ot, pt, se)) : wpY_begin post (fz, sz, os, vx, vy, vw, vl, vr, vo, vh, rs, ru, fi, ac, wd, nx, ot, pt, se) y := by
  unfold wpY_begin
  dsimp only
  rcases G with G | ⟨x, G⟩
  · exact gy_rd_bad G (by decide) (fun pt => br_f (by decide) (h pt))
  · exact gy_rd_good G (by decide) (fun pt _ => br_f (gw_no1 (by decide)) (h pt))
