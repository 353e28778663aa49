theorem gx_length_no {post : Int32 → Prop} {la lb ac g L : Nat → Int32} {x r : Int32} (h : gx_No L x r) (hp : post r) : wpX_length post (la, lb, ac, g, L, 39000) x := by
  unfold wpX_length
  dsimp only
  exact gx_ref h (br_f (gx_No_ne h) hp)
theorem gy_length_no {post : Int32 → SY → Prop} {fz sz os vx vy vw vl vr vo vh : Int32} {rs ru fi ac wd nx ot pt se : Nat → Int32} {R T F : Nat → Nat} {fs : Nat} {x r : Int32} (hP : gw_P R T F fs) (hY : gy_R R T F fs fz rs ru fi) (h : gy_No R T F fs x r) (H : ∀ sz wd nx, post r (fz, sz, os, vx, vy, vw, vl, vr, vo, vh, rs, ru, fi, ac, wd, nx, ot, pt, se)) : wpY_length post (fz, sz, os, vx, vy, vw, vl, vr, vo, vh, rs, ru, fi, ac, wd, nx, ot, pt, se) x := by
  unfold wpY_length
  dsimp only
  exact gy_wNo hP hY h (fun sz wd nx => br_f (gy_No_lt h) (H sz wd nx))
theorem gx_letterAt_no {post : Int32 → Prop} {la lb ac g L : Nat → Int32} {x r y1 : Int32} (h : gx_No L x r) (hp : post r) : wpX_letterAt post (la, lb, ac, g, L, 39000) x y1 := by
  unfold wpX_letterAt
  dsimp only
  exact gx_ref h (br_f (gx_No_ne h) hp)
theorem gy_letterAt_no {post : Int32 → SY → Prop} {fz sz os vx vy vw vl vr vo vh : Int32} {rs ru fi ac wd nx ot pt se : Nat → Int32} {R T F : Nat → Nat} {fs : Nat} {x r y1 : Int32} (hP : gw_P R T F fs) (hY : gy_R R T F fs fz rs ru fi) (h : gy_No R T F fs x r) (H : ∀ sz wd nx, post r (fz, sz, os, vx, vy, vw, vl, vr, vo, vh, rs, ru, fi, ac, wd, nx, ot, pt, se)) : wpY_letterAt post (fz, sz, os, vx, vy, vw, vl, vr, vo, vh, rs, ru, fi, ac, wd, nx, ot, pt, se) x y1 := by
  unfold wpY_letterAt
  dsimp only
  exact gy_wNo hP hY h (fun sz wd nx => br_f (gy_No_lt h) (H sz wd nx))
theorem gx_count_no {post : Int32 → Prop} {la lb ac g L : Nat → Int32} {x r y1 y2 y3 : Int32} (h : gx_No L x r) (hp : post r) : wpX_count post (la, lb, ac, g, L, 39000) x y1 y2 y3 := by
  unfold wpX_count
  dsimp only
  exact gx_ref h (br_f (gx_No_ne h) hp)
theorem gy_count_no {post : Int32 → SY → Prop} {fz sz os vx vy vw vl vr vo vh : Int32} {rs ru fi ac wd nx ot pt se : Nat → Int32} {R T F : Nat → Nat} {fs : Nat} {x r y1 y2 y3 : Int32} (hP : gw_P R T F fs) (hY : gy_R R T F fs fz rs ru fi) (h : gy_No R T F fs x r) (H : ∀ sz wd nx, post r (fz, sz, os, vx, vy, vw, vl, vr, vo, vh, rs, ru, fi, ac, wd, nx, ot, pt, se)) : wpY_count post (fz, sz, os, vx, vy, vw, vl, vr, vo, vh, rs, ru, fi, ac, wd, nx, ot, pt, se) x y1 y2 y3 := by
  unfold wpY_count
  dsimp only
  exact gy_wNo hP hY h (fun sz wd nx => br_f (gy_No_lt h) (H sz wd nx))
theorem gx_find_no {post : Int32 → Prop} {la lb ac g L : Nat → Int32} {x r y1 y2 : Int32} (h : gx_No L x r) (hp : post r) : wpX_find post (la, lb, ac, g, L, 39000) x y1 y2 := by
  unfold wpX_find
  dsimp only
  exact gx_ref h (br_f (gx_No_ne h) hp)
theorem gy_find_no {post : Int32 → SY → Prop} {fz sz os vx vy vw vl vr vo vh : Int32} {rs ru fi ac wd nx ot pt se : Nat → Int32} {R T F : Nat → Nat} {fs : Nat} {x r y1 y2 : Int32} (hP : gw_P R T F fs) (hY : gy_R R T F fs fz rs ru fi) (h : gy_No R T F fs x r) (H : ∀ sz wd nx, post r (fz, sz, os, vx, vy, vw, vl, vr, vo, vh, rs, ru, fi, ac, wd, nx, ot, pt, se)) : wpY_find post (fz, sz, os, vx, vy, vw, vl, vr, vo, vh, rs, ru, fi, ac, wd, nx, ot, pt, se) x y1 y2 := by
  unfold wpY_find
  dsimp only
  exact gy_wNo hP hY h (fun sz wd nx => br_f (gy_No_lt h) (H sz wd nx))
theorem gx_occurrences_no {post : Int32 → Prop} {la lb ac g L : Nat → Int32} {x r y1 : Int32} (h : gx_No L x r) (hp : post r) : wpX_occurrences post (la, lb, ac, g, L, 39000) x y1 := by
  unfold wpX_occurrences
  dsimp only
  exact gx_ref h (br_f (gx_No_ne h) hp)
theorem gy_occurrences_no {post : Int32 → SY → Prop} {fz sz os vx vy vw vl vr vo vh : Int32} {rs ru fi ac wd nx ot pt se : Nat → Int32} {R T F : Nat → Nat} {fs : Nat} {x r y1 : Int32} (hP : gw_P R T F fs) (hY : gy_R R T F fs fz rs ru fi) (h : gy_No R T F fs x r) (H : ∀ sz wd nx, post r (fz, sz, os, vx, vy, vw, vl, vr, vo, vh, rs, ru, fi, ac, wd, nx, ot, pt, se)) : wpY_occurrences post (fz, sz, os, vx, vy, vw, vl, vr, vo, vh, rs, ru, fi, ac, wd, nx, ot, pt, se) x y1 := by
  unfold wpY_occurrences
  dsimp only
  exact gy_wNo hP hY h (fun sz wd nx => br_f (gy_No_lt h) (H sz wd nx))
theorem gx_run_no {post : Int32 → Prop} {la lb ac g L : Nat → Int32} {x r : Int32} (h : gx_No L x r) (hp : post r) : wpX_run post (la, lb, ac, g, L, 39000) x := by
  unfold wpX_run
  dsimp only
  exact gx_ref h (br_f (gx_No_ne h) hp)
theorem gy_run_no {post : Int32 → SY → Prop} {fz sz os vx vy vw vl vr vo vh : Int32} {rs ru fi ac wd nx ot pt se : Nat → Int32} {R T F : Nat → Nat} {fs : Nat} {x r : Int32} (hP : gw_P R T F fs) (hY : gy_R R T F fs fz rs ru fi) (h : gy_No R T F fs x r) (H : ∀ sz wd nx, post r (fz, sz, os, vx, vy, vw, vl, vr, vo, vh, rs, ru, fi, ac, wd, nx, ot, pt, se)) : wpY_run post (fz, sz, os, vx, vy, vw, vl, vr, vo, vh, rs, ru, fi, ac, wd, nx, ot, pt, se) x := by
  unfold wpY_run
  dsimp only
  exact gy_wNo hP hY h (fun sz wd nx => br_f (gy_No_lt h) (H sz wd nx))
theorem gx_mirrored_no {post : Int32 → Prop} {la lb ac g L : Nat → Int32} {x r : Int32} (h : gx_No L x r) (hp : post r) : wpX_mirrored post (la, lb, ac, g, L, 39000) x := by
  unfold wpX_mirrored
  dsimp only
  exact gx_ref h (br_f (gx_No_ne h) hp)
theorem gy_mirrored_no {post : Int32 → SY → Prop} {fz sz os vx vy vw vl vr vo vh : Int32} {rs ru fi ac wd nx ot pt se : Nat → Int32} {R T F : Nat → Nat} {fs : Nat} {x r : Int32} (hP : gw_P R T F fs) (hY : gy_R R T F fs fz rs ru fi) (h : gy_No R T F fs x r) (H : ∀ sz wd nx, post r (fz, sz, os, vx, vy, vw, vl, vr, vo, vh, rs, ru, fi, ac, wd, nx, ot, pt, se)) : wpY_mirrored post (fz, sz, os, vx, vy, vw, vl, vr, vo, vh, rs, ru, fi, ac, wd, nx, ot, pt, se) x := by
  unfold wpY_mirrored
  dsimp only
  exact gy_wNo hP hY h (fun sz wd nx => br_f (gy_No_lt h) (H sz wd nx))
theorem gx_kinds_no {post : Int32 → Prop} {la lb ac g L : Nat → Int32} {x r y1 : Int32} (h : gx_No L x r) (hp : post r) : wpX_kinds post (la, lb, ac, g, L, 39000) x y1 := by
  unfold wpX_kinds
  dsimp only
  exact gx_ref h (br_f (gx_No_ne h) hp)
theorem gy_kinds_no {post : Int32 → SY → Prop} {fz sz os vx vy vw vl vr vo vh : Int32} {rs ru fi ac wd nx ot pt se : Nat → Int32} {R T F : Nat → Nat} {fs : Nat} {x r y1 : Int32} (hP : gw_P R T F fs) (hY : gy_R R T F fs fz rs ru fi) (h : gy_No R T F fs x r) (H : ∀ sz wd nx, post r (fz, sz, os, vx, vy, vw, vl, vr, vo, vh, rs, ru, fi, ac, wd, nx, ot, pt, se)) : wpY_kinds post (fz, sz, os, vx, vy, vw, vl, vr, vo, vh, rs, ru, fi, ac, wd, nx, ot, pt, se) x y1 := by
  unfold wpY_kinds
  dsimp only
  exact gy_wNo hP hY h (fun sz wd nx => br_f (gy_No_lt h) (H sz wd nx))
theorem gx_point_no {post : Int32 → Prop} {la lb ac g L : Nat → Int32} {x r y1 : Int32} (h : gx_No L x r) (hp : post r) : wpX_point post (la, lb, ac, g, L, 39000) x y1 := by
  unfold wpX_point
  dsimp only
  exact gx_ref h (br_f (gx_No_ne h) hp)
theorem gy_point_no {post : Int32 → SY → Prop} {fz sz os vx vy vw vl vr vo vh : Int32} {rs ru fi ac wd nx ot pt se : Nat → Int32} {R T F : Nat → Nat} {fs : Nat} {x r y1 : Int32} (hP : gw_P R T F fs) (hY : gy_R R T F fs fz rs ru fi) (h : gy_No R T F fs x r) (H : ∀ sz wd nx, post r (fz, sz, os, vx, vy, vw, vl, vr, vo, vh, rs, ru, fi, ac, wd, nx, ot, pt, se)) : wpY_point post (fz, sz, os, vx, vy, vw, vl, vr, vo, vh, rs, ru, fi, ac, wd, nx, ot, pt, se) x y1 := by
  unfold wpY_point
  dsimp only
  exact gy_wNo hP hY h (fun sz wd nx => br_f (gy_No_lt h) (H sz wd nx))
theorem gx_direction_no {post : Int32 → Prop} {la lb ac g L : Nat → Int32} {x r : Int32} (h : gx_No L x r) (hp : post r) : wpX_direction post (la, lb, ac, g, L, 39000) x := by
  unfold wpX_direction
  dsimp only
  exact gx_ref h (br_f (gx_No_ne h) hp)
theorem gy_direction_no {post : Int32 → SY → Prop} {fz sz os vx vy vw vl vr vo vh : Int32} {rs ru fi ac wd nx ot pt se : Nat → Int32} {R T F : Nat → Nat} {fs : Nat} {x r : Int32} (hP : gw_P R T F fs) (hY : gy_R R T F fs fz rs ru fi) (h : gy_No R T F fs x r) (H : ∀ sz wd nx, post r (fz, sz, os, vx, vy, vw, vl, vr, vo, vh, rs, ru, fi, ac, wd, nx, ot, pt, se)) : wpY_direction post (fz, sz, os, vx, vy, vw, vl, vr, vo, vh, rs, ru, fi, ac, wd, nx, ot, pt, se) x := by
  unfold wpY_direction
  dsimp only
  exact gy_wNo hP hY h (fun sz wd nx => br_f (gy_No_lt h) (H sz wd nx))
theorem gx_extent_no {post : Int32 → Prop} {la lb ac g L : Nat → Int32} {x r : Int32} (h : gx_No L x r) (hp : post r) : wpX_extent post (la, lb, ac, g, L, 39000) x := by
  unfold wpX_extent
  dsimp only
  exact gx_ref h (br_f (gx_No_ne h) hp)
theorem gy_extent_no {post : Int32 → SY → Prop} {fz sz os vx vy vw vl vr vo vh : Int32} {rs ru fi ac wd nx ot pt se : Nat → Int32} {R T F : Nat → Nat} {fs : Nat} {x r : Int32} (hP : gw_P R T F fs) (hY : gy_R R T F fs fz rs ru fi) (h : gy_No R T F fs x r) (H : ∀ sz wd nx, post r (fz, sz, os, vx, vy, vw, vl, vr, vo, vh, rs, ru, fi, ac, wd, nx, ot, pt, se)) : wpY_extent post (fz, sz, os, vx, vy, vw, vl, vr, vo, vh, rs, ru, fi, ac, wd, nx, ot, pt, se) x := by
  unfold wpY_extent
  dsimp only
  exact gy_wNo hP hY h (fun sz wd nx => br_f (gy_No_lt h) (H sz wd nx))
theorem gy_hw {R T F w : Nat → Nat} {fs n s : Nat} {wd : Nat → Int32} (hP : gw_P R T F fs) (e : gw_gen R T F fs n = some (s, w)) (h : ∀ j, j < s → wd j = nI (w j)) : ∀ j, j < s → w j < 6 ∧ wd j = nI (w j) := fun j hj => ⟨(gw_gen_ok hP n s w e).2 j hj, h j hj⟩
theorem gy_length {post : Int32 → SY → Prop} {fz sz os vx vy vw vl vr vo vh : Int32} {rs ru fi ac wd nx ot pt se : Nat → Int32} {R T F w : Nat → Nat} {fs n s : Nat} (hP : gw_P R T F fs) (hY : gy_R R T F fs fz rs ru fi) (hn : n < 13) (e : gw_gen R T F fs n = some (s, w)) (H : ∀ wd nx, post (nI s) (fz, nI s, os, vx, vy, vw, vl, vr, vo, vh, rs, ru, fi, ac, wd, nx, ot, pt, se)) : wpY_length post (fz, sz, os, vx, vy, vw, vl, vr, vo, vh, rs, ru, fi, ac, wd, nx, ot, pt, se) (nI n) := by
  unfold wpY_length
  dsimp only
  exact gy_wOk hP hY hn e (fun wd nx _ => br_t (by decide) (H wd nx))
theorem gy_letterAt {post : Int32 → SY → Prop} {fz sz os vx vy vw vl vr vo vh : Int32} {rs ru fi ac wd nx ot pt se : Nat → Int32} {R T F w : Nat → Nat} {fs n s : Nat} {p : Nat} (hP : gw_P R T F fs) (hY : gy_R R T F fs fz rs ru fi) (hn : n < 13) (e : gw_gen R T F fs n = some (s, w)) (hp : p < s) (H : ∀ wd nx, post (nI (w p)) (fz, nI s, os, vx, vy, vw, vl, vr, vo, vh, rs, ru, fi, ac, wd, nx, ot, pt, se)) : wpY_letterAt post (fz, sz, os, vx, vy, vw, vl, vr, vo, vh, rs, ru, fi, ac, wd, nx, ot, pt, se) (nI n) (nI p) := by
  unfold wpY_letterAt
  dsimp only
  have hs := (gw_gen_ok hP n s w e).1
  refine gy_wOk hP hY hn e (fun wd nx h => br_t (by decide) (br_f (nI_pos (by omega)) (br_f (nI_ge hp (by omega)) ⟨vp_in_nI (by omega) (by omega), ?_⟩)))
  dsimp only
  rw [nI_clamp (by omega), h p hp]
  exact H wd nx
theorem gy_letterAtN {post : Int32 → SY → Prop} {fz sz os vx vy vw vl vr vo vh : Int32} {rs ru fi ac wd nx ot pt se : Nat → Int32} {R T F w : Nat → Nat} {fs n s : Nat} {x : Int32} (hP : gw_P R T F fs) (hY : gy_R R T F fs fz rs ru fi) (hn : n < 13) (e : gw_gen R T F fs n = some (s, w)) (hx : x < 0 ∨ nI s ≤ x) (H : ∀ wd nx, post (-3) (fz, nI s, os, vx, vy, vw, vl, vr, vo, vh, rs, ru, fi, ac, wd, nx, ot, pt, se)) : wpY_letterAt post (fz, sz, os, vx, vy, vw, vl, vr, vo, vh, rs, ru, fi, ac, wd, nx, ot, pt, se) (nI n) x := by
  unfold wpY_letterAt
  dsimp only
  refine gy_wOk hP hY hn e (fun wd nx h => br_t (by decide) ?_)
  by_cases z : x < 0
  · exact br_t z (H wd nx)
  · exact br_f z (br_t (hx.resolve_left z) (H wd nx))
theorem gy_count {post : Int32 → SY → Prop} {fz sz os vx vy vw vl vr vo vh : Int32} {rs ru fi ac wd nx ot pt se : Nat → Int32} {R T F w : Nat → Nat} {fs n s : Nat} {c : Nat} {x y : Int32} (hP : gw_P R T F fs) (hY : gy_R R T F fs fz rs ru fi) (hn : n < 13) (e : gw_gen R T F fs n = some (s, w)) (hc : c < 6) (H : ∀ wd nx, post (nI (gw_cnt (fun q => decide (¬ nI q < x) && decide (¬ y ≤ nI q) && decide (w q = c)) s 0)) (fz, nI s, os, vx, vy, vw, vl, vr, vo, vh, rs, ru, fi, ac, wd, nx, ot, pt, se)) : wpY_count post (fz, sz, os, vx, vy, vw, vl, vr, vo, vh, rs, ru, fi, ac, wd, nx, ot, pt, se) (nI n) (nI c) x y := by
  unfold wpY_count
  dsimp only
  have hs := (gw_gen_ok hP n s w e).1
  refine gy_wOk hP hY hn e (fun wd nx h => br_t (by decide) (gy_isL hc (br_f (by decide) ⟨s + 1, ?_⟩)))
  refine gy_ct hs hc (gy_hw hP e h) s 0 0 (by omega) ?_
  rw [Nat.zero_add]
  exact H wd nx
theorem gy_countN {post : Int32 → SY → Prop} {fz sz os vx vy vw vl vr vo vh : Int32} {rs ru fi ac wd nx ot pt se : Nat → Int32} {R T F w : Nat → Nat} {fs n s : Nat} {c x y : Int32} (hP : gw_P R T F fs) (hY : gy_R R T F fs fz rs ru fi) (hn : n < 13) (e : gw_gen R T F fs n = some (s, w)) (hc : c < 0 ∨ nI 6 ≤ c) (H : ∀ wd nx, post (-3) (fz, nI s, os, vx, vy, vw, vl, vr, vo, vh, rs, ru, fi, ac, wd, nx, ot, pt, se)) : wpY_count post (fz, sz, os, vx, vy, vw, vl, vr, vo, vh, rs, ru, fi, ac, wd, nx, ot, pt, se) (nI n) c x y := by
  unfold wpY_count
  dsimp only
  exact gy_wOk hP hY hn e (fun wd nx h => br_t (by decide) (gy_isN hc (br_t rfl (H wd nx))))
theorem gy_find {post : Int32 → SY → Prop} {fz sz os vx vy vw vl vr vo vh : Int32} {rs ru fi ac wd nx ot pt se : Nat → Int32} {R T F w : Nat → Nat} {fs n s : Nat} {x m : Nat} {v y : Int32} (hP : gw_P R T F fs) (hY : gy_R R T F fs fz rs ru fi) (hn : n < 13) (e : gw_gen R T F fs n = some (s, w)) (G : gw_Good 4 v x m) (h1 : 1 ≤ m) (H : ∀ wd nx pt, post (gx_f (gw_fst (fun q => decide (¬ nI q < y) && decide (q + m ≤ s ∧ gw_hor w m q = x)) s 0)) (fz, nI s, os, vx, vy, vw, vl, vr, vo, vh, rs, ru, fi, ac, wd, nx, ot, pt, se)) : wpY_find post (fz, sz, os, vx, vy, vw, vl, vr, vo, vh, rs, ru, fi, ac, wd, nx, ot, pt, se) (nI n) v y := by
  unfold wpY_find
  dsimp only
  have hs := (gw_gen_ok hP n s w e).1
  have hm := gw_Good_le G
  refine gy_wOk hP hY hn e (fun wd nx h => br_t (by decide) (gy_rd_good G (by decide) (fun pt hp => br_t (nI_le (a := 1) h1 (by omega)) ⟨s + 1, ?_⟩)))
  exact gy_fi G hs (gy_hw hP e h) hp s 0 (by omega) (H wd nx pt)
theorem gy_findN {post : Int32 → SY → Prop} {fz sz os vx vy vw vl vr vo vh : Int32} {rs ru fi ac wd nx ot pt se : Nat → Int32} {R T F w : Nat → Nat} {fs n s : Nat} {v y : Int32} (hP : gw_P R T F fs) (hY : gy_R R T F fs fz rs ru fi) (hn : n < 13) (e : gw_gen R T F fs n = some (s, w)) (G : gw_Bad 4 v ∨ ∃ x, gw_Good 4 v x 0) (H : ∀ wd nx pt, post (-3) (fz, nI s, os, vx, vy, vw, vl, vr, vo, vh, rs, ru, fi, ac, wd, nx, ot, pt, se)) : wpY_find post (fz, sz, os, vx, vy, vw, vl, vr, vo, vh, rs, ru, fi, ac, wd, nx, ot, pt, se) (nI n) v y := by
  unfold wpY_find
  dsimp only
  refine gy_wOk hP hY hn e (fun wd nx h => br_t (by decide) ?_)
  rcases G with G | ⟨x, G⟩
  · exact gy_rd_bad G (by decide) (fun pt => br_f (by decide) (H wd nx pt))
  · exact gy_rd_good G (by decide) (fun pt _ => br_f (gw_no1 (by decide)) (H wd nx pt))
theorem gy_occ {post : Int32 → SY → Prop} {fz sz os vx vy vw vl vr vo vh : Int32} {rs ru fi ac wd nx ot pt se : Nat → Int32} {R T F w : Nat → Nat} {fs n s : Nat} {x m : Nat} {v : Int32} (hP : gw_P R T F fs) (hY : gy_R R T F fs fz rs ru fi) (hn : n < 13) (e : gw_gen R T F fs n = some (s, w)) (G : gw_Good 4 v x m) (h1 : 1 ≤ m) (H : ∀ wd nx pt, post (nI (gw_cnt (fun q => decide (q + m ≤ s ∧ gw_hor w m q = x)) s 0)) (fz, nI s, os, vx, vy, vw, vl, vr, vo, vh, rs, ru, fi, ac, wd, nx, ot, pt, se)) : wpY_occurrences post (fz, sz, os, vx, vy, vw, vl, vr, vo, vh, rs, ru, fi, ac, wd, nx, ot, pt, se) (nI n) v := by
  unfold wpY_occurrences
  dsimp only
  have hs := (gw_gen_ok hP n s w e).1
  have hm := gw_Good_le G
  refine gy_wOk hP hY hn e (fun wd nx h => br_t (by decide) (gy_rd_good G (by decide) (fun pt hp => br_t (nI_le (a := 1) h1 (by omega)) ⟨s + 1, ?_⟩)))
  refine gy_oc G hs (gy_hw hP e h) hp s 0 0 (by omega) ?_
  rw [Nat.zero_add]
  exact H wd nx pt
theorem gy_occN {post : Int32 → SY → Prop} {fz sz os vx vy vw vl vr vo vh : Int32} {rs ru fi ac wd nx ot pt se : Nat → Int32} {R T F w : Nat → Nat} {fs n s : Nat} {v : Int32} (hP : gw_P R T F fs) (hY : gy_R R T F fs fz rs ru fi) (hn : n < 13) (e : gw_gen R T F fs n = some (s, w)) (G : gw_Bad 4 v ∨ ∃ x, gw_Good 4 v x 0) (H : ∀ wd nx pt, post (-3) (fz, nI s, os, vx, vy, vw, vl, vr, vo, vh, rs, ru, fi, ac, wd, nx, ot, pt, se)) : wpY_occurrences post (fz, sz, os, vx, vy, vw, vl, vr, vo, vh, rs, ru, fi, ac, wd, nx, ot, pt, se) (nI n) v := by
  unfold wpY_occurrences
  dsimp only
  refine gy_wOk hP hY hn e (fun wd nx h => br_t (by decide) ?_)
  rcases G with G | ⟨x, G⟩
  · exact gy_rd_bad G (by decide) (fun pt => br_f (by decide) (H wd nx pt))
  · exact gy_rd_good G (by decide) (fun pt _ => br_f (gw_no1 (by decide)) (H wd nx pt))
theorem gy_run {post : Int32 → SY → Prop} {fz sz os vx vy vw vl vr vo vh : Int32} {rs ru fi ac wd nx ot pt se : Nat → Int32} {R T F w : Nat → Nat} {fs n s : Nat} (hP : gw_P R T F fs) (hY : gy_R R T F fs fz rs ru fi) (hn : n < 13) (e : gw_gen R T F fs n = some (s, w)) (H : ∀ wd nx, post (gw_gr (gw_rh w) s) (fz, nI s, os, vx, vy, vw, vl, vr, vo, vh, rs, ru, fi, ac, wd, nx, ot, pt, se)) : wpY_run post (fz, sz, os, vx, vy, vw, vl, vr, vo, vh, rs, ru, fi, ac, wd, nx, ot, pt, se) (nI n) := by
  unfold wpY_run
  dsimp only
  have hs := (gw_gen_ok hP n s w e).1
  exact gy_wOk hP hY hn e (fun wd nx h => br_t (by decide) ⟨s + 1, gy_rn hs (gy_hw hP e h) (H wd nx) s 0 (by omega)⟩)
theorem gy_mirrored {post : Int32 → SY → Prop} {fz sz os vx vy vw vl vr vo vh : Int32} {rs ru fi ac wd nx ot pt se : Nat → Int32} {R T F w : Nat → Nat} {fs n s : Nat} (hP : gw_P R T F fs) (hY : gy_R R T F fs fz rs ru fi) (hn : n < 13) (e : gw_gen R T F fs n = some (s, w)) (H1 : (∀ p, p < s → w p = w (s - 1 - p)) → ∀ wd nx, post 1 (fz, nI s, os, vx, vy, vw, vl, vr, vo, vh, rs, ru, fi, ac, wd, nx, ot, pt, se)) (H0 : (∃ p, p < s ∧ ¬ w p = w (s - 1 - p)) → ∀ wd nx, post 0 (fz, nI s, os, vx, vy, vw, vl, vr, vo, vh, rs, ru, fi, ac, wd, nx, ot, pt, se)) : wpY_mirrored post (fz, sz, os, vx, vy, vw, vl, vr, vo, vh, rs, ru, fi, ac, wd, nx, ot, pt, se) (nI n) := by
  unfold wpY_mirrored
  dsimp only
  have hs := (gw_gen_ok hP n s w e).1
  exact gy_wOk hP hY hn e (fun wd nx h => br_t (by decide) ⟨s + 1, gy_mi hs (gy_hw hP e h) (fun k => H1 k wd nx) (fun k => H0 k wd nx) s 0 1 (by omega) (Or.inl ⟨rfl, fun t ht => absurd ht (Nat.not_lt_zero t)⟩)⟩)
theorem gy_kinds {post : Int32 → SY → Prop} {fz sz os vx vy vw vl vr vo vh : Int32} {rs ru fi ac wd nx ot pt se : Nat → Int32} {R T F w : Nat → Nat} {fs n s : Nat} {k : Nat} (hP : gw_P R T F fs) (hY : gy_R R T F fs fz rs ru fi) (hn : n < 13) (e : gw_gen R T F fs n = some (s, w)) (h1 : 1 ≤ k) (hk : k ≤ 3) (H : ∀ wd nx se, post (nI (gw_cnt (gw_S (fun t => gw_cd w t k) (s + 1 - k)) 216 0)) (fz, nI s, os, vx, vy, vw, vl, vr, vo, vh, rs, ru, fi, ac, wd, nx, ot, pt, se)) : wpY_kinds post (fz, sz, os, vx, vy, vw, vl, vr, vo, vh, rs, ru, fi, ac, wd, nx, ot, pt, se) (nI n) (nI k) := by
  unfold wpY_kinds
  dsimp only
  have hs := (gw_gen_ok hP n s w e).1
  exact gy_wOk hP hY hn e (fun wd nx h => br_t (by decide) (br_f (nI_nlt (b := 1) h1 (by omega)) (br_t (nI_le (b := 3) hk (by decide)) ⟨217, gy_k28 hs h1 hk (gy_hw hP e h) (H wd nx) 216 0 se (by omega) (fun c hc => absurd hc (Nat.not_lt_zero c))⟩)))
theorem gy_kindsN {post : Int32 → SY → Prop} {fz sz os vx vy vw vl vr vo vh : Int32} {rs ru fi ac wd nx ot pt se : Nat → Int32} {R T F w : Nat → Nat} {fs n s : Nat} {x : Int32} (hP : gw_P R T F fs) (hY : gy_R R T F fs fz rs ru fi) (hn : n < 13) (e : gw_gen R T F fs n = some (s, w)) (hx : x < 1 ∨ ¬ x ≤ 3) (H : ∀ wd nx, post (-3) (fz, nI s, os, vx, vy, vw, vl, vr, vo, vh, rs, ru, fi, ac, wd, nx, ot, pt, se)) : wpY_kinds post (fz, sz, os, vx, vy, vw, vl, vr, vo, vh, rs, ru, fi, ac, wd, nx, ot, pt, se) (nI n) x := by
  unfold wpY_kinds
  dsimp only
  refine gy_wOk hP hY hn e (fun wd nx h => br_t (by decide) ?_)
  by_cases z : x < 1
  · exact br_t z (H wd nx)
  · exact br_f z (br_f (hx.resolve_left z) (H wd nx))
theorem gy_point {post : Int32 → SY → Prop} {fz sz os vx vy vw vl vr vo vh : Int32} {rs ru fi ac wd nx ot pt se : Nat → Int32} {R T F w : Nat → Nat} {fs n s : Nat} {c : Nat} {y : Int32} {act : Nat → Int32} (hP : gw_P R T F fs) (hY : gy_R R T F fs fz rs ru fi) (hn : n < 13) (e : gw_gen R T F fs n = some (s, w)) (hc : c ≤ s) (hy : ∀ t, t < s → (¬ y ≤ nI t ↔ t < c)) (ha : ∀ p, act p = ac (w p)) (H : ∀ vx vy vw vl vr vo vh wd nx, post (8192 * (gw_x act c + 4096) + gw_y act c + 4096) (fz, nI s, os, vx, vy, vw, vl, vr, vo, vh, rs, ru, fi, ac, wd, nx, ot, pt, se)) : wpY_point post (fz, sz, os, vx, vy, vw, vl, vr, vo, vh, rs, ru, fi, ac, wd, nx, ot, pt, se) (nI n) y := by
  unfold wpY_point
  dsimp only
  have hs := (gw_gen_ok hP n s w e).1
  exact gy_wOk hP hY hn e (fun wd nx h => br_t (by decide) (gy_draw hs hc hy (gy_hw hP e h) ha (H _ _ _ _ _ _ _ wd nx)))
theorem gy_all {s : Nat} (hs : s ≤ 3000) : ∀ t, t < s → (¬ nI s ≤ nI t ↔ t < s) := fun t ht => ⟨fun _ => ht, fun _ => nI_ge ht (by omega)⟩
theorem gy_direction {post : Int32 → SY → Prop} {fz sz os vx vy vw vl vr vo vh : Int32} {rs ru fi ac wd nx ot pt se : Nat → Int32} {R T F w : Nat → Nat} {fs n s : Nat} {act : Nat → Int32} (hP : gw_P R T F fs) (hY : gy_R R T F fs fz rs ru fi) (hn : n < 13) (e : gw_gen R T F fs n = some (s, w)) (ha : ∀ p, act p = ac (w p)) (H : ∀ vx vy vw vl vr vo vh wd nx, post (gw_d act s) (fz, nI s, os, vx, vy, vw, vl, vr, vo, vh, rs, ru, fi, ac, wd, nx, ot, pt, se)) : wpY_direction post (fz, sz, os, vx, vy, vw, vl, vr, vo, vh, rs, ru, fi, ac, wd, nx, ot, pt, se) (nI n) := by
  unfold wpY_direction
  dsimp only
  have hs := (gw_gen_ok hP n s w e).1
  exact gy_wOk hP hY hn e (fun wd nx h => br_t (by decide) (gy_draw hs (Nat.le_refl _) (gy_all hs) (gy_hw hP e h) ha (H _ _ _ _ _ _ _ wd nx)))
theorem gy_extent {post : Int32 → SY → Prop} {fz sz os vx vy vw vl vr vo vh : Int32} {rs ru fi ac wd nx ot pt se : Nat → Int32} {R T F w : Nat → Nat} {fs n s : Nat} {act : Nat → Int32} (hP : gw_P R T F fs) (hY : gy_R R T F fs fz rs ru fi) (hn : n < 13) (e : gw_gen R T F fs n = some (s, w)) (ha : ∀ p, act p = ac (w p)) (H : ∀ vx vy vw vl vr vo vh wd nx, post (4096 * (gw_gr (gw_x act) s - gw_le (gw_x act) s) + (gw_gr (gw_y act) s - gw_le (gw_y act) s)) (fz, nI s, os, vx, vy, vw, vl, vr, vo, vh, rs, ru, fi, ac, wd, nx, ot, pt, se)) : wpY_extent post (fz, sz, os, vx, vy, vw, vl, vr, vo, vh, rs, ru, fi, ac, wd, nx, ot, pt, se) (nI n) := by
  unfold wpY_extent
  dsimp only
  have hs := (gw_gen_ok hP n s w e).1
  exact gy_wOk hP hY hn e (fun wd nx h => br_t (by decide) (gy_draw hs (Nat.le_refl _) (gy_all hs) (gy_hw hP e h) ha (H _ _ _ _ _ _ _ wd nx)))
theorem gy_common1 {post : Int32 → SY → Prop} {fz sz os vx vy vw vl vr vo vh : Int32} {rs ru fi ac wd nx ot pt se : Nat → Int32} {x y : Int32} (hx : (x < 0 ∨ nI 13 ≤ x) ∨ (y < 0 ∨ nI 13 ≤ y)) (h : post (-1) (fz, sz, os, vx, vy, vw, vl, vr, vo, vh, rs, ru, fi, ac, wd, nx, ot, pt, se)) : wpY_common post (fz, sz, os, vx, vy, vw, vl, vr, vo, vh, rs, ru, fi, ac, wd, nx, ot, pt, se) x y := by
  unfold wpY_common
  dsimp only
  have N : ∀ z : Int32, nI 13 ≤ z → ¬ z ≤ 12 := fun z a b => absurd (Int32.le_trans a b) (by decide)
  refine br_c (fun _ => h) (fun a => br_c (fun _ => h) (fun b => br_c (fun _ => h) (fun c => br_f ?_ h)))
  rcases hx with (k | k) | (k | k)
  · exact absurd k a
  · exact absurd (Int32.not_le.mp (N x k)) b
  · exact absurd k c
  · exact N y k
theorem gy_common {post : Int32 → SY → Prop} {fz sz os vx vy vw vl vr vo vh : Int32} {rs ru fi ac wd nx ot pt se : Nat → Int32} {R T F w : Nat → Nat} {fs n s : Nat} {m s' : Nat} {w' : Nat → Nat} (hP : gw_P R T F fs) (hY : gy_R R T F fs fz rs ru fi) (hn : n < 13) (e : gw_gen R T F fs n = some (s, w)) (hm : m < 13) (e' : gw_gen R T F fs m = some (s', w')) (H : ∀ sz os wd nx ot, post (nI (gw_pre w w' (gw_min s s') 0)) (fz, sz, os, vx, vy, vw, vl, vr, vo, vh, rs, ru, fi, ac, wd, nx, ot, pt, se)) : wpY_common post (fz, sz, os, vx, vy, vw, vl, vr, vo, vh, rs, ru, fi, ac, wd, nx, ot, pt, se) (nI n) (nI m) := by
  unfold wpY_common
  dsimp only
  have hs := (gw_gen_ok hP n s w e).1
  have hs' := (gw_gen_ok hP m s' w' e').1
  refine br_f (nI_pos (by omega)) (br_f (nI_nlt (a := 12) (by omega) (by omega)) (br_f (nI_pos (by omega)) (br_t (nI_le (b := 12) (by omega) (by decide)) ?_)))
  refine gy_wOk hP hY hn e (fun wd nx h => br_t (by decide) ?_)
  have K := gy_c45 (post := post) (fz := fz) (os := nI s) (vx := vx) (vy := vy) (vw := vw) (vl := vl) (vr := vr) (vo := vo) (vh := vh) (rs := rs) (ru := ru) (fi := fi) (ac := ac) (nx := nx) (pt := pt) (se := se) (x := nI m) hs (gy_hw hP e h) (fun ot ho => ⟨0, by
    rw [wY_common_45]
    dsimp only
    refine br_t (nI_le (Nat.le_refl _) (by omega)) ?_
    refine gy_wOk hP hY hm e' (fun wd' nx' h' => br_t (by decide) ⟨gw_min s s' + 1, ?_⟩)
    exact gy_c89 hs hs' ho (gy_hw hP e' h') rfl (gw_min s s') 0 (by omega) (H _ _ _ _ _)⟩) s 0 ot (by omega) (fun j hj => absurd hj (Nat.not_lt_zero j))
  obtain ⟨c, hc⟩ := K
  exact ⟨c + 1, hc⟩
theorem gy_common2 {post : Int32 → SY → Prop} {fz sz os vx vy vw vl vr vo vh : Int32} {rs ru fi ac wd nx ot pt se : Nat → Int32} {R T F : Nat → Nat} {fs n m : Nat} (hP : gw_P R T F fs) (hY : gy_R R T F fs fz rs ru fi) (hn : n < 13) (hm : m < 13) (hg : gw_gen R T F fs n = none ∨ gw_gen R T F fs m = none) (H : ∀ sz os wd nx ot, post (-2) (fz, sz, os, vx, vy, vw, vl, vr, vo, vh, rs, ru, fi, ac, wd, nx, ot, pt, se)) : wpY_common post (fz, sz, os, vx, vy, vw, vl, vr, vo, vh, rs, ru, fi, ac, wd, nx, ot, pt, se) (nI n) (nI m) := by
  unfold wpY_common
  dsimp only
  refine br_f (nI_pos (by omega)) (br_f (nI_nlt (a := 12) (by omega) (by omega)) (br_f (nI_pos (by omega)) (br_t (nI_le (b := 12) (by omega) (by decide)) ?_)))
  cases e : gw_gen R T F fs n with
  | none => exact gy_wNo (r := -2) hP hY (Or.inr ⟨n, hn, rfl, e, rfl⟩) (fun sz wd nx => br_f (by decide) (H _ _ _ _ _))
  | some q =>
    obtain ⟨s, w⟩ := q
    have hg' : gw_gen R T F fs m = none := hg.resolve_left (fun k => by rw [e] at k; cases k)
    have hs := (gw_gen_ok hP n s w e).1
    refine gy_wOk hP hY hn e (fun wd nx h => br_t (by decide) ?_)
    have K := gy_c45 (post := post) (fz := fz) (os := nI s) (vx := vx) (vy := vy) (vw := vw) (vl := vl) (vr := vr) (vo := vo) (vh := vh) (rs := rs) (ru := ru) (fi := fi) (ac := ac) (nx := nx) (pt := pt) (se := se) (x := nI m) hs (gy_hw hP e h) (fun ot ho => ⟨0, by
      rw [wY_common_45]
      dsimp only
      refine br_t (nI_le (Nat.le_refl _) (by omega)) ?_
      exact gy_wNo (r := -2) hP hY (Or.inr ⟨m, hm, rfl, hg', rfl⟩) (fun sz wd nx => br_f (by decide) (H _ _ _ _ _))⟩) s 0 ot (by omega) (fun j hj => absurd hj (Nat.not_lt_zero j))
    obtain ⟨c, hc⟩ := K
    exact ⟨c + 1, hc⟩
