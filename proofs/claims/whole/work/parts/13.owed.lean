def i_Rel (k : Nat) (u : SX) (v : SY) : Prop :=
  ∃ (la lb ac g L : Nat → Int32) (fz sz os vx vy vw vl vr vo vh : Int32) (rs ru fi wd nx ot pt se : Nat → Int32) (R T F : Nat → Nat) (fs : Nat),
    u = (la, lb, ac, g, L, 39000) ∧ v = (fz, sz, os, vx, vy, vw, vl, vr, vo, vh, rs, ru, fi, ac, wd, nx, ot, pt, se) ∧ gw_P R T F fs ∧ gx_R R T F fs la lb g L ∧ gy_R R T F fs fz rs ru fi
theorem gw_rel {k : Nat} {la lb g L : Nat → Int32} {fz sz os vx vy vw vl vr vo vh : Int32} {rs ru fi ac wd nx ot pt se : Nat → Int32} {R T F : Nat → Nat} {fs : Nat} (hP : gw_P R T F fs) (hX : gx_R R T F fs la lb g L) (hY : gy_R R T F fs fz rs ru fi) : i_Rel k (la, lb, ac, g, L, 39000) (fz, sz, os, vx, vy, vw, vl, vr, vo, vh, rs, ru, fi, ac, wd, nx, ot, pt, se) :=
  ⟨la, lb, ac, g, L, fz, sz, os, vx, vy, vw, vl, vr, vo, vh, rs, ru, fi, wd, nx, ot, pt, se, R, T, F, fs, rfl, rfl, hP, hX, hY⟩
theorem gw_cases (R T F : Nat → Nat) (fs : Nat) (x : Int32) : (∃ r, gy_No R T F fs x r) ∨ ∃ n s w, n < 13 ∧ x = nI n ∧ gw_gen R T F fs n = some (s, w) := by
  rcases pk_ix x (n := 13) (by decide) with z | z | ⟨n, hn, z⟩
  · exact Or.inl ⟨_, Or.inl ⟨Or.inl z, rfl⟩⟩
  · exact Or.inl ⟨_, Or.inl ⟨Or.inr z, rfl⟩⟩
  · cases e : gw_gen R T F fs n with
    | none => exact Or.inl ⟨_, Or.inr ⟨n, hn, z, e, rfl⟩⟩
    | some q => exact Or.inr ⟨n, q.1, q.2, hn, z, e⟩
theorem gw_noX {R T F : Nat → Nat} {fs : Nat} {la lb g L : Nat → Int32} {x r : Int32} (hX : gx_R R T F fs la lb g L) (h : gy_No R T F fs x r) : gx_No L x r := by
  rcases h with h | ⟨n, hn, e, hg, er⟩
  · exact Or.inl h
  · exact Or.inr ⟨n, hn, e, (hX.2 n hn).1 hg, er⟩
theorem gw_words (most : Nat) (y : Int32) : (gw_Bad most y ∨ ∃ x, gw_Good most y x 0) ∨ ∃ x l, gw_Good most y x l ∧ 1 ≤ l := by
  rcases gw_word most y with h | ⟨x, l, h⟩
  · exact Or.inl (Or.inl h)
  · by_cases z : l = 0
    · subst z
      exact Or.inl (Or.inr ⟨x, h⟩)
    · exact Or.inr ⟨x, l, h, by omega⟩
theorem i_up {k : Nat} {u : SX} {v : SY} (h : i_Rel k u v) : i_Rel (k + 5) u v := h
theorem i_vc0 : wpX_init (fun u => wpY_init (fun v => i_Rel 0 u v)) := by
  unfold wpX_init
  refine ⟨by decide, nm_r (e' := 39000) (by decide) ⟨Nat.le_refl _, 7, ?_⟩⟩
  refine gx_i46 rfl rfl (fun la lb g L r q => ?_) 6 0 _ _ (by omega) gw_I0
  unfold wpY_init
  refine ⟨7, ?_⟩
  exact gy_i82 rfl (fun rs ru hY => gw_rel gw_P0 ⟨r, q⟩ hY) 6 0 _ _ (by omega) gw_I0
theorem i_vc_rule {k : Nat} {u : SX} {v : SY} (I : i_Rel k u v) (hk : k + 5 ≤ 2560) (v1 : Int32) (v2 : Int32) : wpX_rule (fun r u' => wpY_rule (fun r' v' => r' = r ∧ i_Rel (k + 5) u' v') v v1 v2) u v1 v2 := by
  obtain ⟨la, lb, ac, g, L, fz, sz, os, vx, vy, vw, vl, vr, vo, vh, rs, ru, fi, wd, nx, ot, pt, se, R, T, F, fs, rfl, rfl, hP, hX, hY⟩ := I
  rcases pk_ix v1 (n := 6) (by decide) with z | z | ⟨c, hc, z⟩
  · exact gx_rule1 (Or.inl z) (gy_rule1 (Or.inl z) ⟨rfl, gw_rel hP hX hY⟩)
  · exact gx_rule1 (Or.inr z) (gy_rule1 (Or.inr z) ⟨rfl, gw_rel hP hX hY⟩)
  · subst z
    rcases gw_word 4 v2 with G | ⟨x, l, G⟩
    · exact gx_rule2 hc G (gy_rule2 hc G (fun pt => ⟨rfl, gw_rel hP hX hY⟩))
    · exact gx_rule hP hX hc G (fun la lb g L hX' => gy_rule hY hc G (fun rs ru pt hY' => ⟨rfl, gw_rel (gw_P1 hP (gw_Good_le G)) hX' hY'⟩))
theorem i_vc_begin {k : Nat} {u : SX} {v : SY} (I : i_Rel k u v) (hk : k + 5 ≤ 2560) (v1 : Int32) : wpX_begin (fun r u' => wpY_begin (fun r' v' => r' = r ∧ i_Rel (k + 5) u' v') v v1) u v1 := by
  obtain ⟨la, lb, ac, g, L, fz, sz, os, vx, vy, vw, vl, vr, vo, vh, rs, ru, fi, wd, nx, ot, pt, se, R, T, F, fs, rfl, rfl, hP, hX, hY⟩ := I
  rcases gw_words 8 v1 with G | ⟨x, l, G, h1⟩
  · exact gx_beginN G (gy_beginN G (fun pt => ⟨rfl, gw_rel hP hX hY⟩))
  · exact gx_begin hP hX G h1 (fun la lb g L hX' => gy_begin hY G h1 (fun fz fi pt hY' => ⟨rfl, gw_rel (gw_P2 hP h1 (gw_Good_le G)) hX' hY'⟩))
theorem gx_action {post : Int32 → SX → Prop} {la lb ac g L : Nat → Int32} {c : Nat} {y : Int32} (hc : c < 6) (hy : ¬ y < 0) (h3 : y < 4) (h : post (ac c) (la, lb, upd ac c y, g, L, 39000)) : wpX_action post (la, lb, ac, g, L, 39000) (nI c) y := by
  unfold wpX_action
  dsimp only
  rw [nI_clamp (by omega)]
  exact gx_isL hc (br_f (by decide) (br_f hy (br_t h3 ⟨vp_in_nI hc (by omega), nm_e ⟨vp_in_nI hc (by omega), nm_e h⟩⟩)))
theorem gy_action {post : Int32 → SY → Prop} {fz sz os vx vy vw vl vr vo vh : Int32} {rs ru fi ac wd nx ot pt se : Nat → Int32} {c : Nat} {y : Int32} (hc : c < 6) (hy : ¬ y < 0) (h3 : y ≤ 3) (h : post (ac c) (fz, sz, os, vx, vy, vw, vl, vr, vo, vh, rs, ru, fi, upd ac c y, wd, nx, ot, pt, se)) : wpY_action post (fz, sz, os, vx, vy, vw, vl, vr, vo, vh, rs, ru, fi, ac, wd, nx, ot, pt, se) (nI c) y := by
  unfold wpY_action
  dsimp only
  rw [nI_clamp (by omega)]
  exact gy_isL hc (br_f (by decide) (br_f hy (br_t h3 ⟨vp_in_nI hc (by omega), nm_e ⟨vp_in_nI hc (by omega), nm_e h⟩⟩)))
theorem gx_action1 {post : Int32 → SX → Prop} {la lb ac g L : Nat → Int32} {x y : Int32} (hx : x < 0 ∨ nI 6 ≤ x) (h : post (-1) (la, lb, ac, g, L, 39000)) : wpX_action post (la, lb, ac, g, L, 39000) x y := by
  unfold wpX_action
  dsimp only
  exact gx_isN hx (br_t rfl h)
theorem gy_action1 {post : Int32 → SY → Prop} {fz sz os vx vy vw vl vr vo vh : Int32} {rs ru fi ac wd nx ot pt se : Nat → Int32} {x y : Int32} (hx : x < 0 ∨ nI 6 ≤ x) (h : post (-1) (fz, sz, os, vx, vy, vw, vl, vr, vo, vh, rs, ru, fi, ac, wd, nx, ot, pt, se)) : wpY_action post (fz, sz, os, vx, vy, vw, vl, vr, vo, vh, rs, ru, fi, ac, wd, nx, ot, pt, se) x y := by
  unfold wpY_action
  dsimp only
  exact gy_isN hx (br_t rfl h)
theorem gx_action2 {post : Int32 → SX → Prop} {la lb ac g L : Nat → Int32} {c : Nat} {y : Int32} (hc : c < 6) (hy : y < 0 ∨ ¬ y < 4) (h : post (-2) (la, lb, ac, g, L, 39000)) : wpX_action post (la, lb, ac, g, L, 39000) (nI c) y := by
  unfold wpX_action
  dsimp only
  exact gx_isL hc (br_f (by decide) (br_c (fun _ => h) (fun z => br_f (hy.resolve_left z) h)))
theorem gy_action2 {post : Int32 → SY → Prop} {fz sz os vx vy vw vl vr vo vh : Int32} {rs ru fi ac wd nx ot pt se : Nat → Int32} {c : Nat} {y : Int32} (hc : c < 6) (hy : y < 0 ∨ ¬ y ≤ 3) (h : post (-2) (fz, sz, os, vx, vy, vw, vl, vr, vo, vh, rs, ru, fi, ac, wd, nx, ot, pt, se)) : wpY_action post (fz, sz, os, vx, vy, vw, vl, vr, vo, vh, rs, ru, fi, ac, wd, nx, ot, pt, se) (nI c) y := by
  unfold wpY_action
  dsimp only
  exact gy_isL hc (br_f (by decide) (br_c (fun _ => h) (fun z => br_f (hy.resolve_left z) h)))
theorem gw_lt4 (y : Int32) : y < 4 ↔ y ≤ 3 := by
  rw [Int32.lt_iff_toInt_lt, Int32.le_iff_toInt_le, show (4 : Int32).toInt = 4 by decide, show (3 : Int32).toInt = 3 by decide]
  omega
theorem i_vc_action {k : Nat} {u : SX} {v : SY} (I : i_Rel k u v) (hk : k + 5 ≤ 2560) (v1 : Int32) (v2 : Int32) : wpX_action (fun r u' => wpY_action (fun r' v' => r' = r ∧ i_Rel (k + 5) u' v') v v1 v2) u v1 v2 := by
  obtain ⟨la, lb, ac, g, L, fz, sz, os, vx, vy, vw, vl, vr, vo, vh, rs, ru, fi, wd, nx, ot, pt, se, R, T, F, fs, rfl, rfl, hP, hX, hY⟩ := I
  rcases pk_ix v1 (n := 6) (by decide) with z | z | ⟨c, hc, z⟩
  · exact gx_action1 (Or.inl z) (gy_action1 (Or.inl z) ⟨rfl, gw_rel hP hX hY⟩)
  · exact gx_action1 (Or.inr z) (gy_action1 (Or.inr z) ⟨rfl, gw_rel hP hX hY⟩)
  · subst z
    by_cases y : v2 < 0
    · exact gx_action2 hc (Or.inl y) (gy_action2 hc (Or.inl y) ⟨rfl, gw_rel hP hX hY⟩)
    · by_cases y4 : v2 < 4
      · exact gx_action hc y y4 (gy_action hc y ((gw_lt4 v2).mp y4) ⟨rfl, gw_rel hP hX hY⟩)
      · exact gx_action2 hc (Or.inr y4) (gy_action2 hc (Or.inr (fun k => y4 ((gw_lt4 v2).mpr k))) ⟨rfl, gw_rel hP hX hY⟩)
theorem i_vc_length {k : Nat} {u : SX} {v : SY} (I : i_Rel k u v) (hk : k + 5 ≤ 2560) (v1 : Int32) : wpX_length (fun r => wpY_length (fun r' v' => r' = r ∧ i_Rel (k + 5) u v') v v1) u v1 := by
  obtain ⟨la, lb, ac, g, L, fz, sz, os, vx, vy, vw, vl, vr, vo, vh, rs, ru, fi, wd, nx, ot, pt, se, R, T, F, fs, rfl, rfl, hP, hX, hY⟩ := I
  rcases gw_cases R T F fs v1 with ⟨r, no⟩ | ⟨n, s, w, hn, rfl, e⟩
  · exact gx_length_no (gw_noX hX no) (gy_length_no hP hY no (fun sz wd nx => ⟨rfl, gw_rel hP hX hY⟩))
  · have V := gx_view hP hn (hX.2 n hn) e
    have hs := V.2.1
    exact gx_length V (gy_length hP hY hn e (fun wd nx => ⟨rfl, gw_rel hP hX hY⟩))
theorem i_vc_letterAt {k : Nat} {u : SX} {v : SY} (I : i_Rel k u v) (hk : k + 5 ≤ 2560) (v1 : Int32) (v2 : Int32) : wpX_letterAt (fun r => wpY_letterAt (fun r' v' => r' = r ∧ i_Rel (k + 5) u v') v v1 v2) u v1 v2 := by
  obtain ⟨la, lb, ac, g, L, fz, sz, os, vx, vy, vw, vl, vr, vo, vh, rs, ru, fi, wd, nx, ot, pt, se, R, T, F, fs, rfl, rfl, hP, hX, hY⟩ := I
  rcases gw_cases R T F fs v1 with ⟨r, no⟩ | ⟨n, s, w, hn, rfl, e⟩
  · exact gx_letterAt_no (gw_noX hX no) (gy_letterAt_no hP hY no (fun sz wd nx => ⟨rfl, gw_rel hP hX hY⟩))
  · have V := gx_view hP hn (hX.2 n hn) e
    have hs := V.2.1
    rcases pk_ix v2 (n := s) (by omega) with z | z | ⟨p, hp, z⟩
    · exact gx_letterAtN V (Or.inl z) (gy_letterAtN hP hY hn e (Or.inl z) (fun wd nx => ⟨rfl, gw_rel hP hX hY⟩))
    · exact gx_letterAtN V (Or.inr z) (gy_letterAtN hP hY hn e (Or.inr z) (fun wd nx => ⟨rfl, gw_rel hP hX hY⟩))
    · subst z
      exact gx_letterAt V hp (gy_letterAt hP hY hn e hp (fun wd nx => ⟨rfl, gw_rel hP hX hY⟩))
theorem i_vc_count {k : Nat} {u : SX} {v : SY} (I : i_Rel k u v) (hk : k + 5 ≤ 2560) (v1 : Int32) (v2 : Int32) (v3 : Int32) (v4 : Int32) : wpX_count (fun r => wpY_count (fun r' v' => r' = r ∧ i_Rel (k + 5) u v') v v1 v2 v3 v4) u v1 v2 v3 v4 := by
  obtain ⟨la, lb, ac, g, L, fz, sz, os, vx, vy, vw, vl, vr, vo, vh, rs, ru, fi, wd, nx, ot, pt, se, R, T, F, fs, rfl, rfl, hP, hX, hY⟩ := I
  rcases gw_cases R T F fs v1 with ⟨r, no⟩ | ⟨n, s, w, hn, rfl, e⟩
  · exact gx_count_no (gw_noX hX no) (gy_count_no hP hY no (fun sz wd nx => ⟨rfl, gw_rel hP hX hY⟩))
  · have V := gx_view hP hn (hX.2 n hn) e
    have hs := V.2.1
    rcases pk_ix v2 (n := 6) (by decide) with z | z | ⟨c, hc, z⟩
    · exact gx_countN V (Or.inl z) (gy_countN hP hY hn e (Or.inl z) (fun wd nx => ⟨rfl, gw_rel hP hX hY⟩))
    · exact gx_countN V (Or.inr z) (gy_countN hP hY hn e (Or.inr z) (fun wd nx => ⟨rfl, gw_rel hP hX hY⟩))
    · subst z
      obtain ⟨a, ha, hx, h1⟩ := gw_from v3 s hs
      obtain ⟨b, hb, h2, hy⟩ := gw_to v4 s hs
      refine gx_count V hc ha hx hb hy (gy_count hP hY hn e hc (fun wd nx => ⟨congrArg nI ?_, gw_rel hP hX hY⟩))
      refine gw_cnt_mid hb (fun t k1 k2 => ?_) (fun t k1 k2 => ?_)
      · rw [decide_eq_true ((h1 t (by omega)).mpr k1), decide_eq_true ((h2 t (by omega)).mpr k2), Bool.true_and, Bool.true_and]
      · by_cases y1 : nI t < v3
        · rw [decide_eq_false (fun k => k y1), Bool.false_and, Bool.false_and]
        · have y2 := (h1 t k1).mp y1
          by_cases y3 : v4 ≤ nI t
          · rw [decide_eq_false (p := ¬ v4 ≤ nI t) (fun k => k y3), Bool.and_false, Bool.false_and]
          · exact absurd ⟨y2, (h2 t k1).mp y3⟩ k2
theorem i_vc_find {k : Nat} {u : SX} {v : SY} (I : i_Rel k u v) (hk : k + 5 ≤ 2560) (v1 : Int32) (v2 : Int32) (v3 : Int32) : wpX_find (fun r => wpY_find (fun r' v' => r' = r ∧ i_Rel (k + 5) u v') v v1 v2 v3) u v1 v2 v3 := by
  obtain ⟨la, lb, ac, g, L, fz, sz, os, vx, vy, vw, vl, vr, vo, vh, rs, ru, fi, wd, nx, ot, pt, se, R, T, F, fs, rfl, rfl, hP, hX, hY⟩ := I
  rcases gw_cases R T F fs v1 with ⟨r, no⟩ | ⟨n, s, w, hn, rfl, e⟩
  · exact gx_find_no (gw_noX hX no) (gy_find_no hP hY no (fun sz wd nx => ⟨rfl, gw_rel hP hX hY⟩))
  · have V := gx_view hP hn (hX.2 n hn) e
    have hs := V.2.1
    rcases gw_words 4 v2 with G | ⟨x, m, G, h1⟩
    · exact gx_findN V G (gy_findN hP hY hn e G (fun wd nx pt => ⟨rfl, gw_rel hP hX hY⟩))
    · obtain ⟨a, ha, hx, h2⟩ := gw_from v3 s hs
      refine gx_find V G h1 ha hx (gy_find hP hY hn e G h1 (fun wd nx pt => ⟨congrArg gx_f ?_, gw_rel hP hX hY⟩))
      refine gw_fst_mid (by omega) (fun t k1 k2 => ?_) (fun t k1 k2 => ?_)
      · rw [decide_eq_true ((h2 t (by omega)).mpr k1), Bool.true_and]
        exact decide_eq_decide.mpr ⟨fun k => k.2, fun k => ⟨by omega, k⟩⟩
      · by_cases y1 : nI t < v3
        · rw [decide_eq_false (fun k => k y1), Bool.false_and]
        · have y2 := (h2 t k1).mp y1
          rw [decide_eq_false (p := t + m ≤ s ∧ gw_hor w m t = x) (fun k => by have := k.1; omega), Bool.and_false]
theorem i_vc_occurrences {k : Nat} {u : SX} {v : SY} (I : i_Rel k u v) (hk : k + 5 ≤ 2560) (v1 : Int32) (v2 : Int32) : wpX_occurrences (fun r => wpY_occurrences (fun r' v' => r' = r ∧ i_Rel (k + 5) u v') v v1 v2) u v1 v2 := by
  obtain ⟨la, lb, ac, g, L, fz, sz, os, vx, vy, vw, vl, vr, vo, vh, rs, ru, fi, wd, nx, ot, pt, se, R, T, F, fs, rfl, rfl, hP, hX, hY⟩ := I
  rcases gw_cases R T F fs v1 with ⟨r, no⟩ | ⟨n, s, w, hn, rfl, e⟩
  · exact gx_occurrences_no (gw_noX hX no) (gy_occurrences_no hP hY no (fun sz wd nx => ⟨rfl, gw_rel hP hX hY⟩))
  · have V := gx_view hP hn (hX.2 n hn) e
    have hs := V.2.1
    rcases gw_words 4 v2 with G | ⟨x, m, G, h1⟩
    · exact gx_occN V G (gy_occN hP hY hn e G (fun wd nx pt => ⟨rfl, gw_rel hP hX hY⟩))
    · refine gx_occ V G h1 (gy_occ hP hY hn e G h1 (fun wd nx pt => ⟨congrArg nI ?_, gw_rel hP hX hY⟩))
      refine gw_cnt_mid (a := 0) (b := s + 1 - m) (by omega) (fun t k1 k2 => ?_) (fun t k1 k2 => ?_)
      · exact decide_eq_decide.mpr ⟨fun k => k.2, fun k => ⟨by omega, k⟩⟩
      · exact decide_eq_false (fun k => by have := k.1; omega)
theorem i_vc_run {k : Nat} {u : SX} {v : SY} (I : i_Rel k u v) (hk : k + 5 ≤ 2560) (v1 : Int32) : wpX_run (fun r => wpY_run (fun r' v' => r' = r ∧ i_Rel (k + 5) u v') v v1) u v1 := by
  obtain ⟨la, lb, ac, g, L, fz, sz, os, vx, vy, vw, vl, vr, vo, vh, rs, ru, fi, wd, nx, ot, pt, se, R, T, F, fs, rfl, rfl, hP, hX, hY⟩ := I
  rcases gw_cases R T F fs v1 with ⟨r, no⟩ | ⟨n, s, w, hn, rfl, e⟩
  · exact gx_run_no (gw_noX hX no) (gy_run_no hP hY no (fun sz wd nx => ⟨rfl, gw_rel hP hX hY⟩))
  · have V := gx_view hP hn (hX.2 n hn) e
    have hs := V.2.1
    exact gx_run V (gy_run hP hY hn e (fun wd nx => ⟨rfl, gw_rel hP hX hY⟩))
theorem i_vc_common {k : Nat} {u : SX} {v : SY} (I : i_Rel k u v) (hk : k + 5 ≤ 2560) (v1 : Int32) (v2 : Int32) : wpX_common (fun r => wpY_common (fun r' v' => r' = r ∧ i_Rel (k + 5) u v') v v1 v2) u v1 v2 := by
  obtain ⟨la, lb, ac, g, L, fz, sz, os, vx, vy, vw, vl, vr, vo, vh, rs, ru, fi, wd, nx, ot, pt, se, R, T, F, fs, rfl, rfl, hP, hX, hY⟩ := I
  by_cases z : (v1 < 0 ∨ nI 13 ≤ v1) ∨ (v2 < 0 ∨ nI 13 ≤ v2)
  · exact gx_common1 z (gy_common1 z ⟨rfl, gw_rel hP hX hY⟩)
  · have I13 : ∀ x : Int32, ¬ (x < 0 ∨ nI 13 ≤ x) → ∃ n, n < 13 ∧ x = nI n := fun x hx => (pk_ix x (n := 13) (by decide)).elim (fun k => absurd (Or.inl k) hx) (fun k => k.elim (fun k => absurd (Or.inr k) hx) id)
    obtain ⟨n, hn, rfl⟩ := I13 v1 (fun k => z (Or.inl k))
    obtain ⟨m, hm, rfl⟩ := I13 v2 (fun k => z (Or.inr k))
    cases e : gw_gen R T F fs n with
    | none => exact gx_common2 hn hm (Or.inl ((hX.2 n hn).1 e)) (gy_common2 hP hY hn hm (Or.inl e) (fun sz os wd nx ot => ⟨rfl, gw_rel hP hX hY⟩))
    | some q =>
      obtain ⟨s, w⟩ := q
      cases e' : gw_gen R T F fs m with
      | none => exact gx_common2 hn hm (Or.inr ((hX.2 m hm).1 e')) (gy_common2 hP hY hn hm (Or.inr e') (fun sz os wd nx ot => ⟨rfl, gw_rel hP hX hY⟩))
      | some q' =>
        obtain ⟨s', w'⟩ := q'
        exact gx_common (gx_view hP hn (hX.2 n hn) e) (gx_view hP hm (hX.2 m hm) e') (gy_common hP hY hn e hm e' (fun sz os wd nx ot => ⟨rfl, gw_rel hP hX hY⟩))
theorem i_vc_mirrored {k : Nat} {u : SX} {v : SY} (I : i_Rel k u v) (hk : k + 5 ≤ 2560) (v1 : Int32) : wpX_mirrored (fun r => wpY_mirrored (fun r' v' => r' = r ∧ i_Rel (k + 5) u v') v v1) u v1 := by
  obtain ⟨la, lb, ac, g, L, fz, sz, os, vx, vy, vw, vl, vr, vo, vh, rs, ru, fi, wd, nx, ot, pt, se, R, T, F, fs, rfl, rfl, hP, hX, hY⟩ := I
  rcases gw_cases R T F fs v1 with ⟨r, no⟩ | ⟨n, s, w, hn, rfl, e⟩
  · exact gx_mirrored_no (gw_noX hX no) (gy_mirrored_no hP hY no (fun sz wd nx => ⟨rfl, gw_rel hP hX hY⟩))
  · have V := gx_view hP hn (hX.2 n hn) e
    have hs := V.2.1
    refine gx_mirrored V (fun k => ?_) (fun k => ?_)
    · exact gy_mirrored hP hY hn e (fun _ wd nx => ⟨rfl, gw_rel hP hX hY⟩) (fun ⟨p, h1, h2⟩ => absurd (k p h1) h2)
    · exact gy_mirrored hP hY hn e (fun k' => (by obtain ⟨p, h1, h2⟩ := k; exact absurd (k' p h1) h2)) (fun _ wd nx => ⟨rfl, gw_rel hP hX hY⟩)
theorem i_vc_kinds {k : Nat} {u : SX} {v : SY} (I : i_Rel k u v) (hk : k + 5 ≤ 2560) (v1 : Int32) (v2 : Int32) : wpX_kinds (fun r => wpY_kinds (fun r' v' => r' = r ∧ i_Rel (k + 5) u v') v v1 v2) u v1 v2 := by
  obtain ⟨la, lb, ac, g, L, fz, sz, os, vx, vy, vw, vl, vr, vo, vh, rs, ru, fi, wd, nx, ot, pt, se, R, T, F, fs, rfl, rfl, hP, hX, hY⟩ := I
  rcases gw_cases R T F fs v1 with ⟨r, no⟩ | ⟨n, s, w, hn, rfl, e⟩
  · exact gx_kinds_no (gw_noX hX no) (gy_kinds_no hP hY no (fun sz wd nx => ⟨rfl, gw_rel hP hX hY⟩))
  · have V := gx_view hP hn (hX.2 n hn) e
    have hs := V.2.1
    by_cases z1 : v2 < 1
    · exact gx_kindsN V (Or.inl z1) (gy_kindsN hP hY hn e (Or.inl z1) (fun wd nx => ⟨rfl, gw_rel hP hX hY⟩))
    · by_cases z3 : v2 ≤ 3
      · obtain ⟨d, hd, rfl⟩ := nI_of (x := v2) (fun k => z1 (Int32.lt_trans k (by decide)))
        have d1 : 1 ≤ d := by
          by_cases k : d < 1
          · exact absurd (nI_lt (b := 1) k (by decide)) z1
          · omega
        have d3 : d ≤ 3 := (nI_leI (b := 3) hd (by decide)).mp z3
        refine gx_kinds V d1 d3 (gy_kinds hP hY hn e d1 d3 (fun wd nx se => ⟨congrArg nI ?_, gw_rel hP hX hY⟩))
        exact gw_kinds (fun t => gw_cd w t d) 216 (s + 1 - d) (fun p hp => gw_cd216 d3 (fun i hi => (V.2.2.2 (p + i) (by omega)).1))
      · exact gx_kindsN V (Or.inr z3) (gy_kindsN hP hY hn e (Or.inr z3) (fun wd nx => ⟨rfl, gw_rel hP hX hY⟩))
theorem i_vc_point {k : Nat} {u : SX} {v : SY} (I : i_Rel k u v) (hk : k + 5 ≤ 2560) (v1 : Int32) (v2 : Int32) : wpX_point (fun r => wpY_point (fun r' v' => r' = r ∧ i_Rel (k + 5) u v') v v1 v2) u v1 v2 := by
  obtain ⟨la, lb, ac, g, L, fz, sz, os, vx, vy, vw, vl, vr, vo, vh, rs, ru, fi, wd, nx, ot, pt, se, R, T, F, fs, rfl, rfl, hP, hX, hY⟩ := I
  rcases gw_cases R T F fs v1 with ⟨r, no⟩ | ⟨n, s, w, hn, rfl, e⟩
  · exact gx_point_no (gw_noX hX no) (gy_point_no hP hY no (fun sz wd nx => ⟨rfl, gw_rel hP hX hY⟩))
  · have V := gx_view hP hn (hX.2 n hn) e
    have hs := V.2.1
    obtain ⟨b, hb, h2, hy⟩ := gw_to v2 s hs
    exact gx_point (act := fun p => ac (w p)) V hb (fun _ => rfl) hy (gy_point hP hY hn e hb h2 (fun _ => rfl) (fun vx vy vw vl vr vo vh wd nx => ⟨rfl, gw_rel hP hX hY⟩))
theorem i_vc_direction {k : Nat} {u : SX} {v : SY} (I : i_Rel k u v) (hk : k + 5 ≤ 2560) (v1 : Int32) : wpX_direction (fun r => wpY_direction (fun r' v' => r' = r ∧ i_Rel (k + 5) u v') v v1) u v1 := by
  obtain ⟨la, lb, ac, g, L, fz, sz, os, vx, vy, vw, vl, vr, vo, vh, rs, ru, fi, wd, nx, ot, pt, se, R, T, F, fs, rfl, rfl, hP, hX, hY⟩ := I
  rcases gw_cases R T F fs v1 with ⟨r, no⟩ | ⟨n, s, w, hn, rfl, e⟩
  · exact gx_direction_no (gw_noX hX no) (gy_direction_no hP hY no (fun sz wd nx => ⟨rfl, gw_rel hP hX hY⟩))
  · have V := gx_view hP hn (hX.2 n hn) e
    have hs := V.2.1
    exact gx_direction (act := fun p => ac (w p)) V (fun _ => rfl) (gy_direction hP hY hn e (fun _ => rfl) (fun vx vy vw vl vr vo vh wd nx => ⟨rfl, gw_rel hP hX hY⟩))
theorem i_vc_extent {k : Nat} {u : SX} {v : SY} (I : i_Rel k u v) (hk : k + 5 ≤ 2560) (v1 : Int32) : wpX_extent (fun r => wpY_extent (fun r' v' => r' = r ∧ i_Rel (k + 5) u v') v v1) u v1 := by
  obtain ⟨la, lb, ac, g, L, fz, sz, os, vx, vy, vw, vl, vr, vo, vh, rs, ru, fi, wd, nx, ot, pt, se, R, T, F, fs, rfl, rfl, hP, hX, hY⟩ := I
  rcases gw_cases R T F fs v1 with ⟨r, no⟩ | ⟨n, s, w, hn, rfl, e⟩
  · exact gx_extent_no (gw_noX hX no) (gy_extent_no hP hY no (fun sz wd nx => ⟨rfl, gw_rel hP hX hY⟩))
  · have V := gx_view hP hn (hX.2 n hn) e
    have hs := V.2.1
    exact gx_extent (act := fun p => ac (w p)) V (fun _ => rfl) (gy_extent hP hY hn e (fun _ => rfl) (fun vx vy vw vl vr vo vh wd nx => ⟨rfl, gw_rel hP hX hY⟩))
