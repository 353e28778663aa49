theorem gw_rh_s (w : Nat → Nat) (p : Nat) : gw_rh w (p + 1) = if 0 < p ∧ w p = w (p - 1) then gw_rh w p + 1 else 1 := rfl
theorem gw_gr_s (g : Nat → Int32) (p : Nat) : gw_gr g (p + 1) = gw_mx (gw_gr g p) (g (p + 1)) := rfl
theorem gw_le_s (g : Nat → Int32) (p : Nat) : gw_le g (p + 1) = gw_mn (gw_le g p) (g (p + 1)) := rfl
theorem gx_rn {post : Int32 → Prop} {la lb ac g L : Nat → Int32} {n s : Nat} {w : Nat → Nat} (V : gx_V g L n s w) (h : post (gw_gr (gw_rh w) s)) : ∀ d p b, p + d = s → (p = 0 → b = -1) → (0 < p → b = nI (w (p - 1))) → wX_run_23 post (nI n) la lb ac g L 39000 (d + 1) (gw_gr (gw_rh w) p) (gw_rh w p) b (nI p) := by
  intro d
  have hs := V.2.1
  have hn := V.1
  induction d with
  | zero =>
    intro p b hp _ _
    rw [wX_run_23]
    dsimp only
    rw [nI_clamp (by omega), V.2.2.1]
    have e : p = s := by omega
    subst e
    exact ⟨vp_in_nI hn (by omega), br_t (nI_le (by omega) (by omega)) h⟩
  | succ d ih =>
    intro p b hp b0 b1
    rw [wX_run_23]
    dsimp only
    rw [nI_clamp (by omega), V.2.2.1]
    refine ⟨vp_in_nI hn (by omega), br_f (nI_ge (by omega) (by omega)) (gx_letterOf V (by omega) ?_)⟩
    have hw := (V.2.2.2 p (by omega)).1
    have K := ih (p + 1) (nI (w p)) (by omega) (fun z => by omega) (fun _ => rfl)
    rw [gw_gr_s] at K
    by_cases z : 0 < p ∧ w p = w (p - 1)
    · have e : gw_rh w (p + 1) = gw_rh w p + 1 := by rw [gw_rh_s, if_pos z]
      rw [e] at K
      refine br_t (by rw [b1 z.1, z.2]) ?_
      unfold wX_run_58
      exact gx_larger (nm_r (nI_1 _) K)
    · have e : gw_rh w (p + 1) = 1 := by rw [gw_rh_s, if_neg z]
      rw [e] at K
      refine br_f (fun k => ?_) ?_
      · by_cases y : 0 < p
        · have hw1 := (V.2.2.2 (p - 1) (by omega)).1
          rw [b1 y] at k
          exact z ⟨y, (nI_eq (by omega) (by omega)).mp k⟩
        · rw [b0 (by omega)] at k
          exact gw_m1 (by omega) k
      · unfold wX_run_58
        exact gx_larger (nm_r (nI_1 _) K)
theorem gx_run {post : Int32 → Prop} {la lb ac g L : Nat → Int32} {n s : Nat} {w : Nat → Nat} (V : gx_V g L n s w) (h : post (gw_gr (gw_rh w) s)) : wpX_run post (la, lb, ac, g, L, 39000) (nI n) := by
  unfold wpX_run
  dsimp only
  exact gx_ok V (br_t rfl ⟨s + 1, gx_rn V h s 0 (-1) (by omega) (fun _ => rfl) (fun k => by omega)⟩)
theorem gx_cm {post : Int32 → Prop} {la lb ac g L : Nat → Int32} {n m s s' e : Nat} {w w' : Nat → Nat} (V : gx_V g L n s w) (V' : gx_V g L m s' w') (h1 : e ≤ s) (h2 : e ≤ s') : ∀ d p, p + d = e → post (nI (gw_pre w w' d p)) → wX_common_58 post (nI n) (nI m) (nI e) la lb ac g L 39000 (d + 1) (nI p) := by
  intro d
  have hs := V.2.1
  induction d with
  | zero =>
    intro p hp h
    rw [wX_common_58]
    dsimp only
    exact br_t (nI_le (by omega) (by omega)) h
  | succ d ih =>
    intro p hp h
    rw [wX_common_58]
    dsimp only
    refine br_f (nI_ge (by omega) (by omega)) (gx_letterOf V (by omega) (gx_letterOf V' (by omega) ?_))
    have hw := (V.2.2.2 p (by omega)).1
    have hw' := (V'.2.2.2 p (by omega)).1
    by_cases z : w p = w' p
    · rw [gw_pre_t z] at h
      exact br_t (by rw [z]) (nm_r (nI_1 _) (ih (p + 1) (by omega) h))
    · rw [gw_pre_f z] at h
      exact br_f (fun k => z ((nI_eq (by omega) (by omega)).mp k)) h
def gw_min (a b : Nat) : Nat := if a ≤ b then a else b
theorem gw_min_le (a b : Nat) : gw_min a b ≤ a ∧ gw_min a b ≤ b := by
  unfold gw_min
  split <;> omega
theorem gx_common {post : Int32 → Prop} {la lb ac g L : Nat → Int32} {n m s s' : Nat} {w w' : Nat → Nat} (V : gx_V g L n s w) (V' : gx_V g L m s' w') (h : post (nI (gw_pre w w' (gw_min s s') 0))) : wpX_common post (la, lb, ac, g, L, 39000) (nI n) (nI m) := by
  unfold wpX_common
  dsimp only
  have hn := V.1
  have hs := V.2.1
  have hn' := V'.1
  have hs' := V'.2.1
  refine gx_isG hn (br_f (by decide) (gx_isG hn' (br_f (by decide) ?_)))
  rw [nI_clamp (by omega), nI_clamp (by omega), V.2.2.1, V'.2.2.1]
  refine ⟨vp_in_nI hn (by omega), br_f (gw_m1 (by omega)) ⟨vp_in_nI hn' (by omega), br_f (gw_m1 (by omega)) ⟨vp_in_nI hn (by omega), vp_in_nI hn' (by omega), gx_smaller ?_⟩⟩⟩
  have e : gw_mn (nI s) (nI s') = nI (gw_min s s') := by
    unfold gw_mn gw_min
    by_cases z : s ≤ s'
    · rw [if_pos z]
      by_cases y : nI s' ≤ nI s
      · rw [if_pos y]
        have := (nI_leI (by omega) (by omega)).mp y
        exact congrArg nI (by omega)
      · rw [if_neg y]
    · rw [if_neg z, if_pos (nI_le (by omega) (by omega))]
  rw [e]
  have k := gw_min_le s s'
  exact ⟨gw_min s s' + 1, gx_cm V V' k.1 k.2 (gw_min s s') 0 (by omega) h⟩
theorem gx_common1 {post : Int32 → Prop} {la lb ac g L : Nat → Int32} {x y : Int32} (hx : (x < 0 ∨ nI 13 ≤ x) ∨ (y < 0 ∨ nI 13 ≤ y)) (h : post (-1)) : wpX_common post (la, lb, ac, g, L, 39000) x y := by
  unfold wpX_common
  dsimp only
  rcases pk_ix x (n := 13) (by decide) with z | z | ⟨n, hn, z⟩
  · exact gx_isGn (Or.inl z) (br_t rfl h)
  · exact gx_isGn (Or.inr z) (br_t rfl h)
  · subst z
    refine gx_isG hn (br_f (by decide) ?_)
    refine gx_isGn (hx.resolve_left (fun k => ?_)) (br_t rfl h)
    rcases k with k | k
    · exact nI_pos (by omega) k
    · exact nI_ge (b := 13) hn (by decide) k
theorem gx_common2 {post : Int32 → Prop} {la lb ac g L : Nat → Int32} {n m : Nat} (hn : n < 13) (hm : m < 13) (hL : L n = -1 ∨ L m = -1) (h : post (-2)) : wpX_common post (la, lb, ac, g, L, 39000) (nI n) (nI m) := by
  unfold wpX_common
  dsimp only
  refine gx_isG hn (br_f (by decide) (gx_isG hm (br_f (by decide) ?_)))
  rw [nI_clamp (by omega), nI_clamp (by omega)]
  refine ⟨vp_in_nI hn (by omega), br_c (fun _ => h) (fun z => ?_)⟩
  exact ⟨vp_in_nI hm (by omega), br_t (hL.resolve_left z) h⟩
theorem gx_mi {post : Int32 → Prop} {la lb ac g L : Nat → Int32} {n s : Nat} {w : Nat → Nat} (V : gx_V g L n s w) (H1 : (∀ p, p < s → w p = w (s - 1 - p)) → post 1) (H0 : (∃ p, p < s ∧ ¬ w p = w (s - 1 - p)) → post 0) :
    ∀ d p, p + d = s → (∀ t, t < p → t < s → w t = w (s - 1 - t) ∧ w (s - 1 - t) = w t) → wX_mirrored_24 post (nI n) (nI s - 1) la lb ac g L 39000 (d + 1) (nI p) := by
  intro d
  have hs := V.2.1
  have E : ∀ p, p < s → nI s - 1 - nI p = nI (s - 1 - p) := by
    intro p hp
    obtain ⟨q, hq⟩ : ∃ q, s = q + 1 := ⟨s - 1, by omega⟩
    rw [hq, nI_pred, pk_sub (by omega), Nat.add_sub_cancel]
  have F : ∀ p, (∀ t, t < p → t < s → w t = w (s - 1 - t) ∧ w (s - 1 - t) = w t) → s ≤ 2 * p + 1 → ∀ t, t < s → w t = w (s - 1 - t) := by
    intro p h hp t ht
    by_cases z : t < p
    · exact (h t z ht).1
    · by_cases y : s - 1 - t < p
      · have := (h (s - 1 - t) y (by omega)).2
        rw [show s - 1 - (s - 1 - t) = t by omega] at this
        exact this
      · rw [show s - 1 - t = t by omega]
  induction d with
  | zero =>
    intro p hp h
    rw [wX_mirrored_24]
    dsimp only
    have e : p = s := by omega
    subst e
    refine br_t ?_ (H1 (F p h (by omega)))
    rw [Int32.le_iff_toInt_le, Int32.toInt_sub, Int32.toInt_sub, nI_toInt (by omega), show (1 : Int32).toInt = 1 by decide]
    have e1 : ((p : Int) - 1).bmod (2 ^ 32) = (p : Int) - 1 := Int.bmod_eq_of_le (by omega) (by omega)
    rw [e1, Int.bmod_eq_of_le (by omega) (by omega)]
    omega
  | succ d ih =>
    intro p hp h
    rw [wX_mirrored_24]
    dsimp only
    rw [E p (by omega)]
    by_cases z : s - 1 - p ≤ p
    · exact br_t (nI_le z (by omega)) (H1 (F p h (by omega)))
    · refine br_f (nI_ge (by omega) (by omega)) (gx_letterOf V (by omega) (gx_letterOf V (by omega) ?_))
      have hw := (V.2.2.2 p (by omega)).1
      have hw' := (V.2.2.2 (s - 1 - p) (by omega)).1
      by_cases y : w p = w (s - 1 - p)
      · refine br_t (by rw [y]) (nm_r (nI_1 _) (ih (p + 1) (by omega) (fun t ht hts => ?_)))
        by_cases e : t = p
        · rw [e]; exact ⟨y, y.symm⟩
        · exact h t (by omega) hts
      · exact br_f (fun k => y ((nI_eq (by omega) (by omega)).mp k)) (H0 ⟨p, by omega, y⟩)
theorem gx_mirrored {post : Int32 → Prop} {la lb ac g L : Nat → Int32} {n s : Nat} {w : Nat → Nat} (V : gx_V g L n s w) (H1 : (∀ p, p < s → w p = w (s - 1 - p)) → post 1) (H0 : (∃ p, p < s ∧ ¬ w p = w (s - 1 - p)) → post 0) : wpX_mirrored post (la, lb, ac, g, L, 39000) (nI n) := by
  unfold wpX_mirrored
  dsimp only
  have hn := V.1
  refine gx_ok V (br_t rfl ?_)
  rw [nI_clamp (by omega), V.2.2.1]
  exact ⟨vp_in_nI hn (by omega), nm_e ⟨s + 1, gx_mi V H1 H0 s 0 (by omega) (fun t ht => absurd ht (Nat.not_lt_zero t))⟩⟩
theorem gx_kd {post : Int32 → Prop} {la lb ac g L : Nat → Int32} {n s k : Nat} {w : Nat → Nat} (V : gx_V g L n s w) (hk : k ≤ 3) : ∀ d p f, p + d = s + 1 - k → post (nI (f + gw_cnt (fun q => !(gw_S (fun t => gw_cd w t k) q (gw_cd w q k))) d p)) → wX_kinds_31 post (nI n) (nI k) la lb ac g L 39000 (d + 1) (nI f) (nI p) := by
  intro d
  have hs := V.2.1
  have hn := V.1
  induction d with
  | zero =>
    intro p f hp h
    rw [wX_kinds_31]
    dsimp only
    rw [nI_clamp (by omega), V.2.2.1]
    exact ⟨vp_in_nI hn (by omega), br_t ((gw_slt (by omega) (by omega) (by omega)).mpr (by omega)) h⟩
  | succ d ih =>
    intro p f hp h
    rw [wX_kinds_31]
    dsimp only
    rw [nI_clamp (by omega), V.2.2.1]
    have hp1 : p + k ≤ s := by omega
    have L6 : ∀ t, t + k ≤ s → ∀ i, i < k → w (t + i) < 6 := fun t ht i hi => (V.2.2.2 (t + i) (by omega)).1
    have hb : gw_hor w k p < 7 ^ k := gw_hor_lt k p (L6 p hp1)
    have hb2 : 7 ^ k ≤ 7 ^ 4 := Nat.pow_le_pow_right (by decide) (by omega)
    have hb3 : gw_hor w k p < 2 ^ 31 := Nat.lt_of_lt_of_le hb (Nat.le_trans hb2 (by decide))
    have C : ∀ t, t + k ≤ s → (gw_hor w k t = gw_hor w k p ↔ gw_cd w t k = gw_cd w p k) := fun t ht => (gw_hor_inj k t p (L6 t ht) (L6 p hp1)).trans (gw_cd_inj k (L6 t ht) (L6 p hp1)).symm
    refine ⟨vp_in_nI hn (by omega), br_f (fun k => by have := (gw_slt (by omega) (by omega) (by omega)).mp k; omega) (gx_wordOf V (by omega) ?_)⟩
    refine gx_placeOf (a := 0) V hb3 (by omega) (by decide) (by decide) ?_
    obtain ⟨r, e⟩ := gw_fst_ex (P := fun q => decide (gw_hor w k q = gw_hor w k p)) (p := p) (decide_eq_true rfl) (s + 1 - k - 0) 0 (Nat.zero_le _) (by omega)
    obtain ⟨r1, r2, r3, r4⟩ := gw_fst_some _ _ _ e
    rw [e]
    show (nI r = nI p → _) ∧ (¬ nI r = nI p → _)
    have r3' : gw_hor w k r = gw_hor w k p := of_decide_eq_true r3
    by_cases z : r = p
    · have y : gw_S (fun t => gw_cd w t k) p (gw_cd w p k) = false := by
        refine Bool.eq_false_iff.mpr (fun m => ?_)
        obtain ⟨t, ht, et⟩ := (gw_S_mem _ _ _).mp m
        have h4 := r4 t (Nat.zero_le _) (by omega)
        exact of_decide_eq_false h4 ((C t (by omega)).mpr et)
      rw [gw_cnt_t (by rw [y]; rfl)] at h
      refine br_t (by rw [z]) (nm_r (nI_1 _) (nm_r (nI_1 _) (ih (p + 1) (f + 1) (by omega) ?_)))
      rw [show ∀ m, f + 1 + m = f + (m + 1) by intro m; omega]
      exact h
    · have rp : r < p := by
        by_cases y : p < r
        · have h4 := r4 p (Nat.zero_le _) y
          exact absurd rfl (of_decide_eq_false h4)
        · omega
      have y : gw_S (fun t => gw_cd w t k) p (gw_cd w p k) = true := (gw_S_mem _ _ _).mpr ⟨r, rp, (C r (by omega)).mp r3'⟩
      rw [gw_cnt_f (by rw [y]; decide)] at h
      exact br_f (fun k => z ((nI_eq (by omega) (by omega)).mp k)) (nm_r (nI_1 _) (ih (p + 1) f (by omega) h))
theorem gx_kinds {post : Int32 → Prop} {la lb ac g L : Nat → Int32} {n s k : Nat} {w : Nat → Nat} (V : gx_V g L n s w) (h1 : 1 ≤ k) (hk : k ≤ 3) (h : post (nI (gw_cnt (fun q => !(gw_S (fun t => gw_cd w t k) q (gw_cd w q k))) (s + 1 - k) 0))) : wpX_kinds post (la, lb, ac, g, L, 39000) (nI n) (nI k) := by
  unfold wpX_kinds
  dsimp only
  refine gx_ok V (br_t rfl (br_f (nI_nlt (b := 1) h1 (by omega)) (br_t (nI_le (b := 3) hk (by decide)) ⟨s + 1 - k + 1, gx_kd V hk (s + 1 - k) 0 0 (by omega) ?_⟩)))
  rw [Nat.zero_add]
  exact h
theorem gx_kindsN {post : Int32 → Prop} {la lb ac g L : Nat → Int32} {n s : Nat} {x : Int32} {w : Nat → Nat} (V : gx_V g L n s w) (hx : x < 1 ∨ ¬ x ≤ 3) (h : post (-3)) : wpX_kinds post (la, lb, ac, g, L, 39000) (nI n) x := by
  unfold wpX_kinds
  dsimp only
  refine gx_ok V (br_t rfl ?_)
  by_cases z : x < 1
  · exact br_t z h
  · exact br_f z (br_f (hx.resolve_left z) h)
theorem gx_actionOf {post : Int32 → Prop} {la lb ac g L : Nat → Int32} {n s p : Nat} {w : Nat → Nat} (V : gx_V g L n s w) (hp : p < s) (h : post (ac (w p))) : wpX_actionOf post (la, lb, ac, g, L, 39000) (nI n) (nI p) := by
  unfold wpX_actionOf
  dsimp only
  have hw := (V.2.2.2 p hp).1
  refine gx_letterOf V hp ?_
  rw [nI_clamp (by omega)]
  exact ⟨vp_in_nI hw (by omega), h⟩
theorem gx_stepX {post : Int32 → Prop} {a d : Int32} (h : post (gw_tx a d)) : wpX_stepOfX post a d := by
  unfold wpX_stepOfX
  unfold gw_tx at h
  refine br_c (fun z => ?_) (fun z => ?_)
  · rw [if_pos z] at h
    refine br_c (fun y => ?_) (fun y => ?_)
    · rw [if_pos y] at h; exact h
    · rw [if_neg y] at h
      refine br_c (fun x => ?_) (fun x => ?_)
      · rw [if_pos x] at h; exact h
      · rw [if_neg x] at h; exact h
  · rw [if_neg z] at h; exact h
theorem gx_stepY {post : Int32 → Prop} {a d : Int32} (h : post (gw_ty a d)) : wpX_stepOfY post a d := by
  unfold wpX_stepOfY
  unfold gw_ty at h
  refine br_c (fun z => ?_) (fun z => ?_)
  · rw [if_pos z] at h
    refine br_c (fun y => ?_) (fun y => ?_)
    · rw [if_pos y] at h; exact h
    · rw [if_neg y] at h
      refine br_c (fun x => ?_) (fun x => ?_)
      · rw [if_pos x] at h; exact h
      · rw [if_neg x] at h; exact h
  · rw [if_neg z] at h; exact h
theorem gx_turned {post : Int32 → Prop} {a d : Int32} (h : post (gw_td a d)) : wpX_turned post a d := by
  unfold wpX_turned
  unfold gw_td at h
  refine br_c (fun z => ?_) (fun z => ?_)
  · rw [if_pos z] at h
    exact ⟨by decide, h⟩
  · rw [if_neg z] at h
    refine br_c (fun y => ?_) (fun y => ?_)
    · rw [if_pos y] at h
      have e : d + 4 - 1 = d + 3 := by rw [Int32.sub_eq_add_neg, Int32.add_assoc]; rfl
      rw [e]
      exact ⟨by decide, h⟩
    · rw [if_neg y] at h; exact h
theorem gx_pt {post : Int32 → Prop} {la lb ac g L : Nat → Int32} {n s e : Nat} {w : Nat → Nat} {act : Nat → Int32} (V : gx_V g L n s w) (he : e ≤ s) (ha : ∀ p, act p = ac (w p)) (h : post (8192 * (gw_x act e + 4096) + gw_y act e + 4096)) : ∀ d p, p + d = e → wX_point_36 post (nI n) (nI e) la lb ac g L 39000 (d + 1) (gw_x act p) (gw_y act p) (gw_d act p) (nI p) := by
  intro d
  have hs := V.2.1
  induction d with
  | zero =>
    intro p hp
    rw [wX_point_36]
    dsimp only
    have q : p = e := by omega
    subst q
    exact br_t (nI_le (by omega) (by omega)) h
  | succ d ih =>
    intro p hp
    rw [wX_point_36]
    dsimp only
    refine br_f (nI_ge (by omega) (by omega)) (gx_actionOf V (by omega) ?_)
    rw [← ha p]
    exact gx_stepX (nm_e (gx_stepY (nm_e (gx_turned (nm_r (nI_1 _) (ih (p + 1) (by omega)))))))
theorem gx_dr {post : Int32 → Prop} {la lb ac g L : Nat → Int32} {n s : Nat} {w : Nat → Nat} {act : Nat → Int32} (V : gx_V g L n s w) (ha : ∀ p, act p = ac (w p)) (h : post (gw_d act s)) : ∀ d p, p + d = s → wX_direction_17 post (nI n) la lb ac g L 39000 (d + 1) (gw_d act p) (nI p) := by
  intro d
  have hs := V.2.1
  have hn := V.1
  induction d with
  | zero =>
    intro p hp
    rw [wX_direction_17]
    dsimp only
    rw [nI_clamp (by omega), V.2.2.1]
    have q : p = s := by omega
    subst q
    exact ⟨vp_in_nI hn (by omega), br_t (nI_le (by omega) (by omega)) h⟩
  | succ d ih =>
    intro p hp
    rw [wX_direction_17]
    dsimp only
    rw [nI_clamp (by omega), V.2.2.1]
    refine ⟨vp_in_nI hn (by omega), br_f (nI_ge (by omega) (by omega)) (gx_actionOf V (by omega) ?_)⟩
    rw [← ha p]
    exact gx_turned (nm_r (nI_1 _) (ih (p + 1) (by omega)))
theorem gx_ex {post : Int32 → Prop} {la lb ac g L : Nat → Int32} {n s : Nat} {w : Nat → Nat} {act : Nat → Int32} (V : gx_V g L n s w) (ha : ∀ p, act p = ac (w p))
    (h : post (4096 * (gw_gr (gw_x act) s - gw_le (gw_x act) s) + (gw_gr (gw_y act) s - gw_le (gw_y act) s))) : ∀ d p, p + d = s → wX_extent_35 post (nI n) la lb ac g L 39000 (d + 1) (gw_x act p) (gw_le (gw_x act) p) (gw_gr (gw_x act) p) (gw_y act p) (gw_le (gw_y act) p) (gw_gr (gw_y act) p) (gw_d act p) (nI p) := by
  intro d
  have hs := V.2.1
  have hn := V.1
  induction d with
  | zero =>
    intro p hp
    rw [wX_extent_35]
    dsimp only
    rw [nI_clamp (by omega), V.2.2.1]
    have q : p = s := by omega
    subst q
    exact ⟨vp_in_nI hn (by omega), br_t (nI_le (by omega) (by omega)) h⟩
  | succ d ih =>
    intro p hp
    rw [wX_extent_35]
    dsimp only
    rw [nI_clamp (by omega), V.2.2.1]
    refine ⟨vp_in_nI hn (by omega), br_f (nI_ge (by omega) (by omega)) (gx_actionOf V (by omega) ?_)⟩
    rw [← ha p]
    exact gx_stepX (nm_e (gx_stepY (nm_e (gx_turned (gx_smaller (gx_larger (gx_smaller (gx_larger (nm_r (nI_1 _) (ih (p + 1) (by omega)))))))))))
theorem gx_point {post : Int32 → Prop} {la lb ac g L : Nat → Int32} {n s e : Nat} {y : Int32} {w : Nat → Nat} {act : Nat → Int32} (V : gx_V g L n s w) (he : e ≤ s) (ha : ∀ p, act p = ac (w p)) (hy : gw_mn y (nI s) = nI e ∨ (e = 0 ∧ gw_mn y (nI s) < 0)) (h : post (8192 * (gw_x act e + 4096) + gw_y act e + 4096)) : wpX_point post (la, lb, ac, g, L, 39000) (nI n) y := by
  unfold wpX_point
  dsimp only
  have hn := V.1
  refine gx_ok V (br_t rfl ?_)
  rw [nI_clamp (by omega), V.2.2.1]
  refine ⟨vp_in_nI hn (by omega), gx_smaller ?_⟩
  rcases hy with hy | ⟨e0, hy⟩
  · rw [hy]
    exact ⟨e + 1, gx_pt V he ha h e 0 (by omega)⟩
  · refine ⟨1, ?_⟩
    rw [wX_point_36]
    dsimp only
    subst e0
    exact br_t (Int32.le_of_lt hy) h
theorem gx_direction {post : Int32 → Prop} {la lb ac g L : Nat → Int32} {n s : Nat} {w : Nat → Nat} {act : Nat → Int32} (V : gx_V g L n s w) (ha : ∀ p, act p = ac (w p)) (h : post (gw_d act s)) : wpX_direction post (la, lb, ac, g, L, 39000) (nI n) := by
  unfold wpX_direction
  dsimp only
  exact gx_ok V (br_t rfl ⟨s + 1, gx_dr V ha h s 0 (by omega)⟩)
theorem gx_extent {post : Int32 → Prop} {la lb ac g L : Nat → Int32} {n s : Nat} {w : Nat → Nat} {act : Nat → Int32} (V : gx_V g L n s w) (ha : ∀ p, act p = ac (w p))
    (h : post (4096 * (gw_gr (gw_x act) s - gw_le (gw_x act) s) + (gw_gr (gw_y act) s - gw_le (gw_y act) s))) : wpX_extent post (la, lb, ac, g, L, 39000) (nI n) := by
  unfold wpX_extent
  dsimp only
  exact gx_ok V (br_t rfl ⟨s + 1, gx_ex V ha h s 0 (by omega)⟩)
