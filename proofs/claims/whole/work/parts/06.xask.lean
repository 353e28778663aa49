def gx_No (L : Nat → Int32) (x r : Int32) : Prop := ((x < 0 ∨ nI 13 ≤ x) ∧ r = -1) ∨ (∃ n, n < 13 ∧ x = nI n ∧ L n = -1 ∧ r = -2)
theorem gx_No_ne {L : Nat → Int32} {x r : Int32} (h : gx_No L x r) : ¬ r = 0 := by
  rcases h with ⟨_, e⟩ | ⟨_, _, _, _, e⟩
  · rw [e]; decide
  · rw [e]; decide
theorem gx_isG {post : Int32 → Prop} {n : Nat} (hn : n < 13) (h : post 1) : wpX_isGeneration post (nI n) := by
  unfold wpX_isGeneration
  exact br_f (nI_pos (by omega)) (br_f (nI_ge (b := 13) hn (by decide)) h)
theorem gx_isGn {post : Int32 → Prop} {x : Int32} (hx : x < 0 ∨ nI 13 ≤ x) (h : post 0) : wpX_isGeneration post x := by
  unfold wpX_isGeneration
  by_cases z : x < 0
  · exact br_t z h
  · exact br_f z (br_t (hx.resolve_left z) h)
theorem gx_ref {post : Int32 → Prop} {la lb ac g L : Nat → Int32} {x r : Int32} (h : gx_No L x r) (hp : post r) : wpX_refusalOf post (la, lb, ac, g, L, 39000) x := by
  unfold wpX_refusalOf
  dsimp only
  rcases h with ⟨hx, e⟩ | ⟨n, hn, ex, hl, e⟩
  · subst e
    exact gx_isGn hx (br_t rfl hp)
  · subst e ex
    refine gx_isG hn (br_f (by decide) ?_)
    rw [nI_clamp (by omega), hl]
    exact ⟨vp_in_nI hn (by omega), br_t rfl hp⟩
theorem gx_ok {post : Int32 → Prop} {la lb ac g L : Nat → Int32} {n s : Nat} {w : Nat → Nat} (V : gx_V g L n s w) (hp : post 0) : wpX_refusalOf post (la, lb, ac, g, L, 39000) (nI n) := by
  unfold wpX_refusalOf
  dsimp only
  have hn := V.1
  have hs := V.2.1
  refine gx_isG hn (br_f (by decide) ?_)
  rw [nI_clamp (by omega), V.2.2.1]
  exact ⟨vp_in_nI hn (by omega), br_f (gw_m1 (by omega)) hp⟩
theorem gx_larger {post : Int32 → Prop} {a b : Int32} (h : post (gw_mx a b)) : wpX_larger post a b := by
  unfold wpX_larger
  unfold gw_mx at h
  by_cases z : a ≤ b
  · rw [if_pos z] at h; exact br_t z h
  · rw [if_neg z] at h; exact br_f z h
theorem gx_smaller {post : Int32 → Prop} {a b : Int32} (h : post (gw_mn a b)) : wpX_smaller post a b := by
  unfold wpX_smaller
  unfold gw_mn at h
  by_cases z : b ≤ a
  · rw [if_pos z] at h; exact br_t z h
  · rw [if_neg z] at h; exact br_f z h
theorem gx_length {post : Int32 → Prop} {la lb ac g L : Nat → Int32} {n s : Nat} {w : Nat → Nat} (V : gx_V g L n s w) (h : post (nI s)) : wpX_length post (la, lb, ac, g, L, 39000) (nI n) := by
  unfold wpX_length
  dsimp only
  have hn := V.1
  refine gx_ok V (br_t rfl ?_)
  rw [nI_clamp (by omega), V.2.2.1]
  exact ⟨vp_in_nI hn (by omega), h⟩
theorem gx_letterAt {post : Int32 → Prop} {la lb ac g L : Nat → Int32} {n s p : Nat} {w : Nat → Nat} (V : gx_V g L n s w) (hp : p < s) (h : post (nI (w p))) : wpX_letterAt post (la, lb, ac, g, L, 39000) (nI n) (nI p) := by
  unfold wpX_letterAt
  dsimp only
  have hn := V.1
  have hs := V.2.1
  refine gx_ok V (br_t rfl (br_f (nI_pos (by omega)) ?_))
  rw [nI_clamp (by omega), V.2.2.1]
  exact ⟨vp_in_nI hn (by omega), br_t (nI_lt hp (by omega)) (gx_letterOf V hp h)⟩
theorem gx_letterAtN {post : Int32 → Prop} {la lb ac g L : Nat → Int32} {n s : Nat} {w : Nat → Nat} {x : Int32} (V : gx_V g L n s w) (hx : x < 0 ∨ nI s ≤ x) (h : post (-3)) : wpX_letterAt post (la, lb, ac, g, L, 39000) (nI n) x := by
  unfold wpX_letterAt
  dsimp only
  have hn := V.1
  have hs := V.2.1
  refine gx_ok V (br_t rfl ?_)
  by_cases z : x < 0
  · exact br_t z h
  · rw [nI_clamp (by omega), V.2.2.1]
    exact br_f z ⟨vp_in_nI hn (by omega), br_f (Int32.not_lt.mpr (hx.resolve_left z)) h⟩
theorem gx_cnt {post : Int32 → Prop} {la lb ac g L : Nat → Int32} {n s e c : Nat} {w : Nat → Nat} (V : gx_V g L n s w) (he : e ≤ s) (hc : c < 6) : ∀ d p f, p + d = e → post (nI (f + gw_cnt (fun q => decide (w q = c)) d p)) → wX_count_52 post (nI n) (nI c) (nI e) la lb ac g L 39000 (d + 1) (nI f) (nI p) := by
  intro d
  have hs := V.2.1
  induction d with
  | zero =>
    intro p f hp h
    rw [wX_count_52]
    dsimp only
    exact br_t (nI_le (by omega) (by omega)) h
  | succ d ih =>
    intro p f hp h
    rw [wX_count_52]
    dsimp only
    refine br_f (nI_ge (by omega) (by omega)) (gx_letterOf V (by omega) ?_)
    have hw := (V.2.2.2 p (by omega)).1
    by_cases z : w p = c
    · rw [gw_cnt_t (decide_eq_true z)] at h
      refine br_t (by rw [z]) (nm_r (nI_1 _) (nm_r (nI_1 _) (ih (p + 1) (f + 1) (by omega) ?_)))
      rw [show f + 1 + gw_cnt (fun q => decide (w q = c)) d (p + 1) = f + (gw_cnt (fun q => decide (w q = c)) d (p + 1) + 1) by omega]
      exact h
    · rw [gw_cnt_f (by rw [decide_eq_true_eq]; exact z)] at h
      refine br_f (fun k => z ((nI_eq (by omega) (by omega)).mp k)) (nm_r (nI_1 _) (ih (p + 1) f (by omega) h))
theorem gw_from (x : Int32) (s : Nat) (hs : s ≤ 3000) : ∃ a, a < 2 ^ 31 ∧ gw_mx x 0 = nI a ∧ ∀ t, t < s → (¬ nI t < x ↔ a ≤ t) := by
  unfold gw_mx
  by_cases z : x ≤ 0
  · refine ⟨0, by omega, by rw [if_pos z]; rfl, fun t ht => ⟨fun _ => Nat.zero_le _, fun _ => Int32.not_lt.mpr (Int32.le_trans z (nI_pos' (by omega)))⟩⟩
  · obtain ⟨a, ha, e⟩ := nI_of (x := x) (Int32.not_lt.mpr (Int32.le_of_lt (Int32.not_le.mp z)))
    refine ⟨a, ha, by rw [if_neg z]; exact e, fun t ht => ?_⟩
    rw [e, nI_ltI (by omega) ha]
    omega
theorem gw_to (x : Int32) (s : Nat) (hs : s ≤ 3000) : ∃ e, e ≤ s ∧ (∀ t, t < s → (¬ x ≤ nI t ↔ t < e)) ∧ (gw_mn x (nI s) = nI e ∨ (e = 0 ∧ gw_mn x (nI s) < 0)) := by
  unfold gw_mn
  by_cases z : nI s ≤ x
  · refine ⟨s, Nat.le_refl _, fun t ht => ⟨fun _ => ht, fun _ k => ?_⟩, Or.inl (by rw [if_pos z])⟩
    exact nI_ge (a := t) (b := s) ht (by omega) (Int32.le_trans z k)
  · rw [if_neg z]
    by_cases y : x < 0
    · refine ⟨0, Nat.zero_le _, fun t ht => ⟨fun k => ?_, fun k => absurd k (Nat.not_lt_zero t)⟩, Or.inr ⟨rfl, y⟩⟩
      exact absurd (Int32.le_trans (Int32.le_of_lt y) (nI_pos' (by omega))) k
    · obtain ⟨e, he, ex⟩ := nI_of y
      subst ex
      rw [nI_leI (by omega) he] at z
      refine ⟨e, by omega, fun t ht => ?_, Or.inl rfl⟩
      rw [nI_leI he (by omega)]
      omega
theorem gx_count {post : Int32 → Prop} {la lb ac g L : Nat → Int32} {n s c a e : Nat} {x y : Int32} {w : Nat → Nat} (V : gx_V g L n s w) (hc : c < 6) (ha : a < 2 ^ 31) (hx : gw_mx x 0 = nI a) (he : e ≤ s) (hy : gw_mn y (nI s) = nI e ∨ (e = 0 ∧ gw_mn y (nI s) < 0))
    (h : post (nI (gw_cnt (fun q => decide (w q = c)) (e - a) a))) : wpX_count post (la, lb, ac, g, L, 39000) (nI n) (nI c) x y := by
  unfold wpX_count
  dsimp only
  have hn := V.1
  have hs := V.2.1
  refine gx_ok V (br_t rfl (gx_isL hc (br_f (by decide) (gx_larger ?_))))
  rw [hx, nI_clamp (by omega), V.2.2.1]
  refine ⟨vp_in_nI hn (by omega), gx_smaller ?_⟩
  rcases hy with hy | ⟨e0, hy⟩
  · rw [hy]
    by_cases z : a ≤ e
    · refine ⟨e - a + 1, ?_⟩
      refine gx_cnt V he hc (e - a) a 0 (by omega) ?_
      rw [Nat.zero_add]
      exact h
    · refine ⟨1, ?_⟩
      rw [wX_count_52]
      dsimp only
      rw [show e - a = 0 by omega] at h
      exact br_t (nI_le (by omega) ha) h
  · refine ⟨1, ?_⟩
    rw [wX_count_52]
    dsimp only
    rw [show e - a = 0 by omega] at h
    exact br_t (Int32.le_trans (Int32.le_of_lt hy) (nI_pos' ha)) h
theorem gx_countN {post : Int32 → Prop} {la lb ac g L : Nat → Int32} {n s : Nat} {c x y : Int32} {w : Nat → Nat} (V : gx_V g L n s w) (hc : c < 0 ∨ nI 6 ≤ c) (h : post (-3)) : wpX_count post (la, lb, ac, g, L, 39000) (nI n) c x y := by
  unfold wpX_count
  dsimp only
  exact gx_ok V (br_t rfl (gx_isN hc (br_t rfl h)))
theorem gx_wo {post : Int32 → Prop} {la lb ac g L : Nat → Int32} {n s p m : Nat} {w : Nat → Nat} (V : gx_V g L n s w) (hm : p + m ≤ s) (h : post (nI (gw_hor w m p))) : ∀ i r, i ≤ m → r = gw_hor w (m - i) (p + i) → wX_wordOf_8 post (nI n) (nI p) la lb ac g L 39000 (i + 1) (nI r) (nI i - 1) := by
  intro i
  have hs := V.2.1
  induction i with
  | zero =>
    intro r hi hr
    rw [wX_wordOf_8]
    dsimp only
    rw [Nat.sub_zero, Nat.add_zero] at hr
    rw [hr]
    exact br_t (by decide) h
  | succ i ih =>
    intro r hi hr
    rw [wX_wordOf_8]
    dsimp only
    rw [nI_pred, nI_add]
    refine br_f (nI_pos (by omega)) (gx_letterOf V (by omega) ?_)
    have e : nI r * 7 + nI (w (p + i)) + 1 = nI (gw_hor w (m - i) (p + i)) := by
      rw [show (7 : Int32) = nI 7 from by decide, pk_mul, nI_add, nI_1, show m - i = (m - (i + 1)) + 1 by omega, gw_hor_s, show p + i + 1 = p + (i + 1) by omega, ← hr]
      exact congrArg nI (by omega)
    refine nm_r e (nm_r (Int32.sub_eq_add_neg _ _).symm ?_)
    exact ih _ (by omega) rfl
theorem gx_wordOf {post : Int32 → Prop} {la lb ac g L : Nat → Int32} {n s p m : Nat} {w : Nat → Nat} (V : gx_V g L n s w) (hm : p + m ≤ s) (h : post (nI (gw_hor w m p))) : wpX_wordOf post (la, lb, ac, g, L, 39000) (nI n) (nI p) (nI m) := by
  unfold wpX_wordOf
  dsimp only
  refine nm_e ⟨m + 1, ?_⟩
  exact gx_wo V hm h m 0 (Nat.le_refl _) (by rw [Nat.sub_self]; rfl)
def gx_o (o : Option Nat) : Int32 := match o with
  | none => -1
  | some r => nI r
theorem gw_slt {p s m : Nat} (hp : p < 2 ^ 31) (hs : s < 2 ^ 30) (hm : m < 2 ^ 30) : nI s - nI m < nI p ↔ s < p + m := by
  have := gw_sle hp hs hm
  rw [← Int32.not_le, this]
  omega
theorem gx_pl {post : Int32 → Prop} {la lb ac g L : Nat → Int32} {n s x m : Nat} {w : Nat → Nat} (V : gx_V g L n s w) (hx : x < 2 ^ 31) (hm : m ≤ 4) : ∀ d p, p + d = s + 1 - m → post (gx_o (gw_fst (fun q => decide (gw_hor w m q = x)) d p)) → wX_placeOf_12 post (nI n) (nI x) (nI m) la lb ac g L 39000 (d + 1) (nI p) := by
  intro d
  have hs := V.2.1
  have hn := V.1
  induction d with
  | zero =>
    intro p hp h
    rw [wX_placeOf_12]
    dsimp only
    rw [nI_clamp (by omega), V.2.2.1]
    exact ⟨vp_in_nI hn (by omega), br_t ((gw_slt (by omega) (by omega) (by omega)).mpr (by omega)) h⟩
  | succ d ih =>
    intro p hp h
    rw [wX_placeOf_12]
    dsimp only
    rw [nI_clamp (by omega), V.2.2.1]
    refine ⟨vp_in_nI hn (by omega), br_f (fun k => by have := (gw_slt (by omega) (by omega) (by omega)).mp k; omega) (gx_wordOf V (by omega) ?_)⟩
    have hb : gw_hor w m p < 7 ^ m := gw_hor_lt m p (fun i hi => (V.2.2.2 (p + i) (by omega)).1)
    have hb2 : 7 ^ m ≤ 7 ^ 4 := Nat.pow_le_pow_right (by decide) hm
    have hb3 : gw_hor w m p < 2 ^ 31 := Nat.lt_of_lt_of_le hb (Nat.le_trans hb2 (by decide))
    by_cases z : gw_hor w m p = x
    · rw [gw_fst_t (decide_eq_true z)] at h
      exact br_t (by rw [z]) h
    · rw [gw_fst_f (by rw [decide_eq_true_eq]; exact z)] at h
      exact br_f (fun k => z ((nI_eq hb3 hx).mp k)) (nm_r (nI_1 _) (ih (p + 1) (by omega) h))
theorem gx_placeOf {post : Int32 → Prop} {la lb ac g L : Nat → Int32} {n s x m a : Nat} {y : Int32} {w : Nat → Nat} (V : gx_V g L n s w) (hx : x < 2 ^ 31) (hm : m ≤ 4) (ha : a < 2 ^ 31) (hy : gw_mx y 0 = nI a)
    (h : post (gx_o (gw_fst (fun q => decide (gw_hor w m q = x)) (s + 1 - m - a) a))) : wpX_placeOf post (la, lb, ac, g, L, 39000) (nI n) (nI x) (nI m) y := by
  unfold wpX_placeOf
  dsimp only
  have hs := V.2.1
  have hn := V.1
  refine gx_larger ?_
  rw [hy]
  by_cases z : a ≤ s + 1 - m
  · exact ⟨s + 1 - m - a + 1, gx_pl V hx hm (s + 1 - m - a) a (by omega) h⟩
  · refine ⟨1, ?_⟩
    rw [wX_placeOf_12]
    dsimp only
    rw [nI_clamp (by omega), V.2.2.1]
    rw [show s + 1 - m - a = 0 by omega] at h
    exact ⟨vp_in_nI hn (by omega), br_t ((gw_slt ha (by omega) (by omega)).mpr (by omega)) h⟩
def gx_f (o : Option Nat) : Int32 := match o with
  | none => -4
  | some r => nI r
theorem gx_find {post : Int32 → Prop} {la lb ac g L : Nat → Int32} {n s x m a : Nat} {v y : Int32} {w : Nat → Nat} (V : gx_V g L n s w) (G : gw_Good 4 v x m) (h1 : 1 ≤ m) (ha : a < 2 ^ 31) (hy : gw_mx y 0 = nI a)
    (h : post (gx_f (gw_fst (fun q => decide (gw_hor w m q = x)) (s + 1 - m - a) a))) : wpX_find post (la, lb, ac, g, L, 39000) (nI n) v y := by
  unfold wpX_find
  dsimp only
  have hm := gw_Good_le G
  have hs := V.2.1
  refine gx_ok V (br_t rfl (gx_wl_good G (by decide) (br_t (nI_le (a := 1) h1 (by omega)) ?_)))
  rw [G.2.1]
  refine gx_placeOf V G.1 hm ha hy ?_
  cases e : gw_fst (fun q => decide (gw_hor w m q = x)) (s + 1 - m - a) a with
  | none =>
    rw [e] at h
    exact br_t rfl h
  | some r =>
    rw [e] at h
    have k := (gw_fst_some _ _ _ e).2.1
    exact br_f (gw_m1 (by omega)) h
theorem gw_no1 {m : Nat} (h : m < 1) : ¬ (1 : Int32) ≤ nI m := nI_ge (b := 1) h (by decide)
theorem gx_findN {post : Int32 → Prop} {la lb ac g L : Nat → Int32} {n s : Nat} {v y : Int32} {w : Nat → Nat} (V : gx_V g L n s w) (G : gw_Bad 4 v ∨ ∃ x, gw_Good 4 v x 0) (h : post (-3)) : wpX_find post (la, lb, ac, g, L, 39000) (nI n) v y := by
  unfold wpX_find
  dsimp only
  refine gx_ok V (br_t rfl ?_)
  rcases G with G | ⟨x, G⟩
  · exact gx_wl_bad G (by decide) (by decide) (br_f (by decide) h)
  · exact gx_wl_good G (by decide) (br_f (gw_no1 (by decide)) h)
theorem gx_oc {post : Int32 → Prop} {la lb ac g L : Nat → Int32} {n s x m : Nat} {w : Nat → Nat} (V : gx_V g L n s w) (hx : x < 2 ^ 31) (hm : m ≤ 4) : ∀ d p f, p + d = s + 1 - m → post (nI (f + gw_cnt (fun q => decide (gw_hor w m q = x)) d p)) → wX_occurrences_34 post (nI n) (nI x) (nI m) la lb ac g L 39000 (d + 1) (nI f) (nI p) := by
  intro d
  have hs := V.2.1
  have hn := V.1
  induction d with
  | zero =>
    intro p f hp h
    rw [wX_occurrences_34]
    dsimp only
    rw [nI_clamp (by omega), V.2.2.1]
    exact ⟨vp_in_nI hn (by omega), br_t ((gw_slt (by omega) (by omega) (by omega)).mpr (by omega)) h⟩
  | succ d ih =>
    intro p f hp h
    rw [wX_occurrences_34]
    dsimp only
    rw [nI_clamp (by omega), V.2.2.1]
    refine ⟨vp_in_nI hn (by omega), br_f (fun k => by have := (gw_slt (by omega) (by omega) (by omega)).mp k; omega) (gx_wordOf V (by omega) ?_)⟩
    have hb : gw_hor w m p < 7 ^ m := gw_hor_lt m p (fun i hi => (V.2.2.2 (p + i) (by omega)).1)
    have hb2 : 7 ^ m ≤ 7 ^ 4 := Nat.pow_le_pow_right (by decide) hm
    have hb3 : gw_hor w m p < 2 ^ 31 := Nat.lt_of_lt_of_le hb (Nat.le_trans hb2 (by decide))
    by_cases z : gw_hor w m p = x
    · rw [gw_cnt_t (decide_eq_true z)] at h
      refine br_t (by rw [z]) (nm_r (nI_1 _) (nm_r (nI_1 _) (ih (p + 1) (f + 1) (by omega) ?_)))
      rw [show f + 1 + gw_cnt (fun q => decide (gw_hor w m q = x)) d (p + 1) = f + (gw_cnt (fun q => decide (gw_hor w m q = x)) d (p + 1) + 1) by omega]
      exact h
    · rw [gw_cnt_f (by rw [decide_eq_true_eq]; exact z)] at h
      exact br_f (fun k => z ((nI_eq hb3 hx).mp k)) (nm_r (nI_1 _) (ih (p + 1) f (by omega) h))
theorem gx_occ {post : Int32 → Prop} {la lb ac g L : Nat → Int32} {n s x m : Nat} {v : Int32} {w : Nat → Nat} (V : gx_V g L n s w) (G : gw_Good 4 v x m) (h1 : 1 ≤ m)
    (h : post (nI (gw_cnt (fun q => decide (gw_hor w m q = x)) (s + 1 - m) 0))) : wpX_occurrences post (la, lb, ac, g, L, 39000) (nI n) v := by
  unfold wpX_occurrences
  dsimp only
  have hm := gw_Good_le G
  have hs := V.2.1
  refine gx_ok V (br_t rfl (gx_wl_good G (by decide) (br_t (nI_le (a := 1) h1 (by omega)) ⟨s + 1 - m + 1, ?_⟩)))
  rw [G.2.1]
  refine gx_oc V G.1 hm (s + 1 - m) 0 0 (by omega) ?_
  rw [Nat.zero_add]
  exact h
theorem gx_occN {post : Int32 → Prop} {la lb ac g L : Nat → Int32} {n s : Nat} {v : Int32} {w : Nat → Nat} (V : gx_V g L n s w) (G : gw_Bad 4 v ∨ ∃ x, gw_Good 4 v x 0) (h : post (-3)) : wpX_occurrences post (la, lb, ac, g, L, 39000) (nI n) v := by
  unfold wpX_occurrences
  dsimp only
  refine gx_ok V (br_t rfl ?_)
  rcases G with G | ⟨x, G⟩
  · exact gx_wl_bad G (by decide) (by decide) (br_f (by decide) h)
  · exact gx_wl_good G (by decide) (br_f (gw_no1 (by decide)) h)
