theorem gw_i8 {c : Nat} (h : c < 6) : (nI c).toInt8.toInt32 = nI c := by
  have : ∀ c, c < 6 → (nI c).toInt8.toInt32 = nI c := by decide +kernel
  exact this c h
theorem gw_rem7 {x i : Nat} (hx : x < 2 ^ 31) : nI (x / 7 ^ i) - nI (x / 7 ^ i) / 7 * 7 = nI (x / 7 ^ i % 7) :=
  pk_rem (Nat.lt_of_le_of_lt (Nat.div_le_self _ _) hx) (by decide) (by decide)
theorem gw_quo7 {x i : Nat} (hx : x < 2 ^ 31) : nI (x / 7 ^ i) / 7 = nI (x / 7 ^ (i + 1)) := by
  rw [← gw_div7]
  exact pk_div (Nat.lt_of_le_of_lt (Nat.div_le_self _ _) hx) (by decide) (by decide)
theorem gw_digit {x i : Nat} (hx : x < 2 ^ 31) (hz : ¬ x / 7 ^ i % 7 = 0) : nI (x / 7 ^ i) - nI (x / 7 ^ i) / 7 * 7 - 1 = nI (gw_dg x i) := by
  rw [gw_rem7 hx]
  have e : x / 7 ^ i % 7 = gw_dg x i + 1 := by unfold gw_dg; omega
  rw [e]
  exact nI_pred _
theorem gw_remneg {y : Int32} (h : y < 0) : y - y / 7 * 7 ≤ 0 := by
  rw [Int32.lt_iff_toInt_lt, show (0 : Int32).toInt = 0 by decide] at h
  rw [Int32.le_iff_toInt_le, rem_toInt, show (0 : Int32).toInt = 0 by decide, show (7 : Int32).toInt = 7 by decide]
  have k := Int.tmod_nonneg 7 (show 0 ≤ -y.toInt by omega)
  rw [Int.neg_tmod] at k
  omega
def gw_Bad (most : Nat) (y : Int32) : Prop := y < 0 ∨ ∃ x, x < 2 ^ 31 ∧ y = nI x ∧ ¬ x / 7 ^ (gw_len x most 0) = 0
def gw_Good (most : Nat) (y : Int32) (x l : Nat) : Prop := x < 2 ^ 31 ∧ y = nI x ∧ l = gw_len x most 0 ∧ x / 7 ^ l = 0
theorem gw_word (most : Nat) (y : Int32) : gw_Bad most y ∨ ∃ x l, gw_Good most y x l := by
  by_cases h : y < 0
  · exact Or.inl (Or.inl h)
  · obtain ⟨x, hx, e⟩ := nI_of h
    by_cases z : x / 7 ^ (gw_len x most 0) = 0
    · exact Or.inr ⟨x, _, hx, e, rfl, z⟩
    · exact Or.inl (Or.inr ⟨x, hx, e, z⟩)
theorem gw_Good_le {most x l : Nat} {y : Int32} (h : gw_Good most y x l) : l ≤ most := by
  have := (gw_len_b x most 0).2
  rw [← h.2.2.1] at this
  omega
theorem gw_Good_nz {most x l : Nat} {y : Int32} (h : gw_Good most y x l) : ∀ k, k < l → ¬ x / 7 ^ k % 7 = 0 := by
  intro k hk
  refine gw_len_nz x most 0 k (Nat.zero_le _) ?_
  rw [← h.2.2.1]
  exact hk
theorem gw_Good_hor {most x l : Nat} {y : Int32} (h : gw_Good most y x l) : gw_hor (gw_dg x) l 0 = x := by
  have k := gw_hor_dg x l 0 (fun j _ hj => gw_Good_nz h j (by omega)) (by rw [Nat.zero_add]; exact h.2.2.2)
  rw [k, Nat.pow_zero, Nat.div_one]
theorem gx_isL {post : Int32 → Prop} {c : Nat} (hc : c < 6) (h : post 1) : wpX_isLetter post (nI c) := by
  unfold wpX_isLetter
  exact br_f (nI_pos (by omega)) (br_f (nI_ge (b := 6) hc (by decide)) h)
theorem gx_isN {post : Int32 → Prop} {x : Int32} (hx : x < 0 ∨ nI 6 ≤ x) (h : post 0) : wpX_isLetter post x := by
  unfold wpX_isLetter
  by_cases z : x < 0
  · exact br_t z h
  · exact br_f z (br_t (hx.resolve_left z) h)
theorem gx_wl {post : Int32 → Prop} {x most : Nat} (hx : x < 2 ^ 31) (hm : most ≤ 8) : ∀ d k, k + d = most → wX_wordLength_27 post (nI (x / 7 ^ (gw_len x d k))) (nI (gw_len x d k)) → wX_wordLength_4 post (nI most) (d + 1) (nI (x / 7 ^ k)) (nI k) := by
  intro d
  induction d with
  | zero =>
    intro k hk h
    rw [wX_wordLength_4]
    dsimp only
    exact br_t (nI_le (by omega) (by omega)) h
  | succ d ih =>
    intro k hk h
    rw [wX_wordLength_4]
    dsimp only
    rw [gw_rem7 hx, gw_quo7 hx]
    refine br_f (nI_ge (by omega) (by omega)) ⟨by decide, ?_⟩
    by_cases z : x / 7 ^ k % 7 = 0
    · rw [gw_len_z z] at h
      rw [z]
      exact br_t (by decide) h
    · rw [gw_len_n z] at h
      exact br_f (nI_nle (by omega) (by omega)) ⟨by decide, nm_e (nm_r (nI_1 _) (ih (k + 1) (by omega) h))⟩
theorem gx_wl_good {post : Int32 → Prop} {most x l : Nat} {y : Int32} (G : gw_Good most y x l) (hm : most ≤ 8) (h : post (nI l)) : wpX_wordLength post y (nI most) := by
  obtain ⟨hx, e, el, h0⟩ := G
  unfold wpX_wordLength
  refine ⟨most + 1, ?_⟩
  rw [e, show nI x = nI (x / 7 ^ 0) by rw [Nat.pow_zero, Nat.div_one]]
  refine gx_wl hx hm most 0 (by omega) ?_
  rw [← el, h0]
  exact br_t rfl h
theorem gx_wl_bad {post : Int32 → Prop} {most : Nat} {y : Int32} (G : gw_Bad most y) (h1 : 1 ≤ most) (hm : most ≤ 8) (h : post (-1)) : wpX_wordLength post y (nI most) := by
  unfold wpX_wordLength
  rcases G with hy | ⟨x, hx, e, h0⟩
  · refine ⟨1, ?_⟩
    rw [wX_wordLength_4]
    dsimp only
    refine br_f (nI_nle (by omega) (by omega)) ⟨by decide, br_t (gw_remneg hy) ?_⟩
    refine br_f (fun z => ?_) h
    rw [z] at hy
    exact absurd hy (by decide)
  · refine ⟨most + 1, ?_⟩
    rw [e, show nI x = nI (x / 7 ^ 0) by rw [Nat.pow_zero, Nat.div_one]]
    refine gx_wl hx hm most 0 (by omega) ?_
    refine br_f (nI_ne0 (Nat.pos_of_ne_zero h0) (Nat.lt_of_le_of_lt (Nat.div_le_self _ _) hx)) h
def gx_put (a : Nat → Int32) (b l x : Nat) (j : Nat) : Int32 := if b ≤ j ∧ j < b + l then nI (gw_dg x (j - b)) else a j
theorem gx_put0 (a : Nat → Int32) (b x j : Nat) : gx_put a b 0 x j = a j := if_neg (by omega)
theorem gx_put_s {a a' : Nat → Int32} {b i x j : Nat} (h : a' j = gx_put a b i x j) : upd a' (b + i) (nI (gw_dg x i)) j = gx_put a b (i + 1) x j := by
  by_cases z : j = b + i
  · subst z
    rw [pk_us]
    unfold gx_put
    rw [if_pos (by omega), Nat.add_sub_cancel_left]
  · rw [pk_un z, h]
    unfold gx_put
    by_cases y : b ≤ j ∧ j < b + i
    · rw [if_pos y, if_pos (by omega)]
    · rw [if_neg y, if_neg (by omega)]
theorem gx_wrA {post : SX → Prop} {lb ac g L la0 : Nat → Int32} {x c l : Nat} (hx : x < 2 ^ 31) (hc : c < 6) (hl : l ≤ 4) (hz : ∀ k, k < l → ¬ x / 7 ^ k % 7 = 0)
    (H : ∀ la, (∀ j, la j = gx_put la0 (c * 4) l x j) → post (la, lb, ac, g, L, 39000)) :
    ∀ d i la, i + d = l → (∀ j, la j = gx_put la0 (c * 4) i x j) → wX_writeWord__ruleLetters_6 post (nI l) (nI c * 4) 39000 (d + 1) (nI (x / 7 ^ i)) (nI i) la lb ac g L := by
  intro d
  induction d with
  | zero =>
    intro i la hi h
    rw [wX_writeWord__ruleLetters_6]
    dsimp only
    have e : i = l := by omega
    subst e
    exact br_t (nI_le (by omega) (by omega)) (H la h)
  | succ d ih =>
    intro i la hi h
    rw [wX_writeWord__ruleLetters_6]
    dsimp only
    have e4 : nI c * 4 + nI i = nI (c * 4 + i) := by
      rw [show (4 : Int32) = nI 4 from by decide, pk_mul, nI_add]
    rw [gw_digit hx (hz i (by omega)), gw_quo7 hx, e4, nI_clamp (by omega), gw_i8 (gw_dg_lt x i), gw_nar (gw_dg_lt x i)]
    refine br_f (nI_ge (by omega) (by omega)) ⟨by decide, vp_in_nI (by omega) (by omega), nm_e ⟨by decide, nm_e (nm_r (nI_1 _) ?_)⟩⟩
    exact ih (i + 1) _ (by omega) (fun j => gx_put_s (h j))
theorem gx_wrB {post : SX → Prop} {la lb ac L g0 : Nat → Int32} {x l : Nat} (hx : x < 2 ^ 31) (hl : l ≤ 8) (hz : ∀ k, k < l → ¬ x / 7 ^ k % 7 = 0)
    (H : ∀ g, (∀ j, g j = gx_put g0 0 l x j) → post (la, lb, ac, g, L, 39000)) :
    ∀ d i g, i + d = l → (∀ j, g j = gx_put g0 0 i x j) → wX_writeWord__grown_6 post (nI l) 0 39000 (d + 1) (nI (x / 7 ^ i)) (nI i) la lb ac g L := by
  intro d
  induction d with
  | zero =>
    intro i g hi h
    rw [wX_writeWord__grown_6]
    dsimp only
    have e : i = l := by omega
    subst e
    exact br_t (nI_le (by omega) (by omega)) (H g h)
  | succ d ih =>
    intro i g hi h
    rw [wX_writeWord__grown_6]
    dsimp only
    have e4 : 0 + nI i = nI (0 + i) := by
      rw [Int32.zero_add, Nat.zero_add]
    rw [gw_digit hx (hz i (by omega)), gw_quo7 hx, e4, nI_clamp (by omega), gw_i8 (gw_dg_lt x i), gw_nar (gw_dg_lt x i)]
    refine br_f (nI_ge (by omega) (by omega)) ⟨by decide, vp_in_nI (by omega) (by omega), nm_e ⟨by decide, nm_e (nm_r (nI_1 _) ?_)⟩⟩
    exact ih (i + 1) _ (by omega) (fun j => gx_put_s (h j))
theorem gx_writeA {post : SX → Prop} {la lb ac g L : Nat → Int32} {y : Int32} {x c l : Nat} (G : gw_Good 4 y x l) (hc : c < 6)
    (H : ∀ la', (∀ j, la' j = gx_put la (c * 4) l x j) → post (la', lb, ac, g, L, 39000)) : wpX_writeWord__ruleLetters post (la, lb, ac, g, L, 39000) y (nI l) (nI c * 4) := by
  unfold wpX_writeWord__ruleLetters
  dsimp only
  have hl := gw_Good_le G
  refine ⟨l + 1, ?_⟩
  rw [G.2.1, show nI x = nI (x / 7 ^ 0) by rw [Nat.pow_zero, Nat.div_one]]
  exact gx_wrA G.1 hc hl (gw_Good_nz G) H l 0 la (by omega) (fun j => (gx_put0 _ _ _ _).symm)
theorem gx_writeB {post : SX → Prop} {la lb ac g L : Nat → Int32} {y : Int32} {x l : Nat} (G : gw_Good 8 y x l)
    (H : ∀ g', (∀ j, g' j = gx_put g 0 l x j) → post (la, lb, ac, g', L, 39000)) : wpX_writeWord__grown post (la, lb, ac, g, L, 39000) y (nI l) 0 := by
  unfold wpX_writeWord__grown
  dsimp only
  have hl := gw_Good_le G
  refine ⟨l + 1, ?_⟩
  rw [G.2.1, show nI x = nI (x / 7 ^ 0) by rw [Nat.pow_zero, Nat.div_one]]
  exact gx_wrB G.1 hl (gw_Good_nz G) H l 0 g (by omega) (fun j => (gx_put0 _ _ _ _).symm)
