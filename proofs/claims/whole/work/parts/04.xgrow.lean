def gx_g (R T F : Nat → Nat) (fs n : Nat) (l : Int32) (g : Nat → Int32) : Prop :=
  (gw_gen R T F fs n = none → l = -1) ∧ (∀ s w, gw_gen R T F fs n = some (s, w) → l = nI s ∧ ∀ j, j < s → g (n * 3000 + j) = nI (w j))
def gx_r (R T : Nat → Nat) (la lb : Nat → Int32) : Prop := (∀ c, c < 6 → lb c = nI (R c)) ∧ (∀ j, j < 24 → la j = nI (T j))
def gx_V (g L : Nat → Int32) (n s : Nat) (w : Nat → Nat) : Prop := n < 13 ∧ s ≤ 3000 ∧ L n = nI s ∧ ∀ j, j < s → w j < 6 ∧ g (n * 3000 + j) = nI (w j)
theorem gx_letterOf {post : Int32 → Prop} {la lb ac g L : Nat → Int32} {n s p : Nat} {w : Nat → Nat} (V : gx_V g L n s w) (hp : p < s) (h : post (nI (w p))) : wpX_letterOf post (la, lb, ac, g, L, 39000) (nI n) (nI p) := by
  have hg := (V.2.2.2 p hp).2
  have hn := V.1
  have hs := V.2.1
  unfold wpX_letterOf
  dsimp only
  rw [gw_3000, nI_clamp (by omega), hg]
  exact ⟨vp_in_nI (by omega) (by omega), h⟩
theorem gx_in {post : Int32 → SX → Prop} {J : Int32 → Int32 → (Nat → Int32) → (Nat → Int32) → (Nat → Int32) → (Nat → Int32) → (Nat → Int32) → Prop} {la lb ac L g0 : Nat → Int32} {R T w : Nat → Nat} {n q : Nat}
    (hr : gx_r R T la lb) (hR : ∀ c, c < 6 → R c ≤ 4) (hT : ∀ j, j < 24 → T j < 6) (hn : n < 13) (hc : w q < 6) (ho : gw_off R w q + R (w q) ≤ 3000)
    (K : ∀ g', (∀ j, j < n * 3000 → g' j = g0 j) → (∀ j, j < gw_off R w (q + 1) → g' (n * 3000 + j) = nI (gw_G R T w (q + 1) j)) → J (nI (gw_off R w (q + 1))) (nI (q + 1)) la lb ac g' L) :
    ∀ d i g, i + d = R (w q) → (∀ j, j < n * 3000 → g j = g0 j) → (∀ j, j < gw_off R w q + i → g (n * 3000 + j) = nI (gw_G R T w (q + 1) j)) →
      wX_growInto_60 post J (nI n) (nI (gw_off R w q)) (nI q) (nI (w q)) 39000 (d + 1) (nI i) la lb ac g L := by
  intro d
  have hb := hr.1 _ hc
  have h4 := hR _ hc
  induction d with
  | zero =>
    intro i g hi h1 h2
    rw [wX_growInto_60]
    dsimp only
    rw [nI_clamp (by omega), hb]
    refine ⟨vp_in_nI hc (by omega), br_t (nI_le (by omega) (by omega)) ⟨vp_in_nI hc (by omega), nm_r (nI_add _ _) (nm_r (nI_1 _) ?_)⟩⟩
    exact K g h1 (fun j hj => h2 j (by rw [gw_off_s] at hj; omega))
  | succ d ih =>
    intro i g hi h1 h2
    rw [wX_growInto_60]
    dsimp only
    have e4 : nI (w q) * 4 + nI i = nI (4 * w q + i) := by
      rw [show (4 : Int32) = nI 4 from by decide, pk_mul, nI_add, Nat.mul_comm]
    have ha := hr.2 (4 * w q + i) (by omega)
    have ht := hT (4 * w q + i) (by omega)
    have e5 : nI n * 3000 + nI (gw_off R w q) + nI i = nI (n * 3000 + gw_off R w q + i) := by rw [gw_3000, nI_add]
    rw [nI_clamp (by omega), hb, e4, e5, nI_clamp (by omega), nI_clamp (by omega), ha, gw_nar ht]
    refine ⟨vp_in_nI hc (by omega), br_f (nI_ge (by omega) (by omega)) ⟨vp_in_nI (by omega) (by omega), vp_in_nI (by omega) (by omega), nm_e (nm_r (nI_1 _) ?_)⟩⟩
    refine ih (i + 1) _ (by omega) (fun j hj => ?_) (fun j hj => ?_)
    · rw [pk_un (by omega)]
      exact h1 j hj
    · by_cases z : j = gw_off R w q + i
      · rw [z, ← Nat.add_assoc, pk_us, gw_G_hi]
      · rw [pk_un (by omega)]
        exact h2 j (by omega)
theorem gx_out {post : Int32 → SX → Prop} {la lb ac g L : Nat → Int32} {R T w : Nat → Nat} {m s : Nat}
    (hr : gx_r R T la lb) (hR : ∀ c, c < 6 → R c ≤ 4) (hT : ∀ j, j < 24 → T j < 6) (hn : m + 1 < 13) (V : gx_V g L m s w)
    (H1 : gw_off R w s ≤ 3000 → ∀ g', (∀ j, j < (m + 1) * 3000 → g' j = g j) → (∀ j, j < gw_off R w s → g' ((m + 1) * 3000 + j) = nI (gw_G R T w s j)) → post (nI (gw_off R w s)) (la, lb, ac, g', L, 39000))
    (H2 : ¬ gw_off R w s ≤ 3000 → ∀ g', (∀ j, j < (m + 1) * 3000 → g' j = g j) → post (-1) (la, lb, ac, g', L, 39000)) :
    ∀ d p g', p + d = s → gw_off R w p ≤ 3000 → (∀ j, j < (m + 1) * 3000 → g' j = g j) → (∀ j, j < gw_off R w p → g' ((m + 1) * 3000 + j) = nI (gw_G R T w p j)) →
      wX_growInto_18 post (nI (m + 1)) 39000 (d + 1) (nI (gw_off R w p)) (nI p) la lb ac g' L := by
  intro d
  have hs := V.2.1
  induction d with
  | zero =>
    intro p g' hp ho h1 h2
    rw [wX_growInto_18]
    dsimp only
    rw [nI_pred, nI_clamp (by omega), V.2.2.1]
    have e : p = s := by omega
    subst e
    exact ⟨vp_in_nI (by omega) (by omega), br_t (nI_le (by omega) (by omega)) (H1 ho g' h1 h2)⟩
  | succ d ih =>
    intro p g' hp ho h1 h2
    rw [wX_growInto_18]
    dsimp only
    rw [nI_pred, nI_clamp (by omega), V.2.2.1]
    refine ⟨vp_in_nI (by omega) (by omega), br_f (nI_ge (by omega) (by omega)) ?_⟩
    have V' : gx_V g' L m s w := ⟨V.1, V.2.1, V.2.2.1, fun j hj => ⟨(V.2.2.2 j hj).1, by rw [h1 _ (by omega)]; exact (V.2.2.2 j hj).2⟩⟩
    refine gx_letterOf V' (by omega) ?_
    have hc := (V.2.2.2 p (by omega)).1
    have h4 := hR _ hc
    rw [nI_clamp (by omega), hr.1 _ hc, nI_add]
    refine ⟨vp_in_nI hc (by omega), ?_⟩
    by_cases z : gw_off R w p + R (w p) ≤ 3000
    · refine br_t (nI_le (b := 3000) z (by decide)) ⟨R (w p) + 1, ?_⟩
      refine gx_in (g0 := g) hr hR hT hn hc z ?_ (R (w p)) 0 g' (by omega) h1 (fun j hj => ?_)
      · intro g'' k1 k2
        exact ih (p + 1) g'' (by omega) (by rw [gw_off_s]; exact z) k1 k2
      · rw [gw_G_lo (by omega)]
        exact h2 j (by omega)
    · refine br_f (nI_ge (b := gw_off R w p + R (w p)) (a := 3000) (by omega) (by omega)) ?_
      refine H2 ?_ g' h1
      have := gw_off_le (R := R) (w := w) (show p + 1 ≤ s by omega)
      rw [gw_off_s] at this
      omega
theorem gx_view {R T F : Nat → Nat} {fs n s : Nat} {g L : Nat → Int32} {w : Nat → Nat} (hP : gw_P R T F fs) (hn : n < 13) (h : gx_g R T F fs n (L n) g) (e : gw_gen R T F fs n = some (s, w)) : gx_V g L n s w := by
  have k := gw_gen_ok hP n s w e
  have k2 := h.2 s w e
  exact ⟨hn, k.1, k2.1, fun j hj => ⟨k.2 j hj, k2.2 j hj⟩⟩
theorem gx_growInto {post : Int32 → SX → Prop} {la lb ac g L : Nat → Int32} {R T F : Nat → Nat} {fs m : Nat}
    (hP : gw_P R T F fs) (hr : gx_r R T la lb) (hn : m + 1 < 13) (h : gx_g R T F fs m (L m) g)
    (H : ∀ g' r, (∀ j, j < (m + 1) * 3000 → g' j = g j) → gx_g R T F fs (m + 1) r g' → post r (la, lb, ac, g', L, 39000)) :
    wpX_growInto post (la, lb, ac, g, L, 39000) (nI (m + 1)) := by
  unfold wpX_growInto
  dsimp only
  rw [nI_pred, nI_clamp (by omega)]
  refine ⟨vp_in_nI (by omega) (by omega), ?_⟩
  cases e : gw_gen R T F fs m with
  | none =>
    rw [h.1 e]
    refine br_t rfl (H g (-1) (fun _ _ => rfl) ⟨fun _ => rfl, fun s w k => ?_⟩)
    rw [gw_gen_no e] at k
    cases k
  | some q =>
    obtain ⟨s, w⟩ := q
    have V := gx_view hP (by omega) h e
    have hs := V.2.1
    rw [V.2.2.1]
    refine br_f (gw_m1 (by omega)) ⟨s + 1, ?_⟩
    refine gx_out hr hP.1 hP.2.1 hn V ?_ ?_ s 0 g (by omega) (by exact Nat.zero_le _) (fun _ _ => rfl) (fun j hj => absurd hj (Nat.not_lt_zero j))
    · intro c g' k1 k2
      refine H g' _ k1 ⟨fun z => ?_, fun s' w' z => ?_⟩
      · rw [gw_gen_yes e c] at z
        cases z
      · rw [gw_gen_yes e c] at z
        cases z
        exact ⟨rfl, k2⟩
    · intro c g' k1
      refine H g' _ k1 ⟨fun _ => rfl, fun s' w' z => ?_⟩
      rw [gw_gen_long e c] at z
      cases z
theorem gx_all {post : SX → Prop} {la lb ac : Nat → Int32} {R T F : Nat → Nat} {fs : Nat} (hP : gw_P R T F fs) (hr : gx_r R T la lb)
    (H : ∀ g L, (∀ n, n < 13 → gx_g R T F fs n (L n) g) → post (la, lb, ac, g, L, 39000)) :
    ∀ d n g L, n + 1 + d = 13 → (∀ m, m < n + 1 → gx_g R T F fs m (L m) g) → wX_growAll_2 post (d + 1) (nI (n + 1)) la lb ac g L 39000 := by
  intro d
  induction d with
  | zero =>
    intro n g L hn h
    rw [wX_growAll_2]
    dsimp only
    exact br_t (nI_le (a := 13) (by omega) (by omega)) (H g L (fun m hm => h m (by omega)))
  | succ d ih =>
    intro n g L hn h
    rw [wX_growAll_2]
    dsimp only
    refine br_f (nI_ge (b := 13) (by omega) (by decide)) ?_
    refine gx_growInto hP hr (by omega) (h n (by omega)) ?_
    intro g' r k1 k2
    dsimp only
    rw [nI_clamp (by omega)]
    refine ⟨vp_in_nI (by omega) (by omega), nm_e (nm_r (nI_1 _) ?_)⟩
    refine ih (n + 1) g' _ (by omega) (fun m hm => ?_)
    by_cases z : m = n + 1
    · rw [z, pk_us]
      exact k2
    · rw [pk_un z]
      have k := h m (by omega)
      refine ⟨k.1, fun s w e => ⟨(k.2 s w e).1, fun j hj => ?_⟩⟩
      have := (gw_gen_ok hP m s w e).1
      rw [k1 _ (by omega)]
      exact (k.2 s w e).2 j hj
theorem gx_growAll {post : SX → Prop} {la lb ac g L : Nat → Int32} {R T F : Nat → Nat} {fs : Nat} (hP : gw_P R T F fs) (hr : gx_r R T la lb) (h0 : L 0 = nI fs) (hg : ∀ j, j < fs → g j = nI (F j))
    (H : ∀ g L, (∀ n, n < 13 → gx_g R T F fs n (L n) g) → post (la, lb, ac, g, L, 39000)) : wpX_growAll post (la, lb, ac, g, L, 39000) := by
  unfold wpX_growAll
  dsimp only
  refine ⟨13, ?_⟩
  refine gx_all hP hr H 12 0 g L (by omega) (fun m hm => ?_)
  have z : m = 0 := by omega
  subst z
  refine ⟨fun e => (by cases e), fun s w e => ?_⟩
  have e' : some (fs, F) = some (s, w) := e
  cases e'
  exact ⟨h0, fun j hj => by rw [Nat.zero_mul, Nat.zero_add]; exact hg j hj⟩
