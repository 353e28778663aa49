def gw_off (R w : Nat → Nat) : Nat → Nat
  | 0 => 0
  | p + 1 => gw_off R w p + R (w p)
def gw_G (R T w : Nat → Nat) : Nat → Nat → Nat
  | 0 => fun _ => 0
  | p + 1 => fun j => if j < gw_off R w p then gw_G R T w p j else T (4 * w p + (j - gw_off R w p))
def gw_gen (R T F : Nat → Nat) (fs : Nat) : Nat → Option (Nat × (Nat → Nat))
  | 0 => some (fs, F)
  | n + 1 => match gw_gen R T F fs n with
    | none => none
    | some q => if gw_off R q.2 q.1 ≤ 3000 then some (gw_off R q.2 q.1, gw_G R T q.2 q.1) else none
def gw_P (R T F : Nat → Nat) (fs : Nat) : Prop := (∀ c, c < 6 → R c ≤ 4) ∧ (∀ j, j < 24 → T j < 6) ∧ (∀ j, j < fs → F j < 6) ∧ 1 ≤ fs ∧ fs ≤ 8
theorem gw_off_s (R w : Nat → Nat) (p : Nat) : gw_off R w (p + 1) = gw_off R w p + R (w p) := rfl
theorem gw_off_le {R w : Nat → Nat} {p q : Nat} (h : p ≤ q) : gw_off R w p ≤ gw_off R w q := by
  induction h with
  | refl => exact Nat.le_refl _
  | step _ ih => exact Nat.le_trans ih (Nat.le_add_right _ _)
theorem gw_G_lo {R T w : Nat → Nat} {p j : Nat} (h : j < gw_off R w p) : gw_G R T w (p + 1) j = gw_G R T w p j := if_pos h
theorem gw_G_hi {R T w : Nat → Nat} {p i : Nat} : gw_G R T w (p + 1) (gw_off R w p + i) = T (4 * w p + i) := by
  show (if gw_off R w p + i < gw_off R w p then gw_G R T w p (gw_off R w p + i) else T (4 * w p + (gw_off R w p + i - gw_off R w p))) = _
  rw [if_neg (by omega), Nat.add_sub_cancel_left]
theorem gw_G_lt {R T w : Nat → Nat} {s : Nat} (hR : ∀ c, c < 6 → R c ≤ 4) (hT : ∀ j, j < 24 → T j < 6) (hw : ∀ j, j < s → w j < 6) : ∀ p, p ≤ s → ∀ j, j < gw_off R w p → gw_G R T w p j < 6 := by
  intro p
  induction p with
  | zero => intro _ j hj; exact absurd hj (Nat.not_lt_zero j)
  | succ p ih =>
    intro hp j hj
    rw [gw_off_s] at hj
    have h1 := hw p (by omega)
    have h2 := hR _ h1
    by_cases h : j < gw_off R w p
    · rw [gw_G_lo h]; exact ih (by omega) j h
    · obtain ⟨i, rfl⟩ : ∃ i, j = gw_off R w p + i := ⟨j - gw_off R w p, by omega⟩
      rw [gw_G_hi]; exact hT _ (by omega)
theorem gw_gen_no {R T F : Nat → Nat} {fs n : Nat} (g : gw_gen R T F fs n = none) : gw_gen R T F fs (n + 1) = none := by
  simp only [gw_gen, g]
theorem gw_gen_yes {R T F : Nat → Nat} {fs n s : Nat} {w : Nat → Nat} (g : gw_gen R T F fs n = some (s, w)) (c : gw_off R w s ≤ 3000) : gw_gen R T F fs (n + 1) = some (gw_off R w s, gw_G R T w s) := by
  simp only [gw_gen, g, if_pos c]
theorem gw_gen_long {R T F : Nat → Nat} {fs n s : Nat} {w : Nat → Nat} (g : gw_gen R T F fs n = some (s, w)) (c : ¬ gw_off R w s ≤ 3000) : gw_gen R T F fs (n + 1) = none := by
  simp only [gw_gen, g, if_neg c]
theorem gw_gen_nos {R T F : Nat → Nat} {fs n m : Nat} (g : gw_gen R T F fs n = none) (h : n ≤ m) : gw_gen R T F fs m = none := by
  induction h with
  | refl => exact g
  | step _ ih => exact gw_gen_no ih
theorem gw_gen_ok {R T F : Nat → Nat} {fs : Nat} (h : gw_P R T F fs) : ∀ n s w, gw_gen R T F fs n = some (s, w) → s ≤ 3000 ∧ ∀ j, j < s → w j < 6 := by
  intro n
  induction n with
  | zero =>
    intro s w e
    have e' : some (fs, F) = some (s, w) := e
    cases e'
    exact ⟨by have := h.2.2.2.2; omega, h.2.2.1⟩
  | succ n ih =>
    intro s w e
    cases g : gw_gen R T F fs n with
    | none => rw [gw_gen_no g] at e; cases e
    | some q =>
      obtain ⟨s0, w0⟩ := q
      have k := ih s0 w0 g
      by_cases c : gw_off R w0 s0 ≤ 3000
      · rw [gw_gen_yes g c] at e
        cases e
        exact ⟨c, gw_G_lt h.1 h.2.1 k.2 s0 (Nat.le_refl _)⟩
      · rw [gw_gen_long g c] at e; cases e
def gw_cnt (P : Nat → Bool) : Nat → Nat → Nat
  | 0, _ => 0
  | d + 1, q => (if P q = true then 1 else 0) + gw_cnt P d (q + 1)
theorem gw_cnt_s (P : Nat → Bool) (d q : Nat) : gw_cnt P (d + 1) q = (if P q = true then 1 else 0) + gw_cnt P d (q + 1) := rfl
theorem gw_cnt_t {P : Nat → Bool} {d q : Nat} (h : P q = true) : gw_cnt P (d + 1) q = gw_cnt P d (q + 1) + 1 := by
  rw [gw_cnt_s, if_pos h]; omega
theorem gw_cnt_f {P : Nat → Bool} {d q : Nat} (h : ¬ P q = true) : gw_cnt P (d + 1) q = gw_cnt P d (q + 1) := by
  rw [gw_cnt_s, if_neg h]; omega
theorem gw_cnt_le (P : Nat → Bool) : ∀ d q, gw_cnt P d q ≤ d := by
  intro d
  induction d with
  | zero => intro q; exact Nat.le_refl 0
  | succ d ih =>
    intro q
    have := ih (q + 1)
    rw [gw_cnt_s]
    split <;> omega
theorem gw_cnt_congr {P Q : Nat → Bool} : ∀ d q, (∀ t, q ≤ t → t < q + d → P t = Q t) → gw_cnt P d q = gw_cnt Q d q := by
  intro d
  induction d with
  | zero => intro q _; rfl
  | succ d ih =>
    intro q h
    rw [gw_cnt_s, gw_cnt_s, h q (by omega) (by omega), ih (q + 1) (fun t a b => h t (by omega) (by omega))]
theorem gw_cnt_zero {P : Nat → Bool} : ∀ d q, (∀ t, q ≤ t → t < q + d → P t = false) → gw_cnt P d q = 0 := by
  intro d
  induction d with
  | zero => intro q _; rfl
  | succ d ih =>
    intro q h
    rw [gw_cnt_f (by rw [h q (by omega) (by omega)]; decide), ih (q + 1) (fun t a b => h t (by omega) (by omega))]
theorem gw_cnt_add (P : Nat → Bool) (b : Nat) : ∀ a q, gw_cnt P (a + b) q = gw_cnt P a q + gw_cnt P b (q + a) := by
  intro a
  induction a with
  | zero => intro q; rw [Nat.zero_add, Nat.add_zero]; show _ = 0 + _; omega
  | succ a ih =>
    intro q
    rw [show a + 1 + b = (a + b) + 1 by omega, gw_cnt_s, gw_cnt_s, ih (q + 1), show q + 1 + a = q + (a + 1) by omega]
    omega
theorem gw_cnt_mid {P Q : Nat → Bool} {s a b : Nat} (hb : b ≤ s) (h1 : ∀ t, a ≤ t → t < b → P t = Q t) (h0 : ∀ t, t < s → ¬ (a ≤ t ∧ t < b) → P t = false) : gw_cnt P s 0 = gw_cnt Q (b - a) a := by
  by_cases h : a < b
  · have e1 := gw_cnt_add P ((b - a) + (s - b)) a 0
    have e2 := gw_cnt_add P (s - b) (b - a) a
    rw [show a + ((b - a) + (s - b)) = s by omega, Nat.zero_add] at e1
    rw [gw_cnt_zero a 0 (fun t _ k => h0 t (by omega) (by omega)), e2, gw_cnt_zero (s - b) (a + (b - a)) (fun t k k' => h0 t (by omega) (by omega))] at e1
    rw [e1, gw_cnt_congr (b - a) a (fun t k k' => h1 t k (by omega))]
    omega
  · rw [show b - a = 0 by omega]
    exact gw_cnt_zero s 0 (fun t _ k => h0 t (by omega) (by omega))
def gw_fst (P : Nat → Bool) : Nat → Nat → Option Nat
  | 0, _ => none
  | d + 1, q => if P q = true then some q else gw_fst P d (q + 1)
theorem gw_fst_t {P : Nat → Bool} {d q : Nat} (h : P q = true) : gw_fst P (d + 1) q = some q := if_pos h
theorem gw_fst_f {P : Nat → Bool} {d q : Nat} (h : ¬ P q = true) : gw_fst P (d + 1) q = gw_fst P d (q + 1) := if_neg h
theorem gw_fst_congr {P Q : Nat → Bool} : ∀ d q, (∀ t, q ≤ t → t < q + d → P t = Q t) → gw_fst P d q = gw_fst Q d q := by
  intro d
  induction d with
  | zero => intro q _; rfl
  | succ d ih =>
    intro q h
    have e := h q (by omega) (by omega)
    have i := ih (q + 1) (fun t a b => h t (by omega) (by omega))
    by_cases c : P q = true
    · rw [gw_fst_t c, gw_fst_t (by rw [← e]; exact c)]
    · rw [gw_fst_f c, gw_fst_f (by rw [← e]; exact c), i]
theorem gw_fst_none {P : Nat → Bool} : ∀ d q, (∀ t, q ≤ t → t < q + d → P t = false) → gw_fst P d q = none := by
  intro d
  induction d with
  | zero => intro q _; rfl
  | succ d ih =>
    intro q h
    rw [gw_fst_f (by rw [h q (by omega) (by omega)]; decide), ih (q + 1) (fun t a b => h t (by omega) (by omega))]
theorem gw_fst_skip {P : Nat → Bool} (b : Nat) : ∀ a q, (∀ t, q ≤ t → t < q + a → P t = false) → gw_fst P (a + b) q = gw_fst P b (q + a) := by
  intro a
  induction a with
  | zero => intro q _; rw [Nat.zero_add, Nat.add_zero]
  | succ a ih =>
    intro q h
    rw [show a + 1 + b = (a + b) + 1 by omega, gw_fst_f (by rw [h q (by omega) (by omega)]; decide), ih (q + 1) (fun t k k' => h t (by omega) (by omega)), show q + 1 + a = q + (a + 1) by omega]
theorem gw_fst_app {P : Nat → Bool} (b : Nat) : ∀ a q, (∀ t, q + a ≤ t → t < q + a + b → P t = false) → gw_fst P (a + b) q = gw_fst P a q := by
  intro a
  induction a with
  | zero =>
    intro q h
    rw [Nat.zero_add, gw_fst_none b q (fun t k k' => h t (by omega) (by omega))]
    rfl
  | succ a ih =>
    intro q h
    have i := ih (q + 1) (fun t k k' => h t (by omega) (by omega))
    rw [show a + 1 + b = (a + b) + 1 by omega]
    by_cases c : P q = true
    · rw [gw_fst_t c, gw_fst_t c]
    · rw [gw_fst_f c, gw_fst_f c, i]
theorem gw_fst_mid {P Q : Nat → Bool} {s a b : Nat} (hb : b ≤ s) (h1 : ∀ t, a ≤ t → t < b → P t = Q t) (h0 : ∀ t, t < s → ¬ (a ≤ t ∧ t < b) → P t = false) : gw_fst P s 0 = gw_fst Q (b - a) a := by
  by_cases h : a < b
  · have e1 := gw_fst_skip (P := P) ((b - a) + (s - b)) a 0 (fun t _ k => h0 t (by omega) (by omega))
    have e2 := gw_fst_app (P := P) (s - b) (b - a) a (fun t k k' => h0 t (by omega) (by omega))
    rw [show a + ((b - a) + (s - b)) = s by omega, Nat.zero_add, e2] at e1
    rw [e1, gw_fst_congr (b - a) a (fun t k k' => h1 t k (by omega))]
  · rw [show b - a = 0 by omega]
    exact gw_fst_none s 0 (fun t _ k => h0 t (by omega) (by omega))
theorem gw_fst_some {P : Nat → Bool} : ∀ d q r, gw_fst P d q = some r → q ≤ r ∧ r < q + d ∧ P r = true ∧ ∀ t, q ≤ t → t < r → P t = false := by
  intro d
  induction d with
  | zero => intro q r h; cases h
  | succ d ih =>
    intro q r h
    by_cases c : P q = true
    · rw [gw_fst_t c] at h
      cases h
      exact ⟨Nat.le_refl _, by omega, c, fun t k k' => by omega⟩
    · rw [gw_fst_f c] at h
      obtain ⟨h1, h2, h3, h4⟩ := ih (q + 1) r h
      refine ⟨by omega, by omega, h3, fun t k k' => ?_⟩
      by_cases z : t = q
      · rw [z]; exact Bool.eq_false_iff.mpr c
      · exact h4 t (by omega) k'
theorem gw_fst_ex {P : Nat → Bool} {p : Nat} (hp : P p = true) : ∀ d q, q ≤ p → p < q + d → ∃ r, gw_fst P d q = some r := by
  intro d
  induction d with
  | zero => intro q a b; omega
  | succ d ih =>
    intro q a b
    by_cases c : P q = true
    · exact ⟨q, gw_fst_t c⟩
    · rw [gw_fst_f c]
      refine ih (q + 1) ?_ (by omega)
      by_cases z : p = q
      · rw [z] at hp; exact absurd hp c
      · omega
