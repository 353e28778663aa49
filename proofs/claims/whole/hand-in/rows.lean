section
theorem pk_us {f : Nat → Int32} {k : Nat} {x : Int32} : upd f k x k = x := if_pos rfl
theorem pk_un {f : Nat → Int32} {k j : Nat} {x : Int32} (h : j ≠ k) : upd f k x j = f j := if_neg h
theorem pk_sub {a b : Nat} (h : b ≤ a) : nI a - nI b = nI (a - b) := by
  obtain ⟨c, rfl⟩ : ∃ c, a = c + b := ⟨a - b, by omega⟩
  rw [← nI_add, Int32.add_sub_cancel, Nat.add_sub_cancel]
theorem pk_m1 (n : Nat) : nI (n + 1) + (-1) = nI n := by
  rw [← nI_1, Int32.add_assoc, show (1 : Int32) + (-1) = 0 from rfl, Int32.add_zero]
theorem pk_mul (a b : Nat) : nI a * nI b = nI (a * b) := (Int32.ofNat_mul a b).symm
theorem pk_div {a d : Nat} (ha : a < 2 ^ 31) (h0 : 0 < d) (hd : d < 2 ^ 31) : nI a / nI d = nI (a / d) := by
  apply Int32.toInt_inj.mp
  rw [lg_idiv_nonneg (by rw [nI_toInt ha]; omega) (by rw [nI_toInt hd]; omega), nI_toInt ha, nI_toInt hd, nI_toInt (Nat.lt_of_le_of_lt (Nat.div_le_self a d) ha)]
  first | rfl | exact (Int.natCast_ediv _ _).symm
theorem pk_rem {a d : Nat} (ha : a < 2 ^ 31) (h0 : 0 < d) (hd : d < 2 ^ 31) : nI a - nI a / nI d * nI d = nI (a % d) := by
  rw [pk_div ha h0 hd, pk_mul, pk_sub (Nat.div_mul_le_self a d)]
  exact congrArg nI (by have := Nat.div_add_mod' a d; omega)
theorem pk_sub_toInt {a b : Nat} (ha : a < 2 ^ 30) (hb : b < 2 ^ 30) : (nI a - nI b).toInt = (a : Int) - b := by
  rw [Int32.toInt_sub, nI_toInt (by omega), nI_toInt (by omega)]
  exact Int.bmod_eq_of_le (by omega) (by omega)
theorem pk_sneg {a b : Nat} (hb : b < 2 ^ 30) (h : a < b) : nI a - nI b < 0 := by
  rw [Int32.lt_iff_toInt_lt, pk_sub_toInt (by omega) hb, show (0 : Int32).toInt = 0 from by decide]
  omega
theorem pk_ix (x : Int32) {n : Nat} (hn : n < 2 ^ 31) : x < 0 ∨ nI n ≤ x ∨ ∃ j : Nat, j < n ∧ x = nI j := by
  by_cases h : x < 0
  · exact Or.inl h
  · obtain ⟨j, hj, rfl⟩ := nI_of h
    by_cases h2 : j < n
    · exact Or.inr (Or.inr ⟨j, h2, rfl⟩)
    · exact Or.inr (Or.inl (nI_le (by omega) hj))
theorem pk_le {x y : Int32} {A B : Prop} (a b : Nat) (f : a ≤ b → A) (g : b < a → B) (hx : x = nI a := by rfl) (hy : y = nI b := by rfl) (ha : a < 2 ^ 31 := by omega) (hb : b < 2 ^ 31 := by omega) : (x ≤ y → A) ∧ (¬ x ≤ y → B) := by
  subst hx hy
  rw [nI_leI ha hb]
  exact ⟨f, fun z => g (by omega)⟩
theorem pk_lt {x y : Int32} {A B : Prop} (a b : Nat) (f : a < b → A) (g : b ≤ a → B) (hx : x = nI a := by rfl) (hy : y = nI b := by rfl) (ha : a < 2 ^ 31 := by omega) (hb : b < 2 ^ 31 := by omega) : (x < y → A) ∧ (¬ x < y → B) := by
  subst hx hy
  rw [nI_ltI ha hb]
  exact ⟨f, fun z => g (by omega)⟩
theorem pk_eq {x y : Int32} {A B : Prop} (a b : Nat) (f : a = b → A) (g : a ≠ b → B) (hx : x = nI a := by rfl) (hy : y = nI b := by rfl) (ha : a < 2 ^ 31 := by omega) (hb : b < 2 ^ 31 := by omega) : (x = y → A) ∧ (¬ x = y → B) := by
  subst hx hy
  rw [nI_eq ha hb]
  exact ⟨f, g⟩
theorem pk_in {x : Int32} (n N : Nat) (h : n < N) (hx : x = nI n := by rfl) (hN : N < 2 ^ 31 := by omega) : vp_in x N := by
  subst hx
  exact vp_in_nI h hN
theorem pk_cl {x : Int32} (n : Nat) (hx : x = nI n := by rfl) (h : n < 2 ^ 31 := by omega) : x.toNatClampNeg = n := by
  subst hx
  exact nI_clamp h
theorem ek_if {c d A B : Prop} (e : c ↔ d) (f : d → A) (g : ¬ d → B) : (c → A) ∧ (¬ c → B) :=
  ⟨fun z => f (e.mp z), fun z => g (fun y => z (e.mpr y))⟩
theorem ek_v {α : Sort _} {P : α → Prop} {a b : α} (e : a = b) (h : P b) : P a := e ▸ h
theorem sb_cl0 : (0 : Int32).toNatClampNeg = 0 := by decide
theorem sb_negT {w : Nat} (h : w < 2 ^ 31) : (-nI w).toInt = -(w : Int) := by
  rw [Int32.toInt_neg, nI_toInt h]
  exact Int.bmod_eq_of_le (by omega) (by omega)
end
section
def gw_off (R w : Nat → Nat) : Nat → Nat
  | 0 => 0
  | p + 1 => gw_off R w p + R (w p)
def gw_G (R T w : Nat → Nat) : Nat → Nat → Nat
  | 0 => fun _ => 0
  | p + 1 => fun j => if j < gw_off R w p then gw_G R T w p j else T (4 * w p + (j - gw_off R w p))
def gw_gen (R T F : Nat → Nat) (fs : Nat) : Nat → Option (Nat × (Nat → Nat))
  | 0 => some (fs, F)
  | n + 1 => match gw_gen R T F fs n with
    | none => none
    | some q => if gw_off R q.2 q.1 ≤ 3000 then some (gw_off R q.2 q.1, gw_G R T q.2 q.1) else none
def gw_P (R T F : Nat → Nat) (fs : Nat) : Prop := (∀ c, c < 6 → R c ≤ 4) ∧ (∀ j, j < 24 → T j < 6) ∧ (∀ j, j < fs → F j < 6) ∧ 1 ≤ fs ∧ fs ≤ 8
theorem gw_off_s (R w : Nat → Nat) (p : Nat) : gw_off R w (p + 1) = gw_off R w p + R (w p) := rfl
theorem gw_off_le {R w : Nat → Nat} {p q : Nat} (h : p ≤ q) : gw_off R w p ≤ gw_off R w q := by
  induction h with
  | refl => exact Nat.le_refl _
  | step _ ih => exact Nat.le_trans ih (Nat.le_add_right _ _)
theorem gw_G_lo {R T w : Nat → Nat} {p j : Nat} (h : j < gw_off R w p) : gw_G R T w (p + 1) j = gw_G R T w p j := if_pos h
theorem gw_G_hi {R T w : Nat → Nat} {p i : Nat} : gw_G R T w (p + 1) (gw_off R w p + i) = T (4 * w p + i) := by
  show (if gw_off R w p + i < gw_off R w p then gw_G R T w p (gw_off R w p + i) else T (4 * w p + (gw_off R w p + i - gw_off R w p))) = _
  rw [if_neg (by omega), Nat.add_sub_cancel_left]
theorem gw_G_lt {R T w : Nat → Nat} {s : Nat} (hR : ∀ c, c < 6 → R c ≤ 4) (hT : ∀ j, j < 24 → T j < 6) (hw : ∀ j, j < s → w j < 6) : ∀ p, p ≤ s → ∀ j, j < gw_off R w p → gw_G R T w p j < 6 := by
  intro p
  induction p with
  | zero => intro _ j hj; exact absurd hj (Nat.not_lt_zero j)
  | succ p ih =>
    intro hp j hj
    rw [gw_off_s] at hj
    have h1 := hw p (by omega)
    have h2 := hR _ h1
    by_cases h : j < gw_off R w p
    · rw [gw_G_lo h]; exact ih (by omega) j h
    · obtain ⟨i, rfl⟩ : ∃ i, j = gw_off R w p + i := ⟨j - gw_off R w p, by omega⟩
      rw [gw_G_hi]; exact hT _ (by omega)
theorem gw_gen_no {R T F : Nat → Nat} {fs n : Nat} (g : gw_gen R T F fs n = none) : gw_gen R T F fs (n + 1) = none := by
  simp only [gw_gen, g]
theorem gw_gen_yes {R T F : Nat → Nat} {fs n s : Nat} {w : Nat → Nat} (g : gw_gen R T F fs n = some (s, w)) (c : gw_off R w s ≤ 3000) : gw_gen R T F fs (n + 1) = some (gw_off R w s, gw_G R T w s) := by
  simp only [gw_gen, g, if_pos c]
theorem gw_gen_long {R T F : Nat → Nat} {fs n s : Nat} {w : Nat → Nat} (g : gw_gen R T F fs n = some (s, w)) (c : ¬ gw_off R w s ≤ 3000) : gw_gen R T F fs (n + 1) = none := by
  simp only [gw_gen, g, if_neg c]
theorem gw_gen_nos {R T F : Nat → Nat} {fs n m : Nat} (g : gw_gen R T F fs n = none) (h : n ≤ m) : gw_gen R T F fs m = none := by
  induction h with
  | refl => exact g
  | step _ ih => exact gw_gen_no ih
theorem gw_gen_ok {R T F : Nat → Nat} {fs : Nat} (h : gw_P R T F fs) : ∀ n s w, gw_gen R T F fs n = some (s, w) → s ≤ 3000 ∧ ∀ j, j < s → w j < 6 := by
  intro n
  induction n with
  | zero =>
    intro s w e
    have e' : some (fs, F) = some (s, w) := e
    cases e'
    exact ⟨by have := h.2.2.2.2; omega, h.2.2.1⟩
  | succ n ih =>
    intro s w e
    cases g : gw_gen R T F fs n with
    | none => rw [gw_gen_no g] at e; cases e
    | some q =>
      obtain ⟨s0, w0⟩ := q
      have k := ih s0 w0 g
      by_cases c : gw_off R w0 s0 ≤ 3000
      · rw [gw_gen_yes g c] at e
        cases e
        exact ⟨c, gw_G_lt h.1 h.2.1 k.2 s0 (Nat.le_refl _)⟩
      · rw [gw_gen_long g c] at e; cases e
def gw_cnt (P : Nat → Bool) : Nat → Nat → Nat
  | 0, _ => 0
  | d + 1, q => (if P q = true then 1 else 0) + gw_cnt P d (q + 1)
theorem gw_cnt_s (P : Nat → Bool) (d q : Nat) : gw_cnt P (d + 1) q = (if P q = true then 1 else 0) + gw_cnt P d (q + 1) := rfl
theorem gw_cnt_t {P : Nat → Bool} {d q : Nat} (h : P q = true) : gw_cnt P (d + 1) q = gw_cnt P d (q + 1) + 1 := by
  rw [gw_cnt_s, if_pos h]; omega
theorem gw_cnt_f {P : Nat → Bool} {d q : Nat} (h : ¬ P q = true) : gw_cnt P (d + 1) q = gw_cnt P d (q + 1) := by
  rw [gw_cnt_s, if_neg h]; omega
theorem gw_cnt_le (P : Nat → Bool) : ∀ d q, gw_cnt P d q ≤ d := by
  intro d
  induction d with
  | zero => intro q; exact Nat.le_refl 0
  | succ d ih =>
    intro q
    have := ih (q + 1)
    rw [gw_cnt_s]
    split <;> omega
theorem gw_cnt_congr {P Q : Nat → Bool} : ∀ d q, (∀ t, q ≤ t → t < q + d → P t = Q t) → gw_cnt P d q = gw_cnt Q d q := by
  intro d
  induction d with
  | zero => intro q _; rfl
  | succ d ih =>
    intro q h
    rw [gw_cnt_s, gw_cnt_s, h q (by omega) (by omega), ih (q + 1) (fun t a b => h t (by omega) (by omega))]
theorem gw_cnt_zero {P : Nat → Bool} : ∀ d q, (∀ t, q ≤ t → t < q + d → P t = false) → gw_cnt P d q = 0 := by
  intro d
  induction d with
  | zero => intro q _; rfl
  | succ d ih =>
    intro q h
    rw [gw_cnt_f (by rw [h q (by omega) (by omega)]; decide), ih (q + 1) (fun t a b => h t (by omega) (by omega))]
theorem gw_cnt_add (P : Nat → Bool) (b : Nat) : ∀ a q, gw_cnt P (a + b) q = gw_cnt P a q + gw_cnt P b (q + a) := by
  intro a
  induction a with
  | zero => intro q; rw [Nat.zero_add, Nat.add_zero]; show _ = 0 + _; omega
  | succ a ih =>
    intro q
    rw [show a + 1 + b = (a + b) + 1 by omega, gw_cnt_s, gw_cnt_s, ih (q + 1), show q + 1 + a = q + (a + 1) by omega]
    omega
theorem gw_cnt_mid {P Q : Nat → Bool} {s a b : Nat} (hb : b ≤ s) (h1 : ∀ t, a ≤ t → t < b → P t = Q t) (h0 : ∀ t, t < s → ¬ (a ≤ t ∧ t < b) → P t = false) : gw_cnt P s 0 = gw_cnt Q (b - a) a := by
  by_cases h : a < b
  · have e1 := gw_cnt_add P ((b - a) + (s - b)) a 0
    have e2 := gw_cnt_add P (s - b) (b - a) a
    rw [show a + ((b - a) + (s - b)) = s by omega, Nat.zero_add] at e1
    rw [gw_cnt_zero a 0 (fun t _ k => h0 t (by omega) (by omega)), e2, gw_cnt_zero (s - b) (a + (b - a)) (fun t k k' => h0 t (by omega) (by omega))] at e1
    rw [e1, gw_cnt_congr (b - a) a (fun t k k' => h1 t k (by omega))]
    omega
  · rw [show b - a = 0 by omega]
    exact gw_cnt_zero s 0 (fun t _ k => h0 t (by omega) (by omega))
def gw_fst (P : Nat → Bool) : Nat → Nat → Option Nat
  | 0, _ => none
  | d + 1, q => if P q = true then some q else gw_fst P d (q + 1)
theorem gw_fst_t {P : Nat → Bool} {d q : Nat} (h : P q = true) : gw_fst P (d + 1) q = some q := if_pos h
theorem gw_fst_f {P : Nat → Bool} {d q : Nat} (h : ¬ P q = true) : gw_fst P (d + 1) q = gw_fst P d (q + 1) := if_neg h
theorem gw_fst_congr {P Q : Nat → Bool} : ∀ d q, (∀ t, q ≤ t → t < q + d → P t = Q t) → gw_fst P d q = gw_fst Q d q := by
  intro d
  induction d with
  | zero => intro q _; rfl
  | succ d ih =>
    intro q h
    have e := h q (by omega) (by omega)
    have i := ih (q + 1) (fun t a b => h t (by omega) (by omega))
    by_cases c : P q = true
    · rw [gw_fst_t c, gw_fst_t (by rw [← e]; exact c)]
    · rw [gw_fst_f c, gw_fst_f (by rw [← e]; exact c), i]
theorem gw_fst_none {P : Nat → Bool} : ∀ d q, (∀ t, q ≤ t → t < q + d → P t = false) → gw_fst P d q = none := by
  intro d
  induction d with
  | zero => intro q _; rfl
  | succ d ih =>
    intro q h
    rw [gw_fst_f (by rw [h q (by omega) (by omega)]; decide), ih (q + 1) (fun t a b => h t (by omega) (by omega))]
theorem gw_fst_skip {P : Nat → Bool} (b : Nat) : ∀ a q, (∀ t, q ≤ t → t < q + a → P t = false) → gw_fst P (a + b) q = gw_fst P b (q + a) := by
  intro a
  induction a with
  | zero => intro q _; rw [Nat.zero_add, Nat.add_zero]
  | succ a ih =>
    intro q h
    rw [show a + 1 + b = (a + b) + 1 by omega, gw_fst_f (by rw [h q (by omega) (by omega)]; decide), ih (q + 1) (fun t k k' => h t (by omega) (by omega)), show q + 1 + a = q + (a + 1) by omega]
theorem gw_fst_app {P : Nat → Bool} (b : Nat) : ∀ a q, (∀ t, q + a ≤ t → t < q + a + b → P t = false) → gw_fst P (a + b) q = gw_fst P a q := by
  intro a
  induction a with
  | zero =>
    intro q h
    rw [Nat.zero_add, gw_fst_none b q (fun t k k' => h t (by omega) (by omega))]
    rfl
  | succ a ih =>
    intro q h
    have i := ih (q + 1) (fun t k k' => h t (by omega) (by omega))
    rw [show a + 1 + b = (a + b) + 1 by omega]
    by_cases c : P q = true
    · rw [gw_fst_t c, gw_fst_t c]
    · rw [gw_fst_f c, gw_fst_f c, i]
theorem gw_fst_mid {P Q : Nat → Bool} {s a b : Nat} (hb : b ≤ s) (h1 : ∀ t, a ≤ t → t < b → P t = Q t) (h0 : ∀ t, t < s → ¬ (a ≤ t ∧ t < b) → P t = false) : gw_fst P s 0 = gw_fst Q (b - a) a := by
  by_cases h : a < b
  · have e1 := gw_fst_skip (P := P) ((b - a) + (s - b)) a 0 (fun t _ k => h0 t (by omega) (by omega))
    have e2 := gw_fst_app (P := P) (s - b) (b - a) a (fun t k k' => h0 t (by omega) (by omega))
    rw [show a + ((b - a) + (s - b)) = s by omega, Nat.zero_add, e2] at e1
    rw [e1, gw_fst_congr (b - a) a (fun t k k' => h1 t k (by omega))]
  · rw [show b - a = 0 by omega]
    exact gw_fst_none s 0 (fun t _ k => h0 t (by omega) (by omega))
theorem gw_fst_some {P : Nat → Bool} : ∀ d q r, gw_fst P d q = some r → q ≤ r ∧ r < q + d ∧ P r = true ∧ ∀ t, q ≤ t → t < r → P t = false := by
  intro d
  induction d with
  | zero => intro q r h; cases h
  | succ d ih =>
    intro q r h
    by_cases c : P q = true
    · rw [gw_fst_t c] at h
      cases h
      exact ⟨Nat.le_refl _, by omega, c, fun t k k' => by omega⟩
    · rw [gw_fst_f c] at h
      obtain ⟨h1, h2, h3, h4⟩ := ih (q + 1) r h
      refine ⟨by omega, by omega, h3, fun t k k' => ?_⟩
      by_cases z : t = q
      · rw [z]; exact Bool.eq_false_iff.mpr c
      · exact h4 t (by omega) k'
theorem gw_fst_ex {P : Nat → Bool} {p : Nat} (hp : P p = true) : ∀ d q, q ≤ p → p < q + d → ∃ r, gw_fst P d q = some r := by
  intro d
  induction d with
  | zero => intro q a b; omega
  | succ d ih =>
    intro q a b
    by_cases c : P q = true
    · exact ⟨q, gw_fst_t c⟩
    · rw [gw_fst_f c]
      refine ih (q + 1) ?_ (by omega)
      by_cases z : p = q
      · rw [z] at hp; exact absurd hp c
      · omega
end
section
def gw_hor (f : Nat → Nat) : Nat → Nat → Nat
  | 0, _ => 0
  | m + 1, a => (f a + 1) + 7 * gw_hor f m (a + 1)
theorem gw_hor_s (f : Nat → Nat) (m a : Nat) : gw_hor f (m + 1) a = (f a + 1) + 7 * gw_hor f m (a + 1) := rfl
theorem gw_hor_lt {f : Nat → Nat} : ∀ m a, (∀ i, i < m → f (a + i) < 6) → gw_hor f m a < 7 ^ m := by
  intro m
  induction m with
  | zero => intro a _; exact Nat.zero_lt_one
  | succ m ih =>
    intro a h
    have h0 := h 0 (by omega)
    have h1 := ih (a + 1) (fun i hi => by rw [show a + 1 + i = a + (i + 1) by omega]; exact h (i + 1) (by omega))
    rw [Nat.add_zero] at h0
    rw [gw_hor_s, Nat.pow_succ]
    generalize 7 ^ m = z at h1
    omega
theorem gw_hor_inj {f g : Nat → Nat} : ∀ m a b, (∀ i, i < m → f (a + i) < 6) → (∀ i, i < m → g (b + i) < 6) → (gw_hor f m a = gw_hor g m b ↔ ∀ i, i < m → f (a + i) = g (b + i)) := by
  intro m
  induction m with
  | zero => intro a b _ _; exact ⟨fun _ i hi => absurd hi (Nat.not_lt_zero i), fun _ => rfl⟩
  | succ m ih =>
    intro a b hf hg
    have f0 : f a < 6 := hf 0 (by omega)
    have g0 : g b < 6 := hg 0 (by omega)
    have i1 := ih (a + 1) (b + 1) (fun i hi => by rw [show a + 1 + i = a + (i + 1) by omega]; exact hf (i + 1) (by omega)) (fun i hi => by rw [show b + 1 + i = b + (i + 1) by omega]; exact hg (i + 1) (by omega))
    rw [gw_hor_s, gw_hor_s]
    constructor
    · intro e i hi
      have e0 : f a = g b := by omega
      have e1 : gw_hor f m (a + 1) = gw_hor g m (b + 1) := by omega
      cases i with
      | zero => exact e0
      | succ i =>
        have := i1.mp e1 i (by omega)
        rw [show a + 1 + i = a + (i + 1) by omega, show b + 1 + i = b + (i + 1) by omega] at this
        exact this
    · intro h
      have e0 : f a = g b := h 0 (by omega)
      have e1 := i1.mpr (fun i hi => by rw [show a + 1 + i = a + (i + 1) by omega, show b + 1 + i = b + (i + 1) by omega]; exact h (i + 1) (by omega))
      rw [e0, e1]
def gw_dg (x k : Nat) : Nat := x / 7 ^ k % 7 - 1
def gw_len (x : Nat) : Nat → Nat → Nat
  | 0, k => k
  | d + 1, k => if x / 7 ^ k % 7 = 0 then k else gw_len x d (k + 1)
theorem gw_len_z {x d k : Nat} (h : x / 7 ^ k % 7 = 0) : gw_len x (d + 1) k = k := if_pos h
theorem gw_len_n {x d k : Nat} (h : ¬ x / 7 ^ k % 7 = 0) : gw_len x (d + 1) k = gw_len x d (k + 1) := if_neg h
theorem gw_len_b (x : Nat) : ∀ d k, k ≤ gw_len x d k ∧ gw_len x d k ≤ k + d := by
  intro d
  induction d with
  | zero => intro k; exact ⟨Nat.le_refl _, Nat.le_refl _⟩
  | succ d ih =>
    intro k
    have := ih (k + 1)
    by_cases c : x / 7 ^ k % 7 = 0
    · rw [gw_len_z c]; omega
    · rw [gw_len_n c]; omega
theorem gw_len_nz (x : Nat) : ∀ d k j, k ≤ j → j < gw_len x d k → ¬ x / 7 ^ j % 7 = 0 := by
  intro d
  induction d with
  | zero => intro k j a b; exact absurd b (Nat.not_lt.mpr a)
  | succ d ih =>
    intro k j a b
    by_cases c : x / 7 ^ k % 7 = 0
    · rw [gw_len_z c] at b; omega
    · rw [gw_len_n c] at b
      by_cases z : j = k
      · rw [z]; exact c
      · exact ih (k + 1) j (by omega) b
theorem gw_div7 (x k : Nat) : x / 7 ^ k / 7 = x / 7 ^ (k + 1) := by
  rw [Nat.div_div_eq_div_mul, Nat.pow_succ]
theorem gw_dg_lt (x k : Nat) : gw_dg x k < 6 := by
  unfold gw_dg
  omega
theorem gw_hor_dg (x : Nat) : ∀ d k, (∀ j, k ≤ j → j < k + d → ¬ x / 7 ^ j % 7 = 0) → x / 7 ^ (k + d) = 0 → gw_hor (gw_dg x) d k = x / 7 ^ k := by
  intro d
  induction d with
  | zero => intro k _ h; exact h.symm
  | succ d ih =>
    intro k h h0
    have i := ih (k + 1) (fun j a b => h j (by omega) (by omega)) (by rw [show k + 1 + d = k + (d + 1) by omega]; exact h0)
    have hk := h k (by omega) (by omega)
    have hd := gw_div7 x k
    rw [gw_hor_s, i, ← hd]
    unfold gw_dg
    omega
def gw_cd (f : Nat → Nat) (a : Nat) : Nat → Nat
  | 0 => 0
  | i + 1 => 6 * gw_cd f a i + f (a + i)
theorem gw_cd_s (f : Nat → Nat) (a i : Nat) : gw_cd f a (i + 1) = 6 * gw_cd f a i + f (a + i) := rfl
theorem gw_cd_lt {f : Nat → Nat} {a : Nat} : ∀ m, (∀ i, i < m → f (a + i) < 6) → gw_cd f a m < 6 ^ m := by
  intro m
  induction m with
  | zero => intro _; exact Nat.zero_lt_one
  | succ m ih =>
    intro h
    have h0 := h m (by omega)
    have h1 := ih (fun i hi => h i (by omega))
    rw [gw_cd_s, Nat.pow_succ]
    generalize 6 ^ m = z at h1
    omega
theorem gw_cd_inj {f : Nat → Nat} {a b : Nat} : ∀ m, (∀ i, i < m → f (a + i) < 6) → (∀ i, i < m → f (b + i) < 6) → (gw_cd f a m = gw_cd f b m ↔ ∀ i, i < m → f (a + i) = f (b + i)) := by
  intro m
  induction m with
  | zero => intro _ _; exact ⟨fun _ i hi => absurd hi (Nat.not_lt_zero i), fun _ => rfl⟩
  | succ m ih =>
    intro hf hg
    have f0 := hf m (by omega)
    have g0 := hg m (by omega)
    have i1 := ih (fun i hi => hf i (by omega)) (fun i hi => hg i (by omega))
    rw [gw_cd_s, gw_cd_s]
    constructor
    · intro e i hi
      have e0 : f (a + m) = f (b + m) := by omega
      have e1 : gw_cd f a m = gw_cd f b m := by omega
      by_cases z : i = m
      · rw [z]; exact e0
      · exact i1.mp e1 i (by omega)
    · intro h
      rw [h m (by omega), i1.mpr (fun i hi => h i (by omega))]
def gw_S (C : Nat → Nat) : Nat → Nat → Bool
  | 0 => fun _ => false
  | m + 1 => fun c => if c = C m then true else gw_S C m c
theorem gw_S_mem (C : Nat → Nat) : ∀ m c, gw_S C m c = true ↔ ∃ p, p < m ∧ C p = c := by
  intro m
  induction m with
  | zero => intro c; exact ⟨fun h => absurd h Bool.false_ne_true, fun ⟨p, hp, _⟩ => absurd hp (Nat.not_lt_zero p)⟩
  | succ m ih =>
    intro c
    show (if c = C m then true else gw_S C m c) = true ↔ _
    by_cases z : c = C m
    · rw [if_pos z]
      exact ⟨fun _ => ⟨m, by omega, z.symm⟩, fun _ => rfl⟩
    · rw [if_neg z, ih c]
      constructor
      · intro ⟨p, hp, e⟩; exact ⟨p, by omega, e⟩
      · intro ⟨p, hp, e⟩
        refine ⟨p, ?_, e⟩
        by_cases y : p = m
        · rw [y] at e; exact absurd e.symm z
        · omega
theorem gw_cnt_new {P : Nat → Bool} {c : Nat} (hc : P c = false) : ∀ N q, q ≤ c → c < q + N → gw_cnt (fun t => if t = c then true else P t) N q = gw_cnt P N q + 1 := by
  intro N
  induction N with
  | zero => intro q a b; omega
  | succ N ih =>
    intro q a b
    by_cases z : q = c
    · subst z
      rw [gw_cnt_t (by exact if_pos rfl), gw_cnt_f (by rw [hc]; decide)]
      exact congrArg (· + 1) (gw_cnt_congr N (q + 1) (fun t k _ => if_neg (by omega)))
    · have i := ih (q + 1) (by omega) (by omega)
      rw [gw_cnt_s, gw_cnt_s, i]
      have e : (if q = c then true else P q) = P q := if_neg z
      rw [e]
      omega
theorem gw_kinds (C : Nat → Nat) (N : Nat) : ∀ m, (∀ p, p < m → C p < N) → gw_cnt (gw_S C m) N 0 = gw_cnt (fun p => !(gw_S C p (C p))) m 0 := by
  intro m
  induction m with
  | zero => intro _; exact gw_cnt_zero N 0 (fun _ _ _ => rfl)
  | succ m ih =>
    intro h
    have i := ih (fun p hp => h p (by omega))
    have hm := h m (by omega)
    rw [gw_cnt_add (fun p => !(gw_S C p (C p))) 1 m 0, ← i, Nat.zero_add]
    by_cases z : gw_S C m (C m) = true
    · have e : gw_cnt (gw_S C (m + 1)) N 0 = gw_cnt (gw_S C m) N 0 := by
        refine gw_cnt_congr N 0 (fun t _ _ => ?_)
        show (if t = C m then true else gw_S C m t) = _
        by_cases y : t = C m
        · rw [if_pos y, y, z]
        · rw [if_neg y]
      rw [e, gw_cnt_f (by rw [z]; decide)]
      rfl
    · have z' : gw_S C m (C m) = false := Bool.eq_false_iff.mpr z
      have e : gw_cnt (gw_S C (m + 1)) N 0 = gw_cnt (gw_S C m) N 0 + 1 := gw_cnt_new z' N 0 (by omega) (by omega)
      rw [e, gw_cnt_t (by rw [z']; decide)]
      rfl
def gw_mn (a b : Int32) : Int32 := if b ≤ a then b else a
def gw_mx (a b : Int32) : Int32 := if a ≤ b then b else a
theorem gw_mn_c (a b : Int32) : gw_mn a b = gw_mn b a := by
  unfold gw_mn
  by_cases h : b ≤ a
  · by_cases k : a ≤ b
    · rw [if_pos h, if_pos k]
      exact Int32.le_antisymm h k
    · rw [if_pos h, if_neg k]
  · by_cases k : a ≤ b
    · rw [if_neg h, if_pos k]
    · exact absurd (Int32.le_of_lt (Int32.not_le.mp h)) k
theorem gw_mx_c (a b : Int32) : gw_mx a b = gw_mx b a := by
  unfold gw_mx
  by_cases h : a ≤ b
  · by_cases k : b ≤ a
    · rw [if_pos h, if_pos k]
      exact Int32.le_antisymm k h
    · rw [if_pos h, if_neg k]
  · by_cases k : b ≤ a
    · rw [if_neg h, if_pos k]
    · exact absurd (Int32.le_of_lt (Int32.not_le.mp h)) k
def gw_tx (a d : Int32) : Int32 := if a = 1 then (if d = 0 then 1 else if d = 2 then -1 else 0) else 0
def gw_ty (a d : Int32) : Int32 := if a = 1 then (if d = 1 then 1 else if d = 3 then -1 else 0) else 0
def gw_td (a d : Int32) : Int32 := if a = 2 then (d + 1) - (d + 1) / 4 * 4 else if a = 3 then (d + 3) - (d + 3) / 4 * 4 else d
def gw_d (act : Nat → Int32) : Nat → Int32
  | 0 => 0
  | p + 1 => gw_td (act p) (gw_d act p)
def gw_x (act : Nat → Int32) : Nat → Int32
  | 0 => 0
  | p + 1 => gw_x act p + gw_tx (act p) (gw_d act p)
def gw_y (act : Nat → Int32) : Nat → Int32
  | 0 => 0
  | p + 1 => gw_y act p + gw_ty (act p) (gw_d act p)
def gw_le (g : Nat → Int32) : Nat → Int32
  | 0 => 0
  | p + 1 => gw_mn (gw_le g p) (g (p + 1))
def gw_gr (g : Nat → Int32) : Nat → Int32
  | 0 => 0
  | p + 1 => gw_mx (gw_gr g p) (g (p + 1))
theorem gw_sle {p s m : Nat} (hp : p < 2 ^ 31) (hs : s < 2 ^ 30) (hm : m < 2 ^ 30) : nI p ≤ nI s - nI m ↔ p + m ≤ s := by
  rw [Int32.le_iff_toInt_le, nI_toInt hp, pk_sub_toInt hs hm]
  omega
theorem gw_nar {c : Nat} (h : c < 6) : vp_nar .byte (nI c) = nI c := by
  rw [vp_nar_byte]
  have : ∀ c, c < 6 → (nI c).toInt8.toInt32 = nI c := by decide +kernel
  exact this c h
theorem gw_3000 {n p : Nat} : nI n * 3000 + nI p = nI (n * 3000 + p) := by
  rw [show (3000 : Int32) = nI 3000 from by decide, pk_mul, nI_add]
theorem gw_m1 {n : Nat} (h : n < 2 ^ 31) : ¬ nI n = -1 := by
  intro e
  have := congrArg Int32.toInt e
  rw [nI_toInt h, show (-1 : Int32).toInt = -1 by decide] at this
  omega
def gw_rh (w : Nat → Nat) : Nat → Int32
  | 0 => 0
  | p + 1 => if 0 < p ∧ w p = w (p - 1) then gw_rh w p + 1 else 1
def gw_pre (w w' : Nat → Nat) : Nat → Nat → Nat
  | 0, p => p
  | d + 1, p => if w p = w' p then gw_pre w w' d (p + 1) else p
theorem gw_pre_t {w w' : Nat → Nat} {d p : Nat} (h : w p = w' p) : gw_pre w w' (d + 1) p = gw_pre w w' d (p + 1) := if_pos h
theorem gw_pre_f {w w' : Nat → Nat} {d p : Nat} (h : ¬ w p = w' p) : gw_pre w w' (d + 1) p = p := if_neg h
end
section
def gx_g (R T F : Nat → Nat) (fs n : Nat) (l : Int32) (g : Nat → Int32) : Prop :=
  (gw_gen R T F fs n = none → l = -1) ∧ (∀ s w, gw_gen R T F fs n = some (s, w) → l = nI s ∧ ∀ j, j < s → g (n * 3000 + j) = nI (w j))
def gx_r (R T : Nat → Nat) (la lb : Nat → Int32) : Prop := (∀ c, c < 6 → lb c = nI (R c)) ∧ (∀ j, j < 24 → la j = nI (T j))
def gx_V (g L : Nat → Int32) (n s : Nat) (w : Nat → Nat) : Prop := n < 13 ∧ s ≤ 3000 ∧ L n = nI s ∧ ∀ j, j < s → w j < 6 ∧ g (n * 3000 + j) = nI (w j)
theorem gx_letterOf {post : Int32 → Prop} {la lb ac g L : Nat → Int32} {n s p : Nat} {w : Nat → Nat} (V : gx_V g L n s w) (hp : p < s) (h : post (nI (w p))) : wpX_letterOf post (la, lb, ac, g, L, 39000) (nI n) (nI p) := by
  have hg := (V.2.2.2 p hp).2
  have hn := V.1
  have hs := V.2.1
  unfold wpX_letterOf
  dsimp only
  rw [gw_3000, nI_clamp (by omega), hg]
  exact ⟨vp_in_nI (by omega) (by omega), h⟩
theorem gx_in {post : Int32 → SX → Prop} {J : Int32 → Int32 → (Nat → Int32) → (Nat → Int32) → (Nat → Int32) → (Nat → Int32) → (Nat → Int32) → Prop} {la lb ac L g0 : Nat → Int32} {R T w : Nat → Nat} {n q : Nat}
    (hr : gx_r R T la lb) (hR : ∀ c, c < 6 → R c ≤ 4) (hT : ∀ j, j < 24 → T j < 6) (hn : n < 13) (hc : w q < 6) (ho : gw_off R w q + R (w q) ≤ 3000)
    (K : ∀ g', (∀ j, j < n * 3000 → g' j = g0 j) → (∀ j, j < gw_off R w (q + 1) → g' (n * 3000 + j) = nI (gw_G R T w (q + 1) j)) → J (nI (gw_off R w (q + 1))) (nI (q + 1)) la lb ac g' L) :
    ∀ d i g, i + d = R (w q) → (∀ j, j < n * 3000 → g j = g0 j) → (∀ j, j < gw_off R w q + i → g (n * 3000 + j) = nI (gw_G R T w (q + 1) j)) →
      wX_growInto_60 post J (nI n) (nI (gw_off R w q)) (nI q) (nI (w q)) 39000 (d + 1) (nI i) la lb ac g L := by
  intro d
  have hb := hr.1 _ hc
  have h4 := hR _ hc
  induction d with
  | zero =>
    intro i g hi h1 h2
    rw [wX_growInto_60]
    dsimp only
    rw [nI_clamp (by omega), hb]
    refine ⟨vp_in_nI hc (by omega), br_t (nI_le (by omega) (by omega)) ⟨vp_in_nI hc (by omega), nm_r (nI_add _ _) (nm_r (nI_1 _) ?_)⟩⟩
    exact K g h1 (fun j hj => h2 j (by rw [gw_off_s] at hj; omega))
  | succ d ih =>
    intro i g hi h1 h2
    rw [wX_growInto_60]
    dsimp only
    have e4 : nI (w q) * 4 + nI i = nI (4 * w q + i) := by
      rw [show (4 : Int32) = nI 4 from by decide, pk_mul, nI_add, Nat.mul_comm]
    have ha := hr.2 (4 * w q + i) (by omega)
    have ht := hT (4 * w q + i) (by omega)
    have e5 : nI n * 3000 + nI (gw_off R w q) + nI i = nI (n * 3000 + gw_off R w q + i) := by rw [gw_3000, nI_add]
    rw [nI_clamp (by omega), hb, e4, e5, nI_clamp (by omega), nI_clamp (by omega), ha, gw_nar ht]
    refine ⟨vp_in_nI hc (by omega), br_f (nI_ge (by omega) (by omega)) ⟨vp_in_nI (by omega) (by omega), vp_in_nI (by omega) (by omega), nm_e (nm_r (nI_1 _) ?_)⟩⟩
    refine ih (i + 1) _ (by omega) (fun j hj => ?_) (fun j hj => ?_)
    · rw [pk_un (by omega)]
      exact h1 j hj
    · by_cases z : j = gw_off R w q + i
      · rw [z, ← Nat.add_assoc, pk_us, gw_G_hi]
      · rw [pk_un (by omega)]
        exact h2 j (by omega)
theorem gx_out {post : Int32 → SX → Prop} {la lb ac g L : Nat → Int32} {R T w : Nat → Nat} {m s : Nat}
    (hr : gx_r R T la lb) (hR : ∀ c, c < 6 → R c ≤ 4) (hT : ∀ j, j < 24 → T j < 6) (hn : m + 1 < 13) (V : gx_V g L m s w)
    (H1 : gw_off R w s ≤ 3000 → ∀ g', (∀ j, j < (m + 1) * 3000 → g' j = g j) → (∀ j, j < gw_off R w s → g' ((m + 1) * 3000 + j) = nI (gw_G R T w s j)) → post (nI (gw_off R w s)) (la, lb, ac, g', L, 39000))
    (H2 : ¬ gw_off R w s ≤ 3000 → ∀ g', (∀ j, j < (m + 1) * 3000 → g' j = g j) → post (-1) (la, lb, ac, g', L, 39000)) :
    ∀ d p g', p + d = s → gw_off R w p ≤ 3000 → (∀ j, j < (m + 1) * 3000 → g' j = g j) → (∀ j, j < gw_off R w p → g' ((m + 1) * 3000 + j) = nI (gw_G R T w p j)) →
      wX_growInto_18 post (nI (m + 1)) 39000 (d + 1) (nI (gw_off R w p)) (nI p) la lb ac g' L := by
  intro d
  have hs := V.2.1
  induction d with
  | zero =>
    intro p g' hp ho h1 h2
    rw [wX_growInto_18]
    dsimp only
    rw [nI_pred, nI_clamp (by omega), V.2.2.1]
    have e : p = s := by omega
    subst e
    exact ⟨vp_in_nI (by omega) (by omega), br_t (nI_le (by omega) (by omega)) (H1 ho g' h1 h2)⟩
  | succ d ih =>
    intro p g' hp ho h1 h2
    rw [wX_growInto_18]
    dsimp only
    rw [nI_pred, nI_clamp (by omega), V.2.2.1]
    refine ⟨vp_in_nI (by omega) (by omega), br_f (nI_ge (by omega) (by omega)) ?_⟩
    have V' : gx_V g' L m s w := ⟨V.1, V.2.1, V.2.2.1, fun j hj => ⟨(V.2.2.2 j hj).1, by rw [h1 _ (by omega)]; exact (V.2.2.2 j hj).2⟩⟩
    refine gx_letterOf V' (by omega) ?_
    have hc := (V.2.2.2 p (by omega)).1
    have h4 := hR _ hc
    rw [nI_clamp (by omega), hr.1 _ hc, nI_add]
    refine ⟨vp_in_nI hc (by omega), ?_⟩
    by_cases z : gw_off R w p + R (w p) ≤ 3000
    · refine br_t (nI_le (b := 3000) z (by decide)) ⟨R (w p) + 1, ?_⟩
      refine gx_in (g0 := g) hr hR hT hn hc z ?_ (R (w p)) 0 g' (by omega) h1 (fun j hj => ?_)
      · intro g'' k1 k2
        exact ih (p + 1) g'' (by omega) (by rw [gw_off_s]; exact z) k1 k2
      · rw [gw_G_lo (by omega)]
        exact h2 j (by omega)
    · refine br_f (nI_ge (b := gw_off R w p + R (w p)) (a := 3000) (by omega) (by omega)) ?_
      refine H2 ?_ g' h1
      have := gw_off_le (R := R) (w := w) (show p + 1 ≤ s by omega)
      rw [gw_off_s] at this
      omega
theorem gx_view {R T F : Nat → Nat} {fs n s : Nat} {g L : Nat → Int32} {w : Nat → Nat} (hP : gw_P R T F fs) (hn : n < 13) (h : gx_g R T F fs n (L n) g) (e : gw_gen R T F fs n = some (s, w)) : gx_V g L n s w := by
  have k := gw_gen_ok hP n s w e
  have k2 := h.2 s w e
  exact ⟨hn, k.1, k2.1, fun j hj => ⟨k.2 j hj, k2.2 j hj⟩⟩
theorem gx_growInto {post : Int32 → SX → Prop} {la lb ac g L : Nat → Int32} {R T F : Nat → Nat} {fs m : Nat}
    (hP : gw_P R T F fs) (hr : gx_r R T la lb) (hn : m + 1 < 13) (h : gx_g R T F fs m (L m) g)
    (H : ∀ g' r, (∀ j, j < (m + 1) * 3000 → g' j = g j) → gx_g R T F fs (m + 1) r g' → post r (la, lb, ac, g', L, 39000)) :
    wpX_growInto post (la, lb, ac, g, L, 39000) (nI (m + 1)) := by
  unfold wpX_growInto
  dsimp only
  rw [nI_pred, nI_clamp (by omega)]
  refine ⟨vp_in_nI (by omega) (by omega), ?_⟩
  cases e : gw_gen R T F fs m with
  | none =>
    rw [h.1 e]
    refine br_t rfl (H g (-1) (fun _ _ => rfl) ⟨fun _ => rfl, fun s w k => ?_⟩)
    rw [gw_gen_no e] at k
    cases k
  | some q =>
    obtain ⟨s, w⟩ := q
    have V := gx_view hP (by omega) h e
    have hs := V.2.1
    rw [V.2.2.1]
    refine br_f (gw_m1 (by omega)) ⟨s + 1, ?_⟩
    refine gx_out hr hP.1 hP.2.1 hn V ?_ ?_ s 0 g (by omega) (by exact Nat.zero_le _) (fun _ _ => rfl) (fun j hj => absurd hj (Nat.not_lt_zero j))
    · intro c g' k1 k2
      refine H g' _ k1 ⟨fun z => ?_, fun s' w' z => ?_⟩
      · rw [gw_gen_yes e c] at z
        cases z
      · rw [gw_gen_yes e c] at z
        cases z
        exact ⟨rfl, k2⟩
    · intro c g' k1
      refine H g' _ k1 ⟨fun _ => rfl, fun s' w' z => ?_⟩
      rw [gw_gen_long e c] at z
      cases z
theorem gx_all {post : SX → Prop} {la lb ac : Nat → Int32} {R T F : Nat → Nat} {fs : Nat} (hP : gw_P R T F fs) (hr : gx_r R T la lb)
    (H : ∀ g L, (∀ n, n < 13 → gx_g R T F fs n (L n) g) → post (la, lb, ac, g, L, 39000)) :
    ∀ d n g L, n + 1 + d = 13 → (∀ m, m < n + 1 → gx_g R T F fs m (L m) g) → wX_growAll_2 post (d + 1) (nI (n + 1)) la lb ac g L 39000 := by
  intro d
  induction d with
  | zero =>
    intro n g L hn h
    rw [wX_growAll_2]
    dsimp only
    exact br_t (nI_le (a := 13) (by omega) (by omega)) (H g L (fun m hm => h m (by omega)))
  | succ d ih =>
    intro n g L hn h
    rw [wX_growAll_2]
    dsimp only
    refine br_f (nI_ge (b := 13) (by omega) (by decide)) ?_
    refine gx_growInto hP hr (by omega) (h n (by omega)) ?_
    intro g' r k1 k2
    dsimp only
    rw [nI_clamp (by omega)]
    refine ⟨vp_in_nI (by omega) (by omega), nm_e (nm_r (nI_1 _) ?_)⟩
    refine ih (n + 1) g' _ (by omega) (fun m hm => ?_)
    by_cases z : m = n + 1
    · rw [z, pk_us]
      exact k2
    · rw [pk_un z]
      have k := h m (by omega)
      refine ⟨k.1, fun s w e => ⟨(k.2 s w e).1, fun j hj => ?_⟩⟩
      have := (gw_gen_ok hP m s w e).1
      rw [k1 _ (by omega)]
      exact (k.2 s w e).2 j hj
theorem gx_growAll {post : SX → Prop} {la lb ac g L : Nat → Int32} {R T F : Nat → Nat} {fs : Nat} (hP : gw_P R T F fs) (hr : gx_r R T la lb) (h0 : L 0 = nI fs) (hg : ∀ j, j < fs → g j = nI (F j))
    (H : ∀ g L, (∀ n, n < 13 → gx_g R T F fs n (L n) g) → post (la, lb, ac, g, L, 39000)) : wpX_growAll post (la, lb, ac, g, L, 39000) := by
  unfold wpX_growAll
  dsimp only
  refine ⟨13, ?_⟩
  refine gx_all hP hr H 12 0 g L (by omega) (fun m hm => ?_)
  have z : m = 0 := by omega
  subst z
  refine ⟨fun e => (by cases e), fun s w e => ?_⟩
  have e' : some (fs, F) = some (s, w) := e
  cases e'
  exact ⟨h0, fun j hj => by rw [Nat.zero_mul, Nat.zero_add]; exact hg j hj⟩
end
section
theorem gw_i8 {c : Nat} (h : c < 6) : (nI c).toInt8.toInt32 = nI c := by
  have : ∀ c, c < 6 → (nI c).toInt8.toInt32 = nI c := by decide +kernel
  exact this c h
theorem gw_rem7 {x i : Nat} (hx : x < 2 ^ 31) : nI (x / 7 ^ i) - nI (x / 7 ^ i) / 7 * 7 = nI (x / 7 ^ i % 7) :=
  pk_rem (Nat.lt_of_le_of_lt (Nat.div_le_self _ _) hx) (by decide) (by decide)
theorem gw_quo7 {x i : Nat} (hx : x < 2 ^ 31) : nI (x / 7 ^ i) / 7 = nI (x / 7 ^ (i + 1)) := by
  rw [← gw_div7]
  exact pk_div (Nat.lt_of_le_of_lt (Nat.div_le_self _ _) hx) (by decide) (by decide)
theorem gw_digit {x i : Nat} (hx : x < 2 ^ 31) (hz : ¬ x / 7 ^ i % 7 = 0) : nI (x / 7 ^ i) - nI (x / 7 ^ i) / 7 * 7 - 1 = nI (gw_dg x i) := by
  rw [gw_rem7 hx]
  have e : x / 7 ^ i % 7 = gw_dg x i + 1 := by unfold gw_dg; omega
  rw [e]
  exact nI_pred _
theorem gw_remneg {y : Int32} (h : y < 0) : y - y / 7 * 7 ≤ 0 := by
  rw [Int32.lt_iff_toInt_lt, show (0 : Int32).toInt = 0 by decide] at h
  rw [Int32.le_iff_toInt_le, rem_toInt, show (0 : Int32).toInt = 0 by decide, show (7 : Int32).toInt = 7 by decide]
  have k := Int.tmod_nonneg 7 (show 0 ≤ -y.toInt by omega)
  rw [Int.neg_tmod] at k
  omega
def gw_Bad (most : Nat) (y : Int32) : Prop := y < 0 ∨ ∃ x, x < 2 ^ 31 ∧ y = nI x ∧ ¬ x / 7 ^ (gw_len x most 0) = 0
def gw_Good (most : Nat) (y : Int32) (x l : Nat) : Prop := x < 2 ^ 31 ∧ y = nI x ∧ l = gw_len x most 0 ∧ x / 7 ^ l = 0
theorem gw_word (most : Nat) (y : Int32) : gw_Bad most y ∨ ∃ x l, gw_Good most y x l := by
  by_cases h : y < 0
  · exact Or.inl (Or.inl h)
  · obtain ⟨x, hx, e⟩ := nI_of h
    by_cases z : x / 7 ^ (gw_len x most 0) = 0
    · exact Or.inr ⟨x, _, hx, e, rfl, z⟩
    · exact Or.inl (Or.inr ⟨x, hx, e, z⟩)
theorem gw_Good_le {most x l : Nat} {y : Int32} (h : gw_Good most y x l) : l ≤ most := by
  have := (gw_len_b x most 0).2
  rw [← h.2.2.1] at this
  omega
theorem gw_Good_nz {most x l : Nat} {y : Int32} (h : gw_Good most y x l) : ∀ k, k < l → ¬ x / 7 ^ k % 7 = 0 := by
  intro k hk
  refine gw_len_nz x most 0 k (Nat.zero_le _) ?_
  rw [← h.2.2.1]
  exact hk
theorem gw_Good_hor {most x l : Nat} {y : Int32} (h : gw_Good most y x l) : gw_hor (gw_dg x) l 0 = x := by
  have k := gw_hor_dg x l 0 (fun j _ hj => gw_Good_nz h j (by omega)) (by rw [Nat.zero_add]; exact h.2.2.2)
  rw [k, Nat.pow_zero, Nat.div_one]
theorem gx_isL {post : Int32 → Prop} {c : Nat} (hc : c < 6) (h : post 1) : wpX_isLetter post (nI c) := by
  unfold wpX_isLetter
  exact br_f (nI_pos (by omega)) (br_f (nI_ge (b := 6) hc (by decide)) h)
theorem gx_isN {post : Int32 → Prop} {x : Int32} (hx : x < 0 ∨ nI 6 ≤ x) (h : post 0) : wpX_isLetter post x := by
  unfold wpX_isLetter
  by_cases z : x < 0
  · exact br_t z h
  · exact br_f z (br_t (hx.resolve_left z) h)
theorem gx_wl {post : Int32 → Prop} {x most : Nat} (hx : x < 2 ^ 31) (hm : most ≤ 8) : ∀ d k, k + d = most → wX_wordLength_27 post (nI (x / 7 ^ (gw_len x d k))) (nI (gw_len x d k)) → wX_wordLength_4 post (nI most) (d + 1) (nI (x / 7 ^ k)) (nI k) := by
  intro d
  induction d with
  | zero =>
    intro k hk h
    rw [wX_wordLength_4]
    dsimp only
    exact br_t (nI_le (by omega) (by omega)) h
  | succ d ih =>
    intro k hk h
    rw [wX_wordLength_4]
    dsimp only
    rw [gw_rem7 hx, gw_quo7 hx]
    refine br_f (nI_ge (by omega) (by omega)) ⟨by decide, ?_⟩
    by_cases z : x / 7 ^ k % 7 = 0
    · rw [gw_len_z z] at h
      rw [z]
      exact br_t (by decide) h
    · rw [gw_len_n z] at h
      exact br_f (nI_nle (by omega) (by omega)) ⟨by decide, nm_e (nm_r (nI_1 _) (ih (k + 1) (by omega) h))⟩
theorem gx_wl_good {post : Int32 → Prop} {most x l : Nat} {y : Int32} (G : gw_Good most y x l) (hm : most ≤ 8) (h : post (nI l)) : wpX_wordLength post y (nI most) := by
  obtain ⟨hx, e, el, h0⟩ := G
  unfold wpX_wordLength
  refine ⟨most + 1, ?_⟩
  rw [e, show nI x = nI (x / 7 ^ 0) by rw [Nat.pow_zero, Nat.div_one]]
  refine gx_wl hx hm most 0 (by omega) ?_
  rw [← el, h0]
  exact br_t rfl h
theorem gx_wl_bad {post : Int32 → Prop} {most : Nat} {y : Int32} (G : gw_Bad most y) (h1 : 1 ≤ most) (hm : most ≤ 8) (h : post (-1)) : wpX_wordLength post y (nI most) := by
  unfold wpX_wordLength
  rcases G with hy | ⟨x, hx, e, h0⟩
  · refine ⟨1, ?_⟩
    rw [wX_wordLength_4]
    dsimp only
    refine br_f (nI_nle (by omega) (by omega)) ⟨by decide, br_t (gw_remneg hy) ?_⟩
    refine br_f (fun z => ?_) h
    rw [z] at hy
    exact absurd hy (by decide)
  · refine ⟨most + 1, ?_⟩
    rw [e, show nI x = nI (x / 7 ^ 0) by rw [Nat.pow_zero, Nat.div_one]]
    refine gx_wl hx hm most 0 (by omega) ?_
    refine br_f (nI_ne0 (Nat.pos_of_ne_zero h0) (Nat.lt_of_le_of_lt (Nat.div_le_self _ _) hx)) h
def gx_put (a : Nat → Int32) (b l x : Nat) (j : Nat) : Int32 := if b ≤ j ∧ j < b + l then nI (gw_dg x (j - b)) else a j
theorem gx_put0 (a : Nat → Int32) (b x j : Nat) : gx_put a b 0 x j = a j := if_neg (by omega)
theorem gx_put_s {a a' : Nat → Int32} {b i x j : Nat} (h : a' j = gx_put a b i x j) : upd a' (b + i) (nI (gw_dg x i)) j = gx_put a b (i + 1) x j := by
  by_cases z : j = b + i
  · subst z
    rw [pk_us]
    unfold gx_put
    rw [if_pos (by omega), Nat.add_sub_cancel_left]
  · rw [pk_un z, h]
    unfold gx_put
    by_cases y : b ≤ j ∧ j < b + i
    · rw [if_pos y, if_pos (by omega)]
    · rw [if_neg y, if_neg (by omega)]
theorem gx_wrA {post : SX → Prop} {lb ac g L la0 : Nat → Int32} {x c l : Nat} (hx : x < 2 ^ 31) (hc : c < 6) (hl : l ≤ 4) (hz : ∀ k, k < l → ¬ x / 7 ^ k % 7 = 0)
    (H : ∀ la, (∀ j, la j = gx_put la0 (c * 4) l x j) → post (la, lb, ac, g, L, 39000)) :
    ∀ d i la, i + d = l → (∀ j, la j = gx_put la0 (c * 4) i x j) → wX_writeWord__ruleLetters_6 post (nI l) (nI c * 4) 39000 (d + 1) (nI (x / 7 ^ i)) (nI i) la lb ac g L := by
  intro d
  induction d with
  | zero =>
    intro i la hi h
    rw [wX_writeWord__ruleLetters_6]
    dsimp only
    have e : i = l := by omega
    subst e
    exact br_t (nI_le (by omega) (by omega)) (H la h)
  | succ d ih =>
    intro i la hi h
    rw [wX_writeWord__ruleLetters_6]
    dsimp only
    have e4 : nI c * 4 + nI i = nI (c * 4 + i) := by
      rw [show (4 : Int32) = nI 4 from by decide, pk_mul, nI_add]
    rw [gw_digit hx (hz i (by omega)), gw_quo7 hx, e4, nI_clamp (by omega), gw_i8 (gw_dg_lt x i), gw_nar (gw_dg_lt x i)]
    refine br_f (nI_ge (by omega) (by omega)) ⟨by decide, vp_in_nI (by omega) (by omega), nm_e ⟨by decide, nm_e (nm_r (nI_1 _) ?_)⟩⟩
    exact ih (i + 1) _ (by omega) (fun j => gx_put_s (h j))
theorem gx_wrB {post : SX → Prop} {la lb ac L g0 : Nat → Int32} {x l : Nat} (hx : x < 2 ^ 31) (hl : l ≤ 8) (hz : ∀ k, k < l → ¬ x / 7 ^ k % 7 = 0)
    (H : ∀ g, (∀ j, g j = gx_put g0 0 l x j) → post (la, lb, ac, g, L, 39000)) :
    ∀ d i g, i + d = l → (∀ j, g j = gx_put g0 0 i x j) → wX_writeWord__grown_6 post (nI l) 0 39000 (d + 1) (nI (x / 7 ^ i)) (nI i) la lb ac g L := by
  intro d
  induction d with
  | zero =>
    intro i g hi h
    rw [wX_writeWord__grown_6]
    dsimp only
    have e : i = l := by omega
    subst e
    exact br_t (nI_le (by omega) (by omega)) (H g h)
  | succ d ih =>
    intro i g hi h
    rw [wX_writeWord__grown_6]
    dsimp only
    have e4 : 0 + nI i = nI (0 + i) := by
      rw [Int32.zero_add, Nat.zero_add]
    rw [gw_digit hx (hz i (by omega)), gw_quo7 hx, e4, nI_clamp (by omega), gw_i8 (gw_dg_lt x i), gw_nar (gw_dg_lt x i)]
    refine br_f (nI_ge (by omega) (by omega)) ⟨by decide, vp_in_nI (by omega) (by omega), nm_e ⟨by decide, nm_e (nm_r (nI_1 _) ?_)⟩⟩
    exact ih (i + 1) _ (by omega) (fun j => gx_put_s (h j))
theorem gx_writeA {post : SX → Prop} {la lb ac g L : Nat → Int32} {y : Int32} {x c l : Nat} (G : gw_Good 4 y x l) (hc : c < 6)
    (H : ∀ la', (∀ j, la' j = gx_put la (c * 4) l x j) → post (la', lb, ac, g, L, 39000)) : wpX_writeWord__ruleLetters post (la, lb, ac, g, L, 39000) y (nI l) (nI c * 4) := by
  unfold wpX_writeWord__ruleLetters
  dsimp only
  have hl := gw_Good_le G
  refine ⟨l + 1, ?_⟩
  rw [G.2.1, show nI x = nI (x / 7 ^ 0) by rw [Nat.pow_zero, Nat.div_one]]
  exact gx_wrA G.1 hc hl (gw_Good_nz G) H l 0 la (by omega) (fun j => (gx_put0 _ _ _ _).symm)
theorem gx_writeB {post : SX → Prop} {la lb ac g L : Nat → Int32} {y : Int32} {x l : Nat} (G : gw_Good 8 y x l)
    (H : ∀ g', (∀ j, g' j = gx_put g 0 l x j) → post (la, lb, ac, g', L, 39000)) : wpX_writeWord__grown post (la, lb, ac, g, L, 39000) y (nI l) 0 := by
  unfold wpX_writeWord__grown
  dsimp only
  have hl := gw_Good_le G
  refine ⟨l + 1, ?_⟩
  rw [G.2.1, show nI x = nI (x / 7 ^ 0) by rw [Nat.pow_zero, Nat.div_one]]
  exact gx_wrB G.1 hl (gw_Good_nz G) H l 0 g (by omega) (fun j => (gx_put0 _ _ _ _).symm)
end
section
def gx_No (L : Nat → Int32) (x r : Int32) : Prop := ((x < 0 ∨ nI 13 ≤ x) ∧ r = -1) ∨ (∃ n, n < 13 ∧ x = nI n ∧ L n = -1 ∧ r = -2)
theorem gx_No_ne {L : Nat → Int32} {x r : Int32} (h : gx_No L x r) : ¬ r = 0 := by
  rcases h with ⟨_, e⟩ | ⟨_, _, _, _, e⟩
  · rw [e]; decide
  · rw [e]; decide
theorem gx_isG {post : Int32 → Prop} {n : Nat} (hn : n < 13) (h : post 1) : wpX_isGeneration post (nI n) := by
  unfold wpX_isGeneration
  exact br_f (nI_pos (by omega)) (br_f (nI_ge (b := 13) hn (by decide)) h)
theorem gx_isGn {post : Int32 → Prop} {x : Int32} (hx : x < 0 ∨ nI 13 ≤ x) (h : post 0) : wpX_isGeneration post x := by
  unfold wpX_isGeneration
  by_cases z : x < 0
  · exact br_t z h
  · exact br_f z (br_t (hx.resolve_left z) h)
theorem gx_ref {post : Int32 → Prop} {la lb ac g L : Nat → Int32} {x r : Int32} (h : gx_No L x r) (hp : post r) : wpX_refusalOf post (la, lb, ac, g, L, 39000) x := by
  unfold wpX_refusalOf
  dsimp only
  rcases h with ⟨hx, e⟩ | ⟨n, hn, ex, hl, e⟩
  · subst e
    exact gx_isGn hx (br_t rfl hp)
  · subst e ex
    refine gx_isG hn (br_f (by decide) ?_)
    rw [nI_clamp (by omega), hl]
    exact ⟨vp_in_nI hn (by omega), br_t rfl hp⟩
theorem gx_ok {post : Int32 → Prop} {la lb ac g L : Nat → Int32} {n s : Nat} {w : Nat → Nat} (V : gx_V g L n s w) (hp : post 0) : wpX_refusalOf post (la, lb, ac, g, L, 39000) (nI n) := by
  unfold wpX_refusalOf
  dsimp only
  have hn := V.1
  have hs := V.2.1
  refine gx_isG hn (br_f (by decide) ?_)
  rw [nI_clamp (by omega), V.2.2.1]
  exact ⟨vp_in_nI hn (by omega), br_f (gw_m1 (by omega)) hp⟩
theorem gx_larger {post : Int32 → Prop} {a b : Int32} (h : post (gw_mx a b)) : wpX_larger post a b := by
  unfold wpX_larger
  unfold gw_mx at h
  by_cases z : a ≤ b
  · rw [if_pos z] at h; exact br_t z h
  · rw [if_neg z] at h; exact br_f z h
theorem gx_smaller {post : Int32 → Prop} {a b : Int32} (h : post (gw_mn a b)) : wpX_smaller post a b := by
  unfold wpX_smaller
  unfold gw_mn at h
  by_cases z : b ≤ a
  · rw [if_pos z] at h; exact br_t z h
  · rw [if_neg z] at h; exact br_f z h
theorem gx_length {post : Int32 → Prop} {la lb ac g L : Nat → Int32} {n s : Nat} {w : Nat → Nat} (V : gx_V g L n s w) (h : post (nI s)) : wpX_length post (la, lb, ac, g, L, 39000) (nI n) := by
  unfold wpX_length
  dsimp only
  have hn := V.1
  refine gx_ok V (br_t rfl ?_)
  rw [nI_clamp (by omega), V.2.2.1]
  exact ⟨vp_in_nI hn (by omega), h⟩
theorem gx_letterAt {post : Int32 → Prop} {la lb ac g L : Nat → Int32} {n s p : Nat} {w : Nat → Nat} (V : gx_V g L n s w) (hp : p < s) (h : post (nI (w p))) : wpX_letterAt post (la, lb, ac, g, L, 39000) (nI n) (nI p) := by
  unfold wpX_letterAt
  dsimp only
  have hn := V.1
  have hs := V.2.1
  refine gx_ok V (br_t rfl (br_f (nI_pos (by omega)) ?_))
  rw [nI_clamp (by omega), V.2.2.1]
  exact ⟨vp_in_nI hn (by omega), br_t (nI_lt hp (by omega)) (gx_letterOf V hp h)⟩
theorem gx_letterAtN {post : Int32 → Prop} {la lb ac g L : Nat → Int32} {n s : Nat} {w : Nat → Nat} {x : Int32} (V : gx_V g L n s w) (hx : x < 0 ∨ nI s ≤ x) (h : post (-3)) : wpX_letterAt post (la, lb, ac, g, L, 39000) (nI n) x := by
  unfold wpX_letterAt
  dsimp only
  have hn := V.1
  have hs := V.2.1
  refine gx_ok V (br_t rfl ?_)
  by_cases z : x < 0
  · exact br_t z h
  · rw [nI_clamp (by omega), V.2.2.1]
    exact br_f z ⟨vp_in_nI hn (by omega), br_f (Int32.not_lt.mpr (hx.resolve_left z)) h⟩
theorem gx_cnt {post : Int32 → Prop} {la lb ac g L : Nat → Int32} {n s e c : Nat} {w : Nat → Nat} (V : gx_V g L n s w) (he : e ≤ s) (hc : c < 6) : ∀ d p f, p + d = e → post (nI (f + gw_cnt (fun q => decide (w q = c)) d p)) → wX_count_52 post (nI n) (nI c) (nI e) la lb ac g L 39000 (d + 1) (nI f) (nI p) := by
  intro d
  have hs := V.2.1
  induction d with
  | zero =>
    intro p f hp h
    rw [wX_count_52]
    dsimp only
    exact br_t (nI_le (by omega) (by omega)) h
  | succ d ih =>
    intro p f hp h
    rw [wX_count_52]
    dsimp only
    refine br_f (nI_ge (by omega) (by omega)) (gx_letterOf V (by omega) ?_)
    have hw := (V.2.2.2 p (by omega)).1
    by_cases z : w p = c
    · rw [gw_cnt_t (decide_eq_true z)] at h
      refine br_t (by rw [z]) (nm_r (nI_1 _) (nm_r (nI_1 _) (ih (p + 1) (f + 1) (by omega) ?_)))
      rw [show f + 1 + gw_cnt (fun q => decide (w q = c)) d (p + 1) = f + (gw_cnt (fun q => decide (w q = c)) d (p + 1) + 1) by omega]
      exact h
    · rw [gw_cnt_f (by rw [decide_eq_true_eq]; exact z)] at h
      refine br_f (fun k => z ((nI_eq (by omega) (by omega)).mp k)) (nm_r (nI_1 _) (ih (p + 1) f (by omega) h))
theorem gw_from (x : Int32) (s : Nat) (hs : s ≤ 3000) : ∃ a, a < 2 ^ 31 ∧ gw_mx x 0 = nI a ∧ ∀ t, t < s → (¬ nI t < x ↔ a ≤ t) := by
  unfold gw_mx
  by_cases z : x ≤ 0
  · refine ⟨0, by omega, by rw [if_pos z]; rfl, fun t ht => ⟨fun _ => Nat.zero_le _, fun _ => Int32.not_lt.mpr (Int32.le_trans z (nI_pos' (by omega)))⟩⟩
  · obtain ⟨a, ha, e⟩ := nI_of (x := x) (Int32.not_lt.mpr (Int32.le_of_lt (Int32.not_le.mp z)))
    refine ⟨a, ha, by rw [if_neg z]; exact e, fun t ht => ?_⟩
    rw [e, nI_ltI (by omega) ha]
    omega
theorem gw_to (x : Int32) (s : Nat) (hs : s ≤ 3000) : ∃ e, e ≤ s ∧ (∀ t, t < s → (¬ x ≤ nI t ↔ t < e)) ∧ (gw_mn x (nI s) = nI e ∨ (e = 0 ∧ gw_mn x (nI s) < 0)) := by
  unfold gw_mn
  by_cases z : nI s ≤ x
  · refine ⟨s, Nat.le_refl _, fun t ht => ⟨fun _ => ht, fun _ k => ?_⟩, Or.inl (by rw [if_pos z])⟩
    exact nI_ge (a := t) (b := s) ht (by omega) (Int32.le_trans z k)
  · rw [if_neg z]
    by_cases y : x < 0
    · refine ⟨0, Nat.zero_le _, fun t ht => ⟨fun k => ?_, fun k => absurd k (Nat.not_lt_zero t)⟩, Or.inr ⟨rfl, y⟩⟩
      exact absurd (Int32.le_trans (Int32.le_of_lt y) (nI_pos' (by omega))) k
    · obtain ⟨e, he, ex⟩ := nI_of y
      subst ex
      rw [nI_leI (by omega) he] at z
      refine ⟨e, by omega, fun t ht => ?_, Or.inl rfl⟩
      rw [nI_leI he (by omega)]
      omega
theorem gx_count {post : Int32 → Prop} {la lb ac g L : Nat → Int32} {n s c a e : Nat} {x y : Int32} {w : Nat → Nat} (V : gx_V g L n s w) (hc : c < 6) (ha : a < 2 ^ 31) (hx : gw_mx x 0 = nI a) (he : e ≤ s) (hy : gw_mn y (nI s) = nI e ∨ (e = 0 ∧ gw_mn y (nI s) < 0))
    (h : post (nI (gw_cnt (fun q => decide (w q = c)) (e - a) a))) : wpX_count post (la, lb, ac, g, L, 39000) (nI n) (nI c) x y := by
  unfold wpX_count
  dsimp only
  have hn := V.1
  have hs := V.2.1
  refine gx_ok V (br_t rfl (gx_isL hc (br_f (by decide) (gx_larger ?_))))
  rw [hx, nI_clamp (by omega), V.2.2.1]
  refine ⟨vp_in_nI hn (by omega), gx_smaller ?_⟩
  rcases hy with hy | ⟨e0, hy⟩
  · rw [hy]
    by_cases z : a ≤ e
    · refine ⟨e - a + 1, ?_⟩
      refine gx_cnt V he hc (e - a) a 0 (by omega) ?_
      rw [Nat.zero_add]
      exact h
    · refine ⟨1, ?_⟩
      rw [wX_count_52]
      dsimp only
      rw [show e - a = 0 by omega] at h
      exact br_t (nI_le (by omega) ha) h
  · refine ⟨1, ?_⟩
    rw [wX_count_52]
    dsimp only
    rw [show e - a = 0 by omega] at h
    exact br_t (Int32.le_trans (Int32.le_of_lt hy) (nI_pos' ha)) h
theorem gx_countN {post : Int32 → Prop} {la lb ac g L : Nat → Int32} {n s : Nat} {c x y : Int32} {w : Nat → Nat} (V : gx_V g L n s w) (hc : c < 0 ∨ nI 6 ≤ c) (h : post (-3)) : wpX_count post (la, lb, ac, g, L, 39000) (nI n) c x y := by
  unfold wpX_count
  dsimp only
  exact gx_ok V (br_t rfl (gx_isN hc (br_t rfl h)))
theorem gx_wo {post : Int32 → Prop} {la lb ac g L : Nat → Int32} {n s p m : Nat} {w : Nat → Nat} (V : gx_V g L n s w) (hm : p + m ≤ s) (h : post (nI (gw_hor w m p))) : ∀ i r, i ≤ m → r = gw_hor w (m - i) (p + i) → wX_wordOf_8 post (nI n) (nI p) la lb ac g L 39000 (i + 1) (nI r) (nI i - 1) := by
  intro i
  have hs := V.2.1
  induction i with
  | zero =>
    intro r hi hr
    rw [wX_wordOf_8]
    dsimp only
    rw [Nat.sub_zero, Nat.add_zero] at hr
    rw [hr]
    exact br_t (by decide) h
  | succ i ih =>
    intro r hi hr
    rw [wX_wordOf_8]
    dsimp only
    rw [nI_pred, nI_add]
    refine br_f (nI_pos (by omega)) (gx_letterOf V (by omega) ?_)
    have e : nI r * 7 + nI (w (p + i)) + 1 = nI (gw_hor w (m - i) (p + i)) := by
      rw [show (7 : Int32) = nI 7 from by decide, pk_mul, nI_add, nI_1, show m - i = (m - (i + 1)) + 1 by omega, gw_hor_s, show p + i + 1 = p + (i + 1) by omega, ← hr]
      exact congrArg nI (by omega)
    refine nm_r e (nm_r (Int32.sub_eq_add_neg _ _).symm ?_)
    exact ih _ (by omega) rfl
theorem gx_wordOf {post : Int32 → Prop} {la lb ac g L : Nat → Int32} {n s p m : Nat} {w : Nat → Nat} (V : gx_V g L n s w) (hm : p + m ≤ s) (h : post (nI (gw_hor w m p))) : wpX_wordOf post (la, lb, ac, g, L, 39000) (nI n) (nI p) (nI m) := by
  unfold wpX_wordOf
  dsimp only
  refine nm_e ⟨m + 1, ?_⟩
  exact gx_wo V hm h m 0 (Nat.le_refl _) (by rw [Nat.sub_self]; rfl)
def gx_o (o : Option Nat) : Int32 := match o with
  | none => -1
  | some r => nI r
theorem gw_slt {p s m : Nat} (hp : p < 2 ^ 31) (hs : s < 2 ^ 30) (hm : m < 2 ^ 30) : nI s - nI m < nI p ↔ s < p + m := by
  have := gw_sle hp hs hm
  rw [← Int32.not_le, this]
  omega
theorem gx_pl {post : Int32 → Prop} {la lb ac g L : Nat → Int32} {n s x m : Nat} {w : Nat → Nat} (V : gx_V g L n s w) (hx : x < 2 ^ 31) (hm : m ≤ 4) : ∀ d p, p + d = s + 1 - m → post (gx_o (gw_fst (fun q => decide (gw_hor w m q = x)) d p)) → wX_placeOf_12 post (nI n) (nI x) (nI m) la lb ac g L 39000 (d + 1) (nI p) := by
  intro d
  have hs := V.2.1
  have hn := V.1
  induction d with
  | zero =>
    intro p hp h
    rw [wX_placeOf_12]
    dsimp only
    rw [nI_clamp (by omega), V.2.2.1]
    exact ⟨vp_in_nI hn (by omega), br_t ((gw_slt (by omega) (by omega) (by omega)).mpr (by omega)) h⟩
  | succ d ih =>
    intro p hp h
    rw [wX_placeOf_12]
    dsimp only
    rw [nI_clamp (by omega), V.2.2.1]
    refine ⟨vp_in_nI hn (by omega), br_f (fun k => by have := (gw_slt (by omega) (by omega) (by omega)).mp k; omega) (gx_wordOf V (by omega) ?_)⟩
    have hb : gw_hor w m p < 7 ^ m := gw_hor_lt m p (fun i hi => (V.2.2.2 (p + i) (by omega)).1)
    have hb2 : 7 ^ m ≤ 7 ^ 4 := Nat.pow_le_pow_right (by decide) hm
    have hb3 : gw_hor w m p < 2 ^ 31 := Nat.lt_of_lt_of_le hb (Nat.le_trans hb2 (by decide))
    by_cases z : gw_hor w m p = x
    · rw [gw_fst_t (decide_eq_true z)] at h
      exact br_t (by rw [z]) h
    · rw [gw_fst_f (by rw [decide_eq_true_eq]; exact z)] at h
      exact br_f (fun k => z ((nI_eq hb3 hx).mp k)) (nm_r (nI_1 _) (ih (p + 1) (by omega) h))
theorem gx_placeOf {post : Int32 → Prop} {la lb ac g L : Nat → Int32} {n s x m a : Nat} {y : Int32} {w : Nat → Nat} (V : gx_V g L n s w) (hx : x < 2 ^ 31) (hm : m ≤ 4) (ha : a < 2 ^ 31) (hy : gw_mx y 0 = nI a)
    (h : post (gx_o (gw_fst (fun q => decide (gw_hor w m q = x)) (s + 1 - m - a) a))) : wpX_placeOf post (la, lb, ac, g, L, 39000) (nI n) (nI x) (nI m) y := by
  unfold wpX_placeOf
  dsimp only
  have hs := V.2.1
  have hn := V.1
  refine gx_larger ?_
  rw [hy]
  by_cases z : a ≤ s + 1 - m
  · exact ⟨s + 1 - m - a + 1, gx_pl V hx hm (s + 1 - m - a) a (by omega) h⟩
  · refine ⟨1, ?_⟩
    rw [wX_placeOf_12]
    dsimp only
    rw [nI_clamp (by omega), V.2.2.1]
    rw [show s + 1 - m - a = 0 by omega] at h
    exact ⟨vp_in_nI hn (by omega), br_t ((gw_slt ha (by omega) (by omega)).mpr (by omega)) h⟩
def gx_f (o : Option Nat) : Int32 := match o with
  | none => -4
  | some r => nI r
theorem gx_find {post : Int32 → Prop} {la lb ac g L : Nat → Int32} {n s x m a : Nat} {v y : Int32} {w : Nat → Nat} (V : gx_V g L n s w) (G : gw_Good 4 v x m) (h1 : 1 ≤ m) (ha : a < 2 ^ 31) (hy : gw_mx y 0 = nI a)
    (h : post (gx_f (gw_fst (fun q => decide (gw_hor w m q = x)) (s + 1 - m - a) a))) : wpX_find post (la, lb, ac, g, L, 39000) (nI n) v y := by
  unfold wpX_find
  dsimp only
  have hm := gw_Good_le G
  have hs := V.2.1
  refine gx_ok V (br_t rfl (gx_wl_good G (by decide) (br_t (nI_le (a := 1) h1 (by omega)) ?_)))
  rw [G.2.1]
  refine gx_placeOf V G.1 hm ha hy ?_
  cases e : gw_fst (fun q => decide (gw_hor w m q = x)) (s + 1 - m - a) a with
  | none =>
    rw [e] at h
    exact br_t rfl h
  | some r =>
    rw [e] at h
    have k := (gw_fst_some _ _ _ e).2.1
    exact br_f (gw_m1 (by omega)) h
theorem gw_no1 {m : Nat} (h : m < 1) : ¬ (1 : Int32) ≤ nI m := nI_ge (b := 1) h (by decide)
theorem gx_findN {post : Int32 → Prop} {la lb ac g L : Nat → Int32} {n s : Nat} {v y : Int32} {w : Nat → Nat} (V : gx_V g L n s w) (G : gw_Bad 4 v ∨ ∃ x, gw_Good 4 v x 0) (h : post (-3)) : wpX_find post (la, lb, ac, g, L, 39000) (nI n) v y := by
  unfold wpX_find
  dsimp only
  refine gx_ok V (br_t rfl ?_)
  rcases G with G | ⟨x, G⟩
  · exact gx_wl_bad G (by decide) (by decide) (br_f (by decide) h)
  · exact gx_wl_good G (by decide) (br_f (gw_no1 (by decide)) h)
theorem gx_oc {post : Int32 → Prop} {la lb ac g L : Nat → Int32} {n s x m : Nat} {w : Nat → Nat} (V : gx_V g L n s w) (hx : x < 2 ^ 31) (hm : m ≤ 4) : ∀ d p f, p + d = s + 1 - m → post (nI (f + gw_cnt (fun q => decide (gw_hor w m q = x)) d p)) → wX_occurrences_34 post (nI n) (nI x) (nI m) la lb ac g L 39000 (d + 1) (nI f) (nI p) := by
  intro d
  have hs := V.2.1
  have hn := V.1
  induction d with
  | zero =>
    intro p f hp h
    rw [wX_occurrences_34]
    dsimp only
    rw [nI_clamp (by omega), V.2.2.1]
    exact ⟨vp_in_nI hn (by omega), br_t ((gw_slt (by omega) (by omega) (by omega)).mpr (by omega)) h⟩
  | succ d ih =>
    intro p f hp h
    rw [wX_occurrences_34]
    dsimp only
    rw [nI_clamp (by omega), V.2.2.1]
    refine ⟨vp_in_nI hn (by omega), br_f (fun k => by have := (gw_slt (by omega) (by omega) (by omega)).mp k; omega) (gx_wordOf V (by omega) ?_)⟩
    have hb : gw_hor w m p < 7 ^ m := gw_hor_lt m p (fun i hi => (V.2.2.2 (p + i) (by omega)).1)
    have hb2 : 7 ^ m ≤ 7 ^ 4 := Nat.pow_le_pow_right (by decide) hm
    have hb3 : gw_hor w m p < 2 ^ 31 := Nat.lt_of_lt_of_le hb (Nat.le_trans hb2 (by decide))
    by_cases z : gw_hor w m p = x
    · rw [gw_cnt_t (decide_eq_true z)] at h
      refine br_t (by rw [z]) (nm_r (nI_1 _) (nm_r (nI_1 _) (ih (p + 1) (f + 1) (by omega) ?_)))
      rw [show f + 1 + gw_cnt (fun q => decide (gw_hor w m q = x)) d (p + 1) = f + (gw_cnt (fun q => decide (gw_hor w m q = x)) d (p + 1) + 1) by omega]
      exact h
    · rw [gw_cnt_f (by rw [decide_eq_true_eq]; exact z)] at h
      exact br_f (fun k => z ((nI_eq hb3 hx).mp k)) (nm_r (nI_1 _) (ih (p + 1) f (by omega) h))
theorem gx_occ {post : Int32 → Prop} {la lb ac g L : Nat → Int32} {n s x m : Nat} {v : Int32} {w : Nat → Nat} (V : gx_V g L n s w) (G : gw_Good 4 v x m) (h1 : 1 ≤ m)
    (h : post (nI (gw_cnt (fun q => decide (gw_hor w m q = x)) (s + 1 - m) 0))) : wpX_occurrences post (la, lb, ac, g, L, 39000) (nI n) v := by
  unfold wpX_occurrences
  dsimp only
  have hm := gw_Good_le G
  have hs := V.2.1
  refine gx_ok V (br_t rfl (gx_wl_good G (by decide) (br_t (nI_le (a := 1) h1 (by omega)) ⟨s + 1 - m + 1, ?_⟩)))
  rw [G.2.1]
  refine gx_oc V G.1 hm (s + 1 - m) 0 0 (by omega) ?_
  rw [Nat.zero_add]
  exact h
theorem gx_occN {post : Int32 → Prop} {la lb ac g L : Nat → Int32} {n s : Nat} {v : Int32} {w : Nat → Nat} (V : gx_V g L n s w) (G : gw_Bad 4 v ∨ ∃ x, gw_Good 4 v x 0) (h : post (-3)) : wpX_occurrences post (la, lb, ac, g, L, 39000) (nI n) v := by
  unfold wpX_occurrences
  dsimp only
  refine gx_ok V (br_t rfl ?_)
  rcases G with G | ⟨x, G⟩
  · exact gx_wl_bad G (by decide) (by decide) (br_f (by decide) h)
  · exact gx_wl_good G (by decide) (br_f (gw_no1 (by decide)) h)
end
section
theorem gw_rh_s (w : Nat → Nat) (p : Nat) : gw_rh w (p + 1) = if 0 < p ∧ w p = w (p - 1) then gw_rh w p + 1 else 1 := rfl
theorem gw_gr_s (g : Nat → Int32) (p : Nat) : gw_gr g (p + 1) = gw_mx (gw_gr g p) (g (p + 1)) := rfl
theorem gw_le_s (g : Nat → Int32) (p : Nat) : gw_le g (p + 1) = gw_mn (gw_le g p) (g (p + 1)) := rfl
theorem gx_rn {post : Int32 → Prop} {la lb ac g L : Nat → Int32} {n s : Nat} {w : Nat → Nat} (V : gx_V g L n s w) (h : post (gw_gr (gw_rh w) s)) : ∀ d p b, p + d = s → (p = 0 → b = -1) → (0 < p → b = nI (w (p - 1))) → wX_run_23 post (nI n) la lb ac g L 39000 (d + 1) (gw_gr (gw_rh w) p) (gw_rh w p) b (nI p) := by
  intro d
  have hs := V.2.1
  have hn := V.1
  induction d with
  | zero =>
    intro p b hp _ _
    rw [wX_run_23]
    dsimp only
    rw [nI_clamp (by omega), V.2.2.1]
    have e : p = s := by omega
    subst e
    exact ⟨vp_in_nI hn (by omega), br_t (nI_le (by omega) (by omega)) h⟩
  | succ d ih =>
    intro p b hp b0 b1
    rw [wX_run_23]
    dsimp only
    rw [nI_clamp (by omega), V.2.2.1]
    refine ⟨vp_in_nI hn (by omega), br_f (nI_ge (by omega) (by omega)) (gx_letterOf V (by omega) ?_)⟩
    have hw := (V.2.2.2 p (by omega)).1
    have K := ih (p + 1) (nI (w p)) (by omega) (fun z => by omega) (fun _ => rfl)
    rw [gw_gr_s] at K
    by_cases z : 0 < p ∧ w p = w (p - 1)
    · have e : gw_rh w (p + 1) = gw_rh w p + 1 := by rw [gw_rh_s, if_pos z]
      rw [e] at K
      refine br_t (by rw [b1 z.1, z.2]) ?_
      unfold wX_run_58
      exact gx_larger (nm_r (nI_1 _) K)
    · have e : gw_rh w (p + 1) = 1 := by rw [gw_rh_s, if_neg z]
      rw [e] at K
      refine br_f (fun k => ?_) ?_
      · by_cases y : 0 < p
        · have hw1 := (V.2.2.2 (p - 1) (by omega)).1
          rw [b1 y] at k
          exact z ⟨y, (nI_eq (by omega) (by omega)).mp k⟩
        · rw [b0 (by omega)] at k
          exact gw_m1 (by omega) k
      · unfold wX_run_58
        exact gx_larger (nm_r (nI_1 _) K)
theorem gx_run {post : Int32 → Prop} {la lb ac g L : Nat → Int32} {n s : Nat} {w : Nat → Nat} (V : gx_V g L n s w) (h : post (gw_gr (gw_rh w) s)) : wpX_run post (la, lb, ac, g, L, 39000) (nI n) := by
  unfold wpX_run
  dsimp only
  exact gx_ok V (br_t rfl ⟨s + 1, gx_rn V h s 0 (-1) (by omega) (fun _ => rfl) (fun k => by omega)⟩)
theorem gx_cm {post : Int32 → Prop} {la lb ac g L : Nat → Int32} {n m s s' e : Nat} {w w' : Nat → Nat} (V : gx_V g L n s w) (V' : gx_V g L m s' w') (h1 : e ≤ s) (h2 : e ≤ s') : ∀ d p, p + d = e → post (nI (gw_pre w w' d p)) → wX_common_58 post (nI n) (nI m) (nI e) la lb ac g L 39000 (d + 1) (nI p) := by
  intro d
  have hs := V.2.1
  induction d with
  | zero =>
    intro p hp h
    rw [wX_common_58]
    dsimp only
    exact br_t (nI_le (by omega) (by omega)) h
  | succ d ih =>
    intro p hp h
    rw [wX_common_58]
    dsimp only
    refine br_f (nI_ge (by omega) (by omega)) (gx_letterOf V (by omega) (gx_letterOf V' (by omega) ?_))
    have hw := (V.2.2.2 p (by omega)).1
    have hw' := (V'.2.2.2 p (by omega)).1
    by_cases z : w p = w' p
    · rw [gw_pre_t z] at h
      exact br_t (by rw [z]) (nm_r (nI_1 _) (ih (p + 1) (by omega) h))
    · rw [gw_pre_f z] at h
      exact br_f (fun k => z ((nI_eq (by omega) (by omega)).mp k)) h
def gw_min (a b : Nat) : Nat := if a ≤ b then a else b
theorem gw_min_le (a b : Nat) : gw_min a b ≤ a ∧ gw_min a b ≤ b := by
  unfold gw_min
  split <;> omega
theorem gx_common {post : Int32 → Prop} {la lb ac g L : Nat → Int32} {n m s s' : Nat} {w w' : Nat → Nat} (V : gx_V g L n s w) (V' : gx_V g L m s' w') (h : post (nI (gw_pre w w' (gw_min s s') 0))) : wpX_common post (la, lb, ac, g, L, 39000) (nI n) (nI m) := by
  unfold wpX_common
  dsimp only
  have hn := V.1
  have hs := V.2.1
  have hn' := V'.1
  have hs' := V'.2.1
  refine gx_isG hn (br_f (by decide) (gx_isG hn' (br_f (by decide) ?_)))
  rw [nI_clamp (by omega), nI_clamp (by omega), V.2.2.1, V'.2.2.1]
  refine ⟨vp_in_nI hn (by omega), br_f (gw_m1 (by omega)) ⟨vp_in_nI hn' (by omega), br_f (gw_m1 (by omega)) ⟨vp_in_nI hn (by omega), vp_in_nI hn' (by omega), gx_smaller ?_⟩⟩⟩
  have e : gw_mn (nI s) (nI s') = nI (gw_min s s') := by
    unfold gw_mn gw_min
    by_cases z : s ≤ s'
    · rw [if_pos z]
      by_cases y : nI s' ≤ nI s
      · rw [if_pos y]
        have := (nI_leI (by omega) (by omega)).mp y
        exact congrArg nI (by omega)
      · rw [if_neg y]
    · rw [if_neg z, if_pos (nI_le (by omega) (by omega))]
  rw [e]
  have k := gw_min_le s s'
  exact ⟨gw_min s s' + 1, gx_cm V V' k.1 k.2 (gw_min s s') 0 (by omega) h⟩
theorem gx_common1 {post : Int32 → Prop} {la lb ac g L : Nat → Int32} {x y : Int32} (hx : (x < 0 ∨ nI 13 ≤ x) ∨ (y < 0 ∨ nI 13 ≤ y)) (h : post (-1)) : wpX_common post (la, lb, ac, g, L, 39000) x y := by
  unfold wpX_common
  dsimp only
  rcases pk_ix x (n := 13) (by decide) with z | z | ⟨n, hn, z⟩
  · exact gx_isGn (Or.inl z) (br_t rfl h)
  · exact gx_isGn (Or.inr z) (br_t rfl h)
  · subst z
    refine gx_isG hn (br_f (by decide) ?_)
    refine gx_isGn (hx.resolve_left (fun k => ?_)) (br_t rfl h)
    rcases k with k | k
    · exact nI_pos (by omega) k
    · exact nI_ge (b := 13) hn (by decide) k
theorem gx_common2 {post : Int32 → Prop} {la lb ac g L : Nat → Int32} {n m : Nat} (hn : n < 13) (hm : m < 13) (hL : L n = -1 ∨ L m = -1) (h : post (-2)) : wpX_common post (la, lb, ac, g, L, 39000) (nI n) (nI m) := by
  unfold wpX_common
  dsimp only
  refine gx_isG hn (br_f (by decide) (gx_isG hm (br_f (by decide) ?_)))
  rw [nI_clamp (by omega), nI_clamp (by omega)]
  refine ⟨vp_in_nI hn (by omega), br_c (fun _ => h) (fun z => ?_)⟩
  exact ⟨vp_in_nI hm (by omega), br_t (hL.resolve_left z) h⟩
theorem gx_mi {post : Int32 → Prop} {la lb ac g L : Nat → Int32} {n s : Nat} {w : Nat → Nat} (V : gx_V g L n s w) (H1 : (∀ p, p < s → w p = w (s - 1 - p)) → post 1) (H0 : (∃ p, p < s ∧ ¬ w p = w (s - 1 - p)) → post 0) :
    ∀ d p, p + d = s → (∀ t, t < p → t < s → w t = w (s - 1 - t) ∧ w (s - 1 - t) = w t) → wX_mirrored_24 post (nI n) (nI s - 1) la lb ac g L 39000 (d + 1) (nI p) := by
  intro d
  have hs := V.2.1
  have E : ∀ p, p < s → nI s - 1 - nI p = nI (s - 1 - p) := by
    intro p hp
    obtain ⟨q, hq⟩ : ∃ q, s = q + 1 := ⟨s - 1, by omega⟩
    rw [hq, nI_pred, pk_sub (by omega), Nat.add_sub_cancel]
  have F : ∀ p, (∀ t, t < p → t < s → w t = w (s - 1 - t) ∧ w (s - 1 - t) = w t) → s ≤ 2 * p + 1 → ∀ t, t < s → w t = w (s - 1 - t) := by
    intro p h hp t ht
    by_cases z : t < p
    · exact (h t z ht).1
    · by_cases y : s - 1 - t < p
      · have := (h (s - 1 - t) y (by omega)).2
        rw [show s - 1 - (s - 1 - t) = t by omega] at this
        exact this
      · rw [show s - 1 - t = t by omega]
  induction d with
  | zero =>
    intro p hp h
    rw [wX_mirrored_24]
    dsimp only
    have e : p = s := by omega
    subst e
    refine br_t ?_ (H1 (F p h (by omega)))
    rw [Int32.le_iff_toInt_le, Int32.toInt_sub, Int32.toInt_sub, nI_toInt (by omega), show (1 : Int32).toInt = 1 by decide]
    have e1 : ((p : Int) - 1).bmod (2 ^ 32) = (p : Int) - 1 := Int.bmod_eq_of_le (by omega) (by omega)
    rw [e1, Int.bmod_eq_of_le (by omega) (by omega)]
    omega
  | succ d ih =>
    intro p hp h
    rw [wX_mirrored_24]
    dsimp only
    rw [E p (by omega)]
    by_cases z : s - 1 - p ≤ p
    · exact br_t (nI_le z (by omega)) (H1 (F p h (by omega)))
    · refine br_f (nI_ge (by omega) (by omega)) (gx_letterOf V (by omega) (gx_letterOf V (by omega) ?_))
      have hw := (V.2.2.2 p (by omega)).1
      have hw' := (V.2.2.2 (s - 1 - p) (by omega)).1
      by_cases y : w p = w (s - 1 - p)
      · refine br_t (by rw [y]) (nm_r (nI_1 _) (ih (p + 1) (by omega) (fun t ht hts => ?_)))
        by_cases e : t = p
        · rw [e]; exact ⟨y, y.symm⟩
        · exact h t (by omega) hts
      · exact br_f (fun k => y ((nI_eq (by omega) (by omega)).mp k)) (H0 ⟨p, by omega, y⟩)
theorem gx_mirrored {post : Int32 → Prop} {la lb ac g L : Nat → Int32} {n s : Nat} {w : Nat → Nat} (V : gx_V g L n s w) (H1 : (∀ p, p < s → w p = w (s - 1 - p)) → post 1) (H0 : (∃ p, p < s ∧ ¬ w p = w (s - 1 - p)) → post 0) : wpX_mirrored post (la, lb, ac, g, L, 39000) (nI n) := by
  unfold wpX_mirrored
  dsimp only
  have hn := V.1
  refine gx_ok V (br_t rfl ?_)
  rw [nI_clamp (by omega), V.2.2.1]
  exact ⟨vp_in_nI hn (by omega), nm_e ⟨s + 1, gx_mi V H1 H0 s 0 (by omega) (fun t ht => absurd ht (Nat.not_lt_zero t))⟩⟩
theorem gx_kd {post : Int32 → Prop} {la lb ac g L : Nat → Int32} {n s k : Nat} {w : Nat → Nat} (V : gx_V g L n s w) (hk : k ≤ 3) : ∀ d p f, p + d = s + 1 - k → post (nI (f + gw_cnt (fun q => !(gw_S (fun t => gw_cd w t k) q (gw_cd w q k))) d p)) → wX_kinds_31 post (nI n) (nI k) la lb ac g L 39000 (d + 1) (nI f) (nI p) := by
  intro d
  have hs := V.2.1
  have hn := V.1
  induction d with
  | zero =>
    intro p f hp h
    rw [wX_kinds_31]
    dsimp only
    rw [nI_clamp (by omega), V.2.2.1]
    exact ⟨vp_in_nI hn (by omega), br_t ((gw_slt (by omega) (by omega) (by omega)).mpr (by omega)) h⟩
  | succ d ih =>
    intro p f hp h
    rw [wX_kinds_31]
    dsimp only
    rw [nI_clamp (by omega), V.2.2.1]
    have hp1 : p + k ≤ s := by omega
    have L6 : ∀ t, t + k ≤ s → ∀ i, i < k → w (t + i) < 6 := fun t ht i hi => (V.2.2.2 (t + i) (by omega)).1
    have hb : gw_hor w k p < 7 ^ k := gw_hor_lt k p (L6 p hp1)
    have hb2 : 7 ^ k ≤ 7 ^ 4 := Nat.pow_le_pow_right (by decide) (by omega)
    have hb3 : gw_hor w k p < 2 ^ 31 := Nat.lt_of_lt_of_le hb (Nat.le_trans hb2 (by decide))
    have C : ∀ t, t + k ≤ s → (gw_hor w k t = gw_hor w k p ↔ gw_cd w t k = gw_cd w p k) := fun t ht => (gw_hor_inj k t p (L6 t ht) (L6 p hp1)).trans (gw_cd_inj k (L6 t ht) (L6 p hp1)).symm
    refine ⟨vp_in_nI hn (by omega), br_f (fun k => by have := (gw_slt (by omega) (by omega) (by omega)).mp k; omega) (gx_wordOf V (by omega) ?_)⟩
    refine gx_placeOf (a := 0) V hb3 (by omega) (by decide) (by decide) ?_
    obtain ⟨r, e⟩ := gw_fst_ex (P := fun q => decide (gw_hor w k q = gw_hor w k p)) (p := p) (decide_eq_true rfl) (s + 1 - k - 0) 0 (Nat.zero_le _) (by omega)
    obtain ⟨r1, r2, r3, r4⟩ := gw_fst_some _ _ _ e
    rw [e]
    show (nI r = nI p → _) ∧ (¬ nI r = nI p → _)
    have r3' : gw_hor w k r = gw_hor w k p := of_decide_eq_true r3
    by_cases z : r = p
    · have y : gw_S (fun t => gw_cd w t k) p (gw_cd w p k) = false := by
        refine Bool.eq_false_iff.mpr (fun m => ?_)
        obtain ⟨t, ht, et⟩ := (gw_S_mem _ _ _).mp m
        have h4 := r4 t (Nat.zero_le _) (by omega)
        exact of_decide_eq_false h4 ((C t (by omega)).mpr et)
      rw [gw_cnt_t (by rw [y]; rfl)] at h
      refine br_t (by rw [z]) (nm_r (nI_1 _) (nm_r (nI_1 _) (ih (p + 1) (f + 1) (by omega) ?_)))
      rw [show ∀ m, f + 1 + m = f + (m + 1) by intro m; omega]
      exact h
    · have rp : r < p := by
        by_cases y : p < r
        · have h4 := r4 p (Nat.zero_le _) y
          exact absurd rfl (of_decide_eq_false h4)
        · omega
      have y : gw_S (fun t => gw_cd w t k) p (gw_cd w p k) = true := (gw_S_mem _ _ _).mpr ⟨r, rp, (C r (by omega)).mp r3'⟩
      rw [gw_cnt_f (by rw [y]; decide)] at h
      exact br_f (fun k => z ((nI_eq (by omega) (by omega)).mp k)) (nm_r (nI_1 _) (ih (p + 1) f (by omega) h))
theorem gx_kinds {post : Int32 → Prop} {la lb ac g L : Nat → Int32} {n s k : Nat} {w : Nat → Nat} (V : gx_V g L n s w) (h1 : 1 ≤ k) (hk : k ≤ 3) (h : post (nI (gw_cnt (fun q => !(gw_S (fun t => gw_cd w t k) q (gw_cd w q k))) (s + 1 - k) 0))) : wpX_kinds post (la, lb, ac, g, L, 39000) (nI n) (nI k) := by
  unfold wpX_kinds
  dsimp only
  refine gx_ok V (br_t rfl (br_f (nI_nlt (b := 1) h1 (by omega)) (br_t (nI_le (b := 3) hk (by decide)) ⟨s + 1 - k + 1, gx_kd V hk (s + 1 - k) 0 0 (by omega) ?_⟩)))
  rw [Nat.zero_add]
  exact h
theorem gx_kindsN {post : Int32 → Prop} {la lb ac g L : Nat → Int32} {n s : Nat} {x : Int32} {w : Nat → Nat} (V : gx_V g L n s w) (hx : x < 1 ∨ ¬ x ≤ 3) (h : post (-3)) : wpX_kinds post (la, lb, ac, g, L, 39000) (nI n) x := by
  unfold wpX_kinds
  dsimp only
  refine gx_ok V (br_t rfl ?_)
  by_cases z : x < 1
  · exact br_t z h
  · exact br_f z (br_f (hx.resolve_left z) h)
theorem gx_actionOf {post : Int32 → Prop} {la lb ac g L : Nat → Int32} {n s p : Nat} {w : Nat → Nat} (V : gx_V g L n s w) (hp : p < s) (h : post (ac (w p))) : wpX_actionOf post (la, lb, ac, g, L, 39000) (nI n) (nI p) := by
  unfold wpX_actionOf
  dsimp only
  have hw := (V.2.2.2 p hp).1
  refine gx_letterOf V hp ?_
  rw [nI_clamp (by omega)]
  exact ⟨vp_in_nI hw (by omega), h⟩
theorem gx_stepX {post : Int32 → Prop} {a d : Int32} (h : post (gw_tx a d)) : wpX_stepOfX post a d := by
  unfold wpX_stepOfX
  unfold gw_tx at h
  refine br_c (fun z => ?_) (fun z => ?_)
  · rw [if_pos z] at h
    refine br_c (fun y => ?_) (fun y => ?_)
    · rw [if_pos y] at h; exact h
    · rw [if_neg y] at h
      refine br_c (fun x => ?_) (fun x => ?_)
      · rw [if_pos x] at h; exact h
      · rw [if_neg x] at h; exact h
  · rw [if_neg z] at h; exact h
theorem gx_stepY {post : Int32 → Prop} {a d : Int32} (h : post (gw_ty a d)) : wpX_stepOfY post a d := by
  unfold wpX_stepOfY
  unfold gw_ty at h
  refine br_c (fun z => ?_) (fun z => ?_)
  · rw [if_pos z] at h
    refine br_c (fun y => ?_) (fun y => ?_)
    · rw [if_pos y] at h; exact h
    · rw [if_neg y] at h
      refine br_c (fun x => ?_) (fun x => ?_)
      · rw [if_pos x] at h; exact h
      · rw [if_neg x] at h; exact h
  · rw [if_neg z] at h; exact h
theorem gx_turned {post : Int32 → Prop} {a d : Int32} (h : post (gw_td a d)) : wpX_turned post a d := by
  unfold wpX_turned
  unfold gw_td at h
  refine br_c (fun z => ?_) (fun z => ?_)
  · rw [if_pos z] at h
    exact ⟨by decide, h⟩
  · rw [if_neg z] at h
    refine br_c (fun y => ?_) (fun y => ?_)
    · rw [if_pos y] at h
      have e : d + 4 - 1 = d + 3 := by rw [Int32.sub_eq_add_neg, Int32.add_assoc]; rfl
      rw [e]
      exact ⟨by decide, h⟩
    · rw [if_neg y] at h; exact h
theorem gx_pt {post : Int32 → Prop} {la lb ac g L : Nat → Int32} {n s e : Nat} {w : Nat → Nat} {act : Nat → Int32} (V : gx_V g L n s w) (he : e ≤ s) (ha : ∀ p, act p = ac (w p)) (h : post (8192 * (gw_x act e + 4096) + gw_y act e + 4096)) : ∀ d p, p + d = e → wX_point_36 post (nI n) (nI e) la lb ac g L 39000 (d + 1) (gw_x act p) (gw_y act p) (gw_d act p) (nI p) := by
  intro d
  have hs := V.2.1
  induction d with
  | zero =>
    intro p hp
    rw [wX_point_36]
    dsimp only
    have q : p = e := by omega
    subst q
    exact br_t (nI_le (by omega) (by omega)) h
  | succ d ih =>
    intro p hp
    rw [wX_point_36]
    dsimp only
    refine br_f (nI_ge (by omega) (by omega)) (gx_actionOf V (by omega) ?_)
    rw [← ha p]
    exact gx_stepX (nm_e (gx_stepY (nm_e (gx_turned (nm_r (nI_1 _) (ih (p + 1) (by omega)))))))
theorem gx_dr {post : Int32 → Prop} {la lb ac g L : Nat → Int32} {n s : Nat} {w : Nat → Nat} {act : Nat → Int32} (V : gx_V g L n s w) (ha : ∀ p, act p = ac (w p)) (h : post (gw_d act s)) : ∀ d p, p + d = s → wX_direction_17 post (nI n) la lb ac g L 39000 (d + 1) (gw_d act p) (nI p) := by
  intro d
  have hs := V.2.1
  have hn := V.1
  induction d with
  | zero =>
    intro p hp
    rw [wX_direction_17]
    dsimp only
    rw [nI_clamp (by omega), V.2.2.1]
    have q : p = s := by omega
    subst q
    exact ⟨vp_in_nI hn (by omega), br_t (nI_le (by omega) (by omega)) h⟩
  | succ d ih =>
    intro p hp
    rw [wX_direction_17]
    dsimp only
    rw [nI_clamp (by omega), V.2.2.1]
    refine ⟨vp_in_nI hn (by omega), br_f (nI_ge (by omega) (by omega)) (gx_actionOf V (by omega) ?_)⟩
    rw [← ha p]
    exact gx_turned (nm_r (nI_1 _) (ih (p + 1) (by omega)))
theorem gx_ex {post : Int32 → Prop} {la lb ac g L : Nat → Int32} {n s : Nat} {w : Nat → Nat} {act : Nat → Int32} (V : gx_V g L n s w) (ha : ∀ p, act p = ac (w p))
    (h : post (4096 * (gw_gr (gw_x act) s - gw_le (gw_x act) s) + (gw_gr (gw_y act) s - gw_le (gw_y act) s))) : ∀ d p, p + d = s → wX_extent_35 post (nI n) la lb ac g L 39000 (d + 1) (gw_x act p) (gw_le (gw_x act) p) (gw_gr (gw_x act) p) (gw_y act p) (gw_le (gw_y act) p) (gw_gr (gw_y act) p) (gw_d act p) (nI p) := by
  intro d
  have hs := V.2.1
  have hn := V.1
  induction d with
  | zero =>
    intro p hp
    rw [wX_extent_35]
    dsimp only
    rw [nI_clamp (by omega), V.2.2.1]
    have q : p = s := by omega
    subst q
    exact ⟨vp_in_nI hn (by omega), br_t (nI_le (by omega) (by omega)) h⟩
  | succ d ih =>
    intro p hp
    rw [wX_extent_35]
    dsimp only
    rw [nI_clamp (by omega), V.2.2.1]
    refine ⟨vp_in_nI hn (by omega), br_f (nI_ge (by omega) (by omega)) (gx_actionOf V (by omega) ?_)⟩
    rw [← ha p]
    exact gx_stepX (nm_e (gx_stepY (nm_e (gx_turned (gx_smaller (gx_larger (gx_smaller (gx_larger (nm_r (nI_1 _) (ih (p + 1) (by omega)))))))))))
theorem gx_point {post : Int32 → Prop} {la lb ac g L : Nat → Int32} {n s e : Nat} {y : Int32} {w : Nat → Nat} {act : Nat → Int32} (V : gx_V g L n s w) (he : e ≤ s) (ha : ∀ p, act p = ac (w p)) (hy : gw_mn y (nI s) = nI e ∨ (e = 0 ∧ gw_mn y (nI s) < 0)) (h : post (8192 * (gw_x act e + 4096) + gw_y act e + 4096)) : wpX_point post (la, lb, ac, g, L, 39000) (nI n) y := by
  unfold wpX_point
  dsimp only
  have hn := V.1
  refine gx_ok V (br_t rfl ?_)
  rw [nI_clamp (by omega), V.2.2.1]
  refine ⟨vp_in_nI hn (by omega), gx_smaller ?_⟩
  rcases hy with hy | ⟨e0, hy⟩
  · rw [hy]
    exact ⟨e + 1, gx_pt V he ha h e 0 (by omega)⟩
  · refine ⟨1, ?_⟩
    rw [wX_point_36]
    dsimp only
    subst e0
    exact br_t (Int32.le_of_lt hy) h
theorem gx_direction {post : Int32 → Prop} {la lb ac g L : Nat → Int32} {n s : Nat} {w : Nat → Nat} {act : Nat → Int32} (V : gx_V g L n s w) (ha : ∀ p, act p = ac (w p)) (h : post (gw_d act s)) : wpX_direction post (la, lb, ac, g, L, 39000) (nI n) := by
  unfold wpX_direction
  dsimp only
  exact gx_ok V (br_t rfl ⟨s + 1, gx_dr V ha h s 0 (by omega)⟩)
theorem gx_extent {post : Int32 → Prop} {la lb ac g L : Nat → Int32} {n s : Nat} {w : Nat → Nat} {act : Nat → Int32} (V : gx_V g L n s w) (ha : ∀ p, act p = ac (w p))
    (h : post (4096 * (gw_gr (gw_x act) s - gw_le (gw_x act) s) + (gw_gr (gw_y act) s - gw_le (gw_y act) s))) : wpX_extent post (la, lb, ac, g, L, 39000) (nI n) := by
  unfold wpX_extent
  dsimp only
  exact gx_ok V (br_t rfl ⟨s + 1, gx_ex V ha h s 0 (by omega)⟩)
end
section
theorem gy_in {post : Int32 → SY → Prop} {J : Int32 → Int32 → (Nat → Int32) → (Nat → Int32) → (Nat → Int32) → (Nat → Int32) → (Nat → Int32) → (Nat → Int32) → (Nat → Int32) → (Nat → Int32) → (Nat → Int32) → Prop} {fz sz os vx vy vw vl vr vo vh : Int32} {rs ru fi ac wd ot pt se : Nat → Int32} {R T w : Nat → Nat} {q : Nat}
    (hr : gx_r R T ru rs) (hR : ∀ c, c < 6 → R c ≤ 4) (hT : ∀ j, j < 24 → T j < 6) (hc : w q < 6) (ho : gw_off R w q + R (w q) ≤ 3000)
    (K : ∀ nx, (∀ j, j < gw_off R w (q + 1) → nx j = nI (gw_G R T w (q + 1) j)) → J (nI (gw_off R w (q + 1))) (nI (q + 1)) rs ru fi ac wd nx ot pt se) :
    ∀ d i nx, i + d = R (w q) → (∀ j, j < gw_off R w q + i → nx j = nI (gw_G R T w (q + 1) j)) →
      wY_grow_38 post J (nI (gw_off R w q)) (nI q) (nI (w q)) fz sz os vx vy vw vl vr vo vh (d + 1) (nI i) rs ru fi ac wd nx ot pt se := by
  intro d
  have hb := hr.1 _ hc
  have h4 := hR _ hc
  induction d with
  | zero =>
    intro i nx hi h2
    rw [wY_grow_38]
    dsimp only
    rw [nI_clamp (by omega), hb]
    refine ⟨vp_in_nI hc (by omega), br_t (nI_le (by omega) (by omega)) ⟨vp_in_nI hc (by omega), nm_r (nI_add _ _) (nm_r (nI_1 _) ?_)⟩⟩
    exact K nx (fun j hj => h2 j (by rw [gw_off_s] at hj; omega))
  | succ d ih =>
    intro i nx hi h2
    rw [wY_grow_38]
    dsimp only
    have e4 : 4 * nI (w q) + nI i = nI (4 * w q + i) := by
      rw [show (4 : Int32) = nI 4 from by decide, pk_mul, nI_add]
    have ha := hr.2 (4 * w q + i) (by omega)
    have ht := hT (4 * w q + i) (by omega)
    have e5 : nI (gw_off R w q) + nI i = nI (gw_off R w q + i) := nI_add _ _
    rw [nI_clamp (by omega), hb, e4, e5, nI_clamp (by omega), nI_clamp (by omega), ha, gw_i8 ht, gw_nar ht]
    refine ⟨vp_in_nI hc (by omega), br_f (nI_ge (by omega) (by omega)) ⟨vp_in_nI (by omega) (by omega), vp_in_nI (by omega) (by omega), nm_e (nm_r (nI_1 _) ?_)⟩⟩
    refine ih (i + 1) _ (by omega) (fun j hj => ?_)
    by_cases z : j = gw_off R w q + i
    · rw [z, pk_us, gw_G_hi]
    · rw [pk_un z]
      exact h2 j (by omega)
theorem gy_cp {post : Int32 → SY → Prop} {fz sz os vx vy vw vl vr vo vh : Int32} {rs ru fi ac nx ot pt se : Nat → Int32} {e : Nat} {v : Nat → Nat} (he : e ≤ 3000) (hn : ∀ j, j < e → nx j = nI (v j) ∧ v j < 6)
    (H : ∀ wd, (∀ j, j < e → wd j = nI (v j)) → post 1 (fz, sz, os, vx, vy, vw, vl, vr, vo, vh, rs, ru, fi, ac, wd, nx, ot, pt, se)) : ∀ d p wd, p + d = e → (∀ j, j < p → wd j = nI (v j)) → wY_grow_98 post (nI e) fz sz os vx vy vw vl vr vo vh (d + 1) (nI p) rs ru fi ac wd nx ot pt se := by
  intro d
  induction d with
  | zero =>
    intro p wd hp h
    rw [wY_grow_98]
    dsimp only
    exact br_t (nI_le (by omega) (by omega)) (H wd (fun j hj => h j (by omega)))
  | succ d ih =>
    intro p wd hp h
    rw [wY_grow_98]
    dsimp only
    have k := hn p (by omega)
    rw [nI_clamp (by omega), k.1, gw_nar k.2]
    refine br_f (nI_ge (by omega) (by omega)) ⟨vp_in_nI (by omega) (by omega), vp_in_nI (by omega) (by omega), nm_e (nm_r (nI_1 _) ?_)⟩
    refine ih (p + 1) _ (by omega) (fun j hj => ?_)
    by_cases z : j = p
    · rw [z, pk_us]
    · rw [pk_un z]
      exact h j (by omega)
theorem gy_out {post : Int32 → SY → Prop} {fz os vx vy vw vl vr vo vh : Int32} {rs ru fi ac wd ot pt se : Nat → Int32} {R T w : Nat → Nat} {s : Nat}
    (hr : gx_r R T ru rs) (hR : ∀ c, c < 6 → R c ≤ 4) (hT : ∀ j, j < 24 → T j < 6) (hs : s ≤ 3000) (hw : ∀ j, j < s → w j < 6 ∧ wd j = nI (w j))
    (H1 : gw_off R w s ≤ 3000 → ∀ wd nx, (∀ j, j < gw_off R w s → wd j = nI (gw_G R T w s j)) → post 1 (fz, nI (gw_off R w s), os, vx, vy, vw, vl, vr, vo, vh, rs, ru, fi, ac, wd, nx, ot, pt, se))
    (H2 : ¬ gw_off R w s ≤ 3000 → ∀ nx, post 0 (fz, nI s, os, vx, vy, vw, vl, vr, vo, vh, rs, ru, fi, ac, wd, nx, ot, pt, se)) :
    ∀ d p nx, p + d = s → gw_off R w p ≤ 3000 → (∀ j, j < gw_off R w p → nx j = nI (gw_G R T w p j)) →
      wY_grow_4 post fz (nI s) os vx vy vw vl vr vo vh (d + 1) (nI (gw_off R w p)) (nI p) rs ru fi ac wd nx ot pt se := by
  intro d
  induction d with
  | zero =>
    intro p nx hp ho h2
    rw [wY_grow_4]
    dsimp only
    have e : p = s := by omega
    subst e
    refine br_t (nI_le (by omega) (by omega)) ⟨gw_off R w p + 1, ?_⟩
    refine gy_cp ho (fun j hj => ⟨h2 j hj, ?_⟩) (fun wd' k => H1 ho wd' nx k) (gw_off R w p) 0 wd (by omega) (fun j hj => absurd hj (Nat.not_lt_zero j))
    exact gw_G_lt hR hT (fun j hj => (hw j hj).1) p (Nat.le_refl _) j hj
  | succ d ih =>
    intro p nx hp ho h2
    rw [wY_grow_4]
    dsimp only
    have k := hw p (by omega)
    have hc := k.1
    have h4 := hR _ hc
    rw [nI_clamp (by omega)]
    refine br_f (nI_ge (by omega) (by omega)) ⟨vp_in_nI (by omega) (by omega), nm_r k.2 ⟨vp_in_nI hc (by omega), ?_⟩⟩
    rw [nI_clamp (by omega), hr.1 _ hc, nI_add]
    by_cases z : gw_off R w p + R (w p) ≤ 3000
    · refine br_t (nI_le (b := 3000) z (by decide)) ⟨R (w p) + 1, ?_⟩
      refine gy_in hr hR hT hc z ?_ (R (w p)) 0 nx (by omega) (fun j hj => ?_)
      · intro nx' k2
        exact ih (p + 1) nx' (by omega) (by rw [gw_off_s]; exact z) k2
      · rw [gw_G_lo (by omega)]
        exact h2 j (by omega)
    · refine br_f (nI_ge (b := gw_off R w p + R (w p)) (a := 3000) (by omega) (by omega)) (H2 ?_ nx)
      have := gw_off_le (R := R) (w := w) (show p + 1 ≤ s by omega)
      rw [gw_off_s] at this
      omega
theorem gy_grow {post : Int32 → SY → Prop} {fz os vx vy vw vl vr vo vh : Int32} {rs ru fi ac wd nx ot pt se : Nat → Int32} {R T w : Nat → Nat} {s : Nat}
    (hr : gx_r R T ru rs) (hR : ∀ c, c < 6 → R c ≤ 4) (hT : ∀ j, j < 24 → T j < 6) (hs : s ≤ 3000) (hw : ∀ j, j < s → w j < 6 ∧ wd j = nI (w j))
    (H1 : gw_off R w s ≤ 3000 → ∀ wd nx, (∀ j, j < gw_off R w s → wd j = nI (gw_G R T w s j)) → post 1 (fz, nI (gw_off R w s), os, vx, vy, vw, vl, vr, vo, vh, rs, ru, fi, ac, wd, nx, ot, pt, se))
    (H2 : ¬ gw_off R w s ≤ 3000 → ∀ nx, post 0 (fz, nI s, os, vx, vy, vw, vl, vr, vo, vh, rs, ru, fi, ac, wd, nx, ot, pt, se)) : wpY_grow post (fz, nI s, os, vx, vy, vw, vl, vr, vo, vh, rs, ru, fi, ac, wd, nx, ot, pt, se) := by
  unfold wpY_grow
  dsimp only
  exact ⟨s + 1, gy_out hr hR hT hs hw H1 H2 s 0 nx (by omega) (Nat.zero_le _) (fun j hj => absurd hj (Nat.not_lt_zero j))⟩
theorem gy_w0 {post : Int32 → SY → Prop} {fz sz os vx vy vw vl vr vo vh : Int32} {rs ru fi ac wd nx ot pt se : Nat → Int32} {x1 x3 : Int32} {f : Nat} (h : post (-2) (fz, sz, os, vx, vy, vw, vl, vr, vo, vh, rs, ru, fi, ac, wd, nx, ot, pt, se)) : wY_write_53 post x1 (f + 1) 0 x3 fz sz os vx vy vw vl vr vo vh rs ru fi ac wd nx ot pt se := by
  rw [wY_write_53]
  dsimp only
  exact br_c (fun _ => br_t rfl h) (fun _ => br_t rfl (br_t rfl h))
theorem gy_w53 {post : Int32 → SY → Prop} {fz os vx vy vw vl vr vo vh : Int32} {rs ru fi ac ot pt se : Nat → Int32} {R T F : Nat → Nat} {fs n : Nat}
    (hP : gw_P R T F fs) (hr : gx_r R T ru rs) (hn : n < 13)
    (H1 : ∀ s w, gw_gen R T F fs n = some (s, w) → ∀ wd nx, (∀ j, j < s → wd j = nI (w j)) → post 0 (fz, nI s, os, vx, vy, vw, vl, vr, vo, vh, rs, ru, fi, ac, wd, nx, ot, pt, se))
    (H2 : gw_gen R T F fs n = none → ∀ sz wd nx, post (-2) (fz, sz, os, vx, vy, vw, vl, vr, vo, vh, rs, ru, fi, ac, wd, nx, ot, pt, se)) :
    ∀ d k s w wd nx, k + d = n → gw_gen R T F fs k = some (s, w) → (∀ j, j < s → wd j = nI (w j)) → wY_write_53 post (nI n) (d + 1) 1 (nI k) fz (nI s) os vx vy vw vl vr vo vh rs ru fi ac wd nx ot pt se := by
  intro d
  induction d with
  | zero =>
    intro k s w wd nx hk e h
    rw [wY_write_53]
    dsimp only
    have q : k = n := by omega
    subst q
    exact br_t (nI_le (by omega) (by omega)) (br_f (by decide) (H1 s w e wd nx h))
  | succ d ih =>
    intro k s w wd nx hk e h
    rw [wY_write_53]
    dsimp only
    have o := gw_gen_ok hP k s w e
    refine br_f (nI_ge (by omega) (by omega)) (br_f (by decide) ?_)
    refine gy_grow hr hP.1 hP.2.1 o.1 (fun j hj => ⟨o.2 j hj, h j hj⟩) ?_ ?_
    · intro c wd' nx' h'
      exact nm_r (nI_1 _) (ih (k + 1) _ _ wd' nx' (by omega) (gw_gen_yes e c) h')
    · intro c nx'
      exact nm_r (nI_1 _) (gy_w0 (H2 (gw_gen_nos (gw_gen_long e c) (by omega)) _ _ _))
def gy_R (R T F : Nat → Nat) (fs : Nat) (fz : Int32) (rs ru fi : Nat → Int32) : Prop := gx_r R T ru rs ∧ fz = nI fs ∧ ∀ j, j < fs → fi j = nI (F j)
theorem gy_w22 {post : Int32 → SY → Prop} {fz os vx vy vw vl vr vo vh : Int32} {rs ru fi ac nx ot pt se : Nat → Int32} {R T F : Nat → Nat} {fs n : Nat}
    (hP : gw_P R T F fs) (hY : gy_R R T F fs fz rs ru fi) (hn : n < 13)
    (H1 : ∀ s w, gw_gen R T F fs n = some (s, w) → ∀ wd nx, (∀ j, j < s → wd j = nI (w j)) → post 0 (fz, nI s, os, vx, vy, vw, vl, vr, vo, vh, rs, ru, fi, ac, wd, nx, ot, pt, se))
    (H2 : gw_gen R T F fs n = none → ∀ sz wd nx, post (-2) (fz, sz, os, vx, vy, vw, vl, vr, vo, vh, rs, ru, fi, ac, wd, nx, ot, pt, se)) :
    ∀ d p wd, p + d = fs → (∀ j, j < p → wd j = nI (F j)) → wY_write_22 post (nI n) fz (nI fs) os vx vy vw vl vr vo vh (d + 1) (nI p) rs ru fi ac wd nx ot pt se := by
  intro d
  have h8 := hP.2.2.2.2
  have hf := hY.2.1
  induction d with
  | zero =>
    intro p wd hp h
    rw [wY_write_22]
    dsimp only
    have q : p = fs := by omega
    subst q
    refine br_t (by rw [hf]; exact nI_le (by omega) (by omega)) ⟨n + 1, ?_⟩
    exact gy_w53 hP hY.1 hn H1 H2 n 0 p F wd nx (by omega) rfl h
  | succ d ih =>
    intro p wd hp h
    rw [wY_write_22]
    dsimp only
    have hF := hP.2.2.1 p (by omega)
    rw [nI_clamp (by omega), hY.2.2 p (by omega), gw_i8 hF, gw_nar hF]
    refine br_f (by rw [hf]; exact nI_ge (by omega) (by omega)) ⟨vp_in_nI (by omega) (by omega), vp_in_nI (by omega) (by omega), nm_e (nm_r (nI_1 _) ?_)⟩
    refine ih (p + 1) _ (by omega) (fun j hj => ?_)
    by_cases z : j = p
    · rw [z, pk_us]
    · rw [pk_un z]
      exact h j (by omega)
theorem gy_write {post : Int32 → SY → Prop} {fz sz os vx vy vw vl vr vo vh : Int32} {rs ru fi ac wd nx ot pt se : Nat → Int32} {R T F : Nat → Nat} {fs n : Nat}
    (hP : gw_P R T F fs) (hY : gy_R R T F fs fz rs ru fi) (hn : n < 13)
    (H1 : ∀ s w, gw_gen R T F fs n = some (s, w) → ∀ wd nx, (∀ j, j < s → wd j = nI (w j)) → post 0 (fz, nI s, os, vx, vy, vw, vl, vr, vo, vh, rs, ru, fi, ac, wd, nx, ot, pt, se))
    (H2 : gw_gen R T F fs n = none → ∀ sz wd nx, post (-2) (fz, sz, os, vx, vy, vw, vl, vr, vo, vh, rs, ru, fi, ac, wd, nx, ot, pt, se)) : wpY_write post (fz, sz, os, vx, vy, vw, vl, vr, vo, vh, rs, ru, fi, ac, wd, nx, ot, pt, se) (nI n) := by
  unfold wpY_write
  dsimp only
  refine br_f (nI_pos (by omega)) (br_t (nI_le (b := 12) (by omega) (by decide)) ⟨fs + 1, ?_⟩)
  have k := gy_w22 (os := os) (vx := vx) (vy := vy) (vw := vw) (vl := vl) (vr := vr) (vo := vo) (vh := vh) (ac := ac) (nx := nx) (ot := ot) (pt := pt) (se := se) hP hY hn H1 H2 fs 0 wd (by omega) (fun j hj => absurd hj (Nat.not_lt_zero j))
  have hf := hY.2.1
  subst hf
  exact k
def gy_No (R T F : Nat → Nat) (fs : Nat) (x r : Int32) : Prop := ((x < 0 ∨ nI 13 ≤ x) ∧ r = -1) ∨ (∃ n, n < 13 ∧ x = nI n ∧ gw_gen R T F fs n = none ∧ r = -2)
theorem gy_No_lt {R T F : Nat → Nat} {fs : Nat} {x r : Int32} (h : gy_No R T F fs x r) : ¬ 0 ≤ r := by
  rcases h with ⟨_, e⟩ | ⟨_, _, _, _, e⟩
  · rw [e]; decide
  · rw [e]; decide
theorem gy_wNo {post : Int32 → SY → Prop} {fz sz os vx vy vw vl vr vo vh : Int32} {rs ru fi ac wd nx ot pt se : Nat → Int32} {R T F : Nat → Nat} {fs : Nat} {x r : Int32} (hP : gw_P R T F fs) (hY : gy_R R T F fs fz rs ru fi) (h : gy_No R T F fs x r)
    (H : ∀ sz wd nx, post r (fz, sz, os, vx, vy, vw, vl, vr, vo, vh, rs, ru, fi, ac, wd, nx, ot, pt, se)) : wpY_write post (fz, sz, os, vx, vy, vw, vl, vr, vo, vh, rs, ru, fi, ac, wd, nx, ot, pt, se) x := by
  rcases h with ⟨hx, e⟩ | ⟨n, hn, ex, hg, e⟩
  · subst e
    unfold wpY_write
    dsimp only
    by_cases z : x < 0
    · exact br_t z (H _ _ _)
    · refine br_f z (br_f (fun k => ?_) (H _ _ _))
      exact absurd (Int32.le_trans (hx.resolve_left z) k) (by decide)
  · subst e ex
    refine gy_write hP hY hn (fun s w k => ?_) (fun _ => H)
    rw [hg] at k
    cases k
theorem gy_wOk {post : Int32 → SY → Prop} {fz sz os vx vy vw vl vr vo vh : Int32} {rs ru fi ac wd nx ot pt se : Nat → Int32} {R T F w : Nat → Nat} {fs n s : Nat} (hP : gw_P R T F fs) (hY : gy_R R T F fs fz rs ru fi) (hn : n < 13) (e : gw_gen R T F fs n = some (s, w))
    (H : ∀ wd nx, (∀ j, j < s → wd j = nI (w j)) → post 0 (fz, nI s, os, vx, vy, vw, vl, vr, vo, vh, rs, ru, fi, ac, wd, nx, ot, pt, se)) : wpY_write post (fz, sz, os, vx, vy, vw, vl, vr, vo, vh, rs, ru, fi, ac, wd, nx, ot, pt, se) (nI n) := by
  refine gy_write hP hY hn (fun s' w' k => ?_) (fun k => ?_)
  · rw [e] at k
    cases k
    exact H
  · rw [e] at k
    cases k
theorem gy_isL {post : Int32 → Prop} {fz sz os vx vy vw vl vr vo vh : Int32} {rs ru fi ac wd nx ot pt se : Nat → Int32} {c : Nat} (hc : c < 6) (h : post 1) : wpY_isLetter post (fz, sz, os, vx, vy, vw, vl, vr, vo, vh, rs, ru, fi, ac, wd, nx, ot, pt, se) (nI c) := by
  unfold wpY_isLetter
  dsimp only
  exact br_f (nI_pos (by omega)) (br_f (nI_nlt (a := 5) (by omega) (by omega)) h)
theorem gy_isN {post : Int32 → Prop} {fz sz os vx vy vw vl vr vo vh : Int32} {rs ru fi ac wd nx ot pt se : Nat → Int32} {x : Int32} (hx : x < 0 ∨ nI 6 ≤ x) (h : post 0) : wpY_isLetter post (fz, sz, os, vx, vy, vw, vl, vr, vo, vh, rs, ru, fi, ac, wd, nx, ot, pt, se) x := by
  unfold wpY_isLetter
  dsimp only
  by_cases z : x < 0
  · exact br_t z h
  · refine br_f z (br_t ?_ h)
    refine Int32.not_le.mp (fun k => ?_)
    exact absurd (Int32.le_trans (hx.resolve_left z) k) (by decide)
theorem gy_rd {post : Int32 → SY → Prop} {fz sz os vx vy vw vl vr vo vh : Int32} {rs ru fi ac wd nx ot se : Nat → Int32} {x most : Nat} (hx : x < 2 ^ 31) (hm : most ≤ 8) : ∀ d k pt, k + d = most → (∀ j, j < k → pt j = nI (gw_dg x j)) →
    (∀ pt, (∀ j, j < gw_len x d k → pt j = nI (gw_dg x j)) → wY_read_49 post (nI (gw_len x d k)) (nI (x / 7 ^ (gw_len x d k))) fz sz os vx vy vw vl vr vo vh rs ru fi ac wd nx ot pt se) → wY_read_5 post (nI most) fz sz os vx vy vw vl vr vo vh (d + 1) (nI k) (nI (x / 7 ^ k)) rs ru fi ac wd nx ot pt se := by
  intro d
  induction d with
  | zero =>
    intro k pt hk hp H
    rw [wY_read_5]
    dsimp only
    exact br_c (fun _ => H pt hp) (fun _ => br_t (nI_le (by omega) (by omega)) (H pt hp))
  | succ d ih =>
    intro k pt hk hp H
    rw [wY_read_5]
    dsimp only
    have hlt : x / 7 ^ k < 2 ^ 31 := Nat.lt_of_le_of_lt (Nat.div_le_self _ _) hx
    by_cases z : x / 7 ^ k % 7 = 0
    · rw [gw_len_z z] at H
      rw [gw_rem7 hx, z]
      exact br_c (fun _ => H pt hp) (fun _ => br_c (fun _ => H pt hp) (fun _ => ⟨by decide, br_t (by decide) (H pt hp)⟩))
    · rw [gw_len_n z] at H
      rw [gw_digit hx z, gw_rem7 hx, gw_quo7 hx, nI_clamp (by omega)]
      have hpos : 0 < x / 7 ^ k := Nat.pos_of_ne_zero (fun q => z (by rw [q]))
      refine br_f (nI_nle hpos hlt) (br_f (nI_ge (by omega) (by omega)) ⟨by decide, br_f (nI_nle (by omega) (by omega)) ⟨by decide, vp_in_nI (by omega) (by omega), nm_e ⟨by decide, nm_e (nm_r (nI_1 _) ?_)⟩⟩⟩)
      refine ih (k + 1) _ (by omega) (fun j hj => ?_) H
      by_cases y : j = k
      · rw [y, pk_us]
      · rw [pk_un y]
        exact hp j (by omega)
theorem gy_rd_good {post : Int32 → SY → Prop} {fz sz os vx vy vw vl vr vo vh : Int32} {rs ru fi ac wd nx ot pt se : Nat → Int32} {most x l : Nat} {y : Int32} (G : gw_Good most y x l) (hm : most ≤ 8) (h : ∀ pt, (∀ j, j < l → pt j = nI (gw_dg x j)) → post (nI l) (fz, sz, os, vx, vy, vw, vl, vr, vo, vh, rs, ru, fi, ac, wd, nx, ot, pt, se)) : wpY_read post (fz, sz, os, vx, vy, vw, vl, vr, vo, vh, rs, ru, fi, ac, wd, nx, ot, pt, se) y (nI most) := by
  obtain ⟨hx, e, el, h0⟩ := G
  unfold wpY_read
  dsimp only
  refine ⟨most + 1, ?_⟩
  rw [e, show nI x = nI (x / 7 ^ 0) by rw [Nat.pow_zero, Nat.div_one]]
  refine gy_rd hx hm most 0 pt (by omega) (fun j hj => absurd hj (Nat.not_lt_zero j)) ?_
  rw [← el, h0]
  intro pt' k
  exact br_t rfl (h pt' k)
theorem gy_rd_bad {post : Int32 → SY → Prop} {fz sz os vx vy vw vl vr vo vh : Int32} {rs ru fi ac wd nx ot pt se : Nat → Int32} {most : Nat} {y : Int32} (G : gw_Bad most y) (hm : most ≤ 8) (h : ∀ pt, post (-1) (fz, sz, os, vx, vy, vw, vl, vr, vo, vh, rs, ru, fi, ac, wd, nx, ot, pt, se)) : wpY_read post (fz, sz, os, vx, vy, vw, vl, vr, vo, vh, rs, ru, fi, ac, wd, nx, ot, pt, se) y (nI most) := by
  unfold wpY_read
  dsimp only
  rcases G with hy | ⟨x, hx, e, h0⟩
  · refine ⟨1, ?_⟩
    rw [wY_read_5]
    dsimp only
    refine br_t (Int32.le_of_lt hy) (br_f (fun z => ?_) (h pt))
    rw [z] at hy
    exact absurd hy (by decide)
  · refine ⟨most + 1, ?_⟩
    rw [e, show nI x = nI (x / 7 ^ 0) by rw [Nat.pow_zero, Nat.div_one]]
    refine gy_rd hx hm most 0 pt (by omega) (fun j hj => absurd hj (Nat.not_lt_zero j)) ?_
    intro pt' k
    exact br_f (nI_ne0 (Nat.pos_of_ne_zero h0) (Nat.lt_of_le_of_lt (Nat.div_le_self _ _) hx)) (h pt')
end
section
theorem gy_ct {post : Int32 → SY → Prop} {fz os vx vy vw vl vr vo vh : Int32} {rs ru fi ac wd nx ot pt se : Nat → Int32} {s c : Nat} {w : Nat → Nat} {x y : Int32} (hs : s ≤ 3000) (hc : c < 6) (hw : ∀ j, j < s → w j < 6 ∧ wd j = nI (w j)) : ∀ d p f, p + d = s → post (nI (f + gw_cnt (fun q => decide (¬ nI q < x) && decide (¬ y ≤ nI q) && decide (w q = c)) d p)) (fz, nI s, os, vx, vy, vw, vl, vr, vo, vh, rs, ru, fi, ac, wd, nx, ot, pt, se) → wY_count_32 post (nI c) x y fz (nI s) os vx vy vw vl vr vo vh rs ru fi ac wd nx ot pt se (d + 1) (nI f) (nI p) := by
  intro d
  induction d with
  | zero =>
    intro p f hp h
    rw [wY_count_32]
    dsimp only
    exact br_t (nI_le (by omega) (by omega)) h
  | succ d ih =>
    intro p f hp h
    rw [wY_count_32]
    dsimp only
    have k := hw p (by omega)
    rw [nI_clamp (by omega), k.2]
    refine br_f (nI_ge (by omega) (by omega)) ?_
    by_cases z1 : nI p < x
    · rw [gw_cnt_f (by simp [z1])] at h
      exact br_t z1 (nm_r (nI_1 _) (ih (p + 1) f (by omega) h))
    · refine br_f z1 ?_
      by_cases z2 : y ≤ nI p
      · rw [gw_cnt_f (by simp [z2])] at h
        exact br_t z2 (nm_r (nI_1 _) (ih (p + 1) f (by omega) h))
      · refine br_f z2 ⟨vp_in_nI (by omega) (by omega), ?_⟩
        by_cases z3 : w p = c
        · rw [gw_cnt_t (by rw [decide_eq_true z1, decide_eq_true z2, decide_eq_true z3]; rfl)] at h
          refine br_t (by rw [z3]) (nm_r (nI_1 _) (nm_r (nI_1 _) (ih (p + 1) (f + 1) (by omega) ?_)))
          rw [show ∀ m, f + 1 + m = f + (m + 1) by intro m; omega]
          exact h
        · rw [gw_cnt_f (by simp [z3])] at h
          exact br_f (fun q => z3 ((nI_eq (by omega) (by omega)).mp q)) (nm_r (nI_1 _) (ih (p + 1) f (by omega) h))
theorem gy_st {post : Int32 → Prop} {fz sz os vx vy vw vl vr vo vh : Int32} {rs ru fi ac wd nx ot pt se : Nat → Int32} {s m q x : Nat} {w : Nat → Nat} (hs : s ≤ 3000) (hm : m ≤ 8) (hq : q + m ≤ s) (hw : ∀ j, j < s → w j < 6 ∧ wd j = nI (w j)) (hp : ∀ j, j < m → pt j = nI (gw_dg x j))
    (H1 : (∀ i, i < m → w (q + i) = gw_dg x i) → post 1) (H0 : ¬ (∀ i, i < m → w (q + i) = gw_dg x i) → post 0) : ∀ d k b, k + d = m → (b = 1 ∧ (∀ i, i < k → w (q + i) = gw_dg x i)) ∨ (b = 0 ∧ ¬ (∀ i, i < m → w (q + i) = gw_dg x i)) → wY_standsAt_17 post (nI q) (nI m) fz sz os vx vy vw vl vr vo vh rs ru fi ac wd nx ot pt se (d + 1) b (nI k) := by
  intro d
  induction d with
  | zero =>
    intro k b hk hb
    rw [wY_standsAt_17]
    dsimp only
    have e : k = m := by omega
    subst e
    rcases hb with ⟨e, h⟩ | ⟨e, h⟩
    · subst e
      exact br_t (nI_le (by omega) (by omega)) ⟨rfl, H1 h⟩
    · subst e
      exact br_t (nI_le (by omega) (by omega)) ⟨rfl, H0 h⟩
  | succ d ih =>
    intro k b hk hb
    rw [wY_standsAt_17]
    dsimp only
    refine br_f (nI_ge (by omega) (by omega)) ?_
    rcases hb with ⟨e, h⟩ | ⟨e, h⟩
    · subst e
      have k1 := hw (q + k) (by omega)
      have k2 := gw_dg_lt x k
      rw [nI_add, nI_clamp (by omega), nI_clamp (by omega), k1.2, hp k (by omega)]
      refine br_f (by decide) ⟨vp_in_nI (by omega) (by omega), vp_in_nI (by omega) (by omega), ?_⟩
      by_cases z : w (q + k) = gw_dg x k
      · refine br_t (by rw [z]) (nm_r (nI_1 _) (ih (k + 1) 1 (by omega) (Or.inl ⟨rfl, fun i hi => ?_⟩)))
        by_cases y : i = k
        · rw [y]; exact z
        · exact h i (by omega)
      · exact br_f (fun r => z ((nI_eq (by omega) (by omega)).mp r)) (nm_r (nI_1 _) (ih (k + 1) 0 (by omega) (Or.inr ⟨rfl, fun r => z (r k (by omega))⟩)))
    · subst e
      exact br_t rfl (nm_r (nI_1 _) (ih (k + 1) 0 (by omega) (Or.inr ⟨rfl, h⟩)))
theorem gy_standsAt {post : Int32 → Prop} {fz os vx vy vw vl vr vo vh : Int32} {rs ru fi ac wd nx ot pt se : Nat → Int32} {s m q x : Nat} {w : Nat → Nat} {v : Int32} (G : gw_Good 4 v x m) (hs : s ≤ 3000) (hq : q < s) (hw : ∀ j, j < s → w j < 6 ∧ wd j = nI (w j)) (hp : ∀ j, j < m → pt j = nI (gw_dg x j))
    (H1 : q + m ≤ s ∧ gw_hor w m q = x → post 1) (H0 : ¬ (q + m ≤ s ∧ gw_hor w m q = x) → post 0) : wpY_standsAt post (fz, nI s, os, vx, vy, vw, vl, vr, vo, vh, rs, ru, fi, ac, wd, nx, ot, pt, se) (nI q) (nI m) := by
  unfold wpY_standsAt
  dsimp only
  have hm := gw_Good_le G
  rw [nI_add]
  by_cases z : q + m ≤ s
  · refine br_t (nI_le z (by omega)) ⟨m + 1, ?_⟩
    have C : gw_hor w m q = x ↔ ∀ i, i < m → w (q + i) = gw_dg x i := by
      have c := gw_hor_inj (f := w) (g := gw_dg x) m q 0 (fun i hi => (hw (q + i) (by omega)).1) (fun i _ => gw_dg_lt x _)
      rw [gw_Good_hor G] at c
      rw [c]
      exact ⟨fun h i hi => by have := h i hi; rw [Nat.zero_add] at this; exact this, fun h i hi => by rw [Nat.zero_add]; exact h i hi⟩
    exact gy_st hs (by omega) z hw hp (fun h => H1 ⟨z, C.mpr h⟩) (fun h => H0 (fun k => h (C.mp k.2))) m 0 1 (by omega) (Or.inl ⟨rfl, fun i hi => absurd hi (Nat.not_lt_zero i)⟩)
  · exact br_f (nI_ge (by omega) (by omega)) (H0 (fun k => z k.1))
theorem gy_fi {post : Int32 → SY → Prop} {fz os vx vy vw vl vr vo vh : Int32} {rs ru fi ac wd nx ot pt se : Nat → Int32} {s m x : Nat} {w : Nat → Nat} {v y : Int32} (G : gw_Good 4 v x m) (hs : s ≤ 3000) (hw : ∀ j, j < s → w j < 6 ∧ wd j = nI (w j)) (hp : ∀ j, j < m → pt j = nI (gw_dg x j)) :
    ∀ d p, p + d = s → post (gx_f (gw_fst (fun q => decide (¬ nI q < y) && decide (q + m ≤ s ∧ gw_hor w m q = x)) d p)) (fz, nI s, os, vx, vy, vw, vl, vr, vo, vh, rs, ru, fi, ac, wd, nx, ot, pt, se) → wY_find_35 post y (nI m) fz (nI s) os vx vy vw vl vr vo vh rs ru fi ac wd nx ot pt se (d + 1) (nI p) := by
  intro d
  induction d with
  | zero =>
    intro p hd h
    rw [wY_find_35]
    dsimp only
    exact br_t (nI_le (by omega) (by omega)) h
  | succ d ih =>
    intro p hd h
    rw [wY_find_35]
    dsimp only
    refine br_f (nI_ge (by omega) (by omega)) ?_
    by_cases z1 : nI p < y
    · rw [gw_fst_f (by rw [decide_eq_false (fun k => k z1)]; simp)] at h
      exact br_t z1 (nm_r (nI_1 _) (ih (p + 1) (by omega) h))
    · refine br_f z1 (gy_standsAt G hs (by omega) hw hp (fun k => ?_) (fun k => ?_))
      · rw [gw_fst_t (by rw [decide_eq_true z1, decide_eq_true k]; rfl)] at h
        exact br_f (by decide) h
      · rw [gw_fst_f (by rw [decide_eq_false k]; simp)] at h
        exact br_t rfl (nm_r (nI_1 _) (ih (p + 1) (by omega) h))
theorem gy_oc {post : Int32 → SY → Prop} {fz os vx vy vw vl vr vo vh : Int32} {rs ru fi ac wd nx ot pt se : Nat → Int32} {s m x : Nat} {w : Nat → Nat} {v : Int32} (G : gw_Good 4 v x m) (hs : s ≤ 3000) (hw : ∀ j, j < s → w j < 6 ∧ wd j = nI (w j)) (hp : ∀ j, j < m → pt j = nI (gw_dg x j)) :
    ∀ d p f, p + d = s → post (nI (f + gw_cnt (fun q => decide (q + m ≤ s ∧ gw_hor w m q = x)) d p)) (fz, nI s, os, vx, vy, vw, vl, vr, vo, vh, rs, ru, fi, ac, wd, nx, ot, pt, se) → wY_occurrences_35 post (nI m) fz (nI s) os vx vy vw vl vr vo vh rs ru fi ac wd nx ot pt se (d + 1) (nI f) (nI p) := by
  intro d
  induction d with
  | zero =>
    intro p f hd h
    rw [wY_occurrences_35]
    dsimp only
    exact br_t (nI_le (by omega) (by omega)) h
  | succ d ih =>
    intro p f hd h
    rw [wY_occurrences_35]
    dsimp only
    refine br_f (nI_ge (by omega) (by omega)) (gy_standsAt G hs (by omega) hw hp (fun k => ?_) (fun k => ?_))
    · rw [gw_cnt_t (decide_eq_true k)] at h
      refine br_f (by decide) (nm_r (nI_1 _) (nm_r (nI_1 _) (ih (p + 1) (f + 1) (by omega) ?_)))
      rw [show ∀ m, f + 1 + m = f + (m + 1) by intro m; omega]
      exact h
    · rw [gw_cnt_f (by rw [decide_eq_true_eq]; exact k)] at h
      exact br_t rfl (nm_r (nI_1 _) (ih (p + 1) f (by omega) h))
theorem gy_r61 {post : Int32 → SY → Prop} {J : Int32 → Int32 → Int32 → Prop} {fz sz os vx vy vw vl vr vo vh : Int32} {rs ru fi ac wd nx ot pt se : Nat → Int32} {p : Nat} {a z : Int32} (h : J (gw_mx a z) z (nI (p + 1))) : wY_run_61 post J a (nI p) z fz sz os vx vy vw vl vr vo vh rs ru fi ac wd nx ot pt se := by
  unfold wY_run_61
  rw [gw_mx_c] at h
  unfold gw_mx at h
  by_cases y : z ≤ a
  · rw [if_pos y] at h
    exact br_t y (nm_r (nI_1 _) h)
  · rw [if_neg y] at h
    exact br_f y (nm_r (nI_1 _) h)
theorem gy_rn {post : Int32 → SY → Prop} {fz os vx vy vw vl vr vo vh : Int32} {rs ru fi ac wd nx ot pt se : Nat → Int32} {s : Nat} {w : Nat → Nat} (hs : s ≤ 3000) (hw : ∀ j, j < s → w j < 6 ∧ wd j = nI (w j)) (h : post (gw_gr (gw_rh w) s) (fz, nI s, os, vx, vy, vw, vl, vr, vo, vh, rs, ru, fi, ac, wd, nx, ot, pt, se)) :
    ∀ d p, p + d = s → wY_run_20 post fz (nI s) os vx vy vw vl vr vo vh rs ru fi ac wd nx ot pt se (d + 1) (gw_gr (gw_rh w) p) (gw_rh w p) (nI p) := by
  intro d
  induction d with
  | zero =>
    intro p hp
    rw [wY_run_20]
    dsimp only
    have e : p = s := by omega
    subst e
    exact br_t (nI_le (by omega) (by omega)) h
  | succ d ih =>
    intro p hp
    rw [wY_run_20]
    dsimp only
    have K := ih (p + 1) (by omega)
    rw [gw_gr_s] at K
    refine br_f (nI_ge (by omega) (by omega)) ?_
    have k := hw p (by omega)
    by_cases y : p = 0
    · have e : gw_rh w (p + 1) = 1 := by rw [gw_rh_s, if_neg (by omega)]
      rw [e] at K
      refine br_t (by rw [y]; decide) ?_
      unfold wY_run_60
      exact gy_r61 K
    · obtain ⟨q, rfl⟩ : ∃ q, p = q + 1 := ⟨p - 1, by omega⟩
      have k1 := hw q (by omega)
      rw [nI_pred, nI_clamp (by omega), nI_clamp (by omega), k.2, k1.2]
      refine br_f (nI_nle (by omega) (by omega)) ⟨vp_in_nI (by omega) (by omega), vp_in_nI (by omega) (by omega), ?_⟩
      by_cases z : w (q + 1) = w q
      · have e : gw_rh w (q + 1 + 1) = gw_rh w (q + 1) + 1 := by rw [gw_rh_s w (q + 1), if_pos ⟨by omega, by rw [Nat.add_sub_cancel]; exact z⟩]
        rw [e] at K
        exact br_t (by rw [z]) (gy_r61 K)
      · have e : gw_rh w (q + 1 + 1) = 1 := by rw [gw_rh_s w (q + 1), if_neg (fun r => z (by have := r.2; rw [Nat.add_sub_cancel] at this; exact this))]
        rw [e] at K
        refine br_f (fun r => z ((nI_eq (by omega) (by omega)).mp r)) ?_
        unfold wY_run_60
        exact gy_r61 K
theorem gy_c89 {post : Int32 → SY → Prop} {fz vx vy vw vl vr vo vh : Int32} {rs ru fi ac wd nx ot pt se : Nat → Int32} {s s' e : Nat} {w w' : Nat → Nat} (hs : s ≤ 3000) (hs' : s' ≤ 3000) (hw : ∀ j, j < s → w j < 6 ∧ ot j = nI (w j)) (hw' : ∀ j, j < s' → w' j < 6 ∧ wd j = nI (w' j)) (he : e = gw_min s s') :
    ∀ d p, p + d = e → post (nI (gw_pre w w' d p)) (fz, nI s', nI s, vx, vy, vw, vl, vr, vo, vh, rs, ru, fi, ac, wd, nx, ot, pt, se) → wY_common_89 post fz (nI s') (nI s) vx vy vw vl vr vo vh rs ru fi ac wd nx ot pt se (d + 1) (nI p) := by
  intro d
  have hm := gw_min_le s s'
  induction d with
  | zero =>
    intro p hp h
    rw [wY_common_89]
    dsimp only
    have q : p = gw_min s s' := by omega
    unfold gw_min at q
    by_cases z : s ≤ s'
    · rw [if_pos z] at q
      exact br_c (fun _ => h) (fun _ => br_t (nI_le (by omega) (by omega)) h)
    · rw [if_neg z] at q
      exact br_t (nI_le (by omega) (by omega)) h
  | succ d ih =>
    intro p hp h
    rw [wY_common_89]
    dsimp only
    have k := hw p (by omega)
    have k' := hw' p (by omega)
    rw [nI_clamp (by omega), k.2, k'.2]
    refine br_f (nI_ge (by omega) (by omega)) (br_f (nI_ge (by omega) (by omega)) ⟨vp_in_nI (by omega) (by omega), vp_in_nI (by omega) (by omega), ?_⟩)
    by_cases z : w p = w' p
    · rw [gw_pre_t z] at h
      exact br_t (by rw [z]) (nm_r (nI_1 _) (ih (p + 1) (by omega) h))
    · rw [gw_pre_f z] at h
      exact br_f (fun r => z ((nI_eq (by omega) (by omega)).mp r).symm) h
theorem gy_c45 {post : Int32 → SY → Prop} {fz os vx vy vw vl vr vo vh : Int32} {rs ru fi ac wd nx pt se : Nat → Int32} {s : Nat} {w : Nat → Nat} {x : Int32} (hs : s ≤ 3000) (hw : ∀ j, j < s → w j < 6 ∧ wd j = nI (w j))
    (H : ∀ ot, (∀ j, j < s → w j < 6 ∧ ot j = nI (w j)) → ∃ n, wY_common_45 post x fz (nI s) os vx vy vw vl vr vo vh (n + 1) (nI s) rs ru fi ac wd nx ot pt se) : ∀ d p ot, p + d = s → (∀ j, j < p → ot j = nI (w j)) → ∃ n, wY_common_45 post x fz (nI s) os vx vy vw vl vr vo vh (n + 1) (nI p) rs ru fi ac wd nx ot pt se := by
  intro d
  induction d with
  | zero =>
    intro p ot hp h
    have e : p = s := by omega
    subst e
    exact H ot (fun j hj => ⟨(hw j hj).1, h j hj⟩)
  | succ d ih =>
    intro p ot hp h
    have k := hw p (by omega)
    obtain ⟨n, hn⟩ := ih (p + 1) (upd ot p (nI (w p))) (by omega) (fun j hj => by
      by_cases z : j = p
      · rw [z, pk_us]
      · rw [pk_un z]
        exact h j (by omega))
    refine ⟨n + 1, ?_⟩
    rw [wY_common_45]
    dsimp only
    rw [nI_clamp (by omega), k.2, gw_nar k.1]
    exact br_f (nI_ge (by omega) (by omega)) ⟨vp_in_nI (by omega) (by omega), vp_in_nI (by omega) (by omega), nm_e (nm_r (nI_1 _) hn)⟩
theorem gy_mi {post : Int32 → SY → Prop} {fz os vx vy vw vl vr vo vh : Int32} {rs ru fi ac wd nx ot pt se : Nat → Int32} {s : Nat} {w : Nat → Nat} (hs : s ≤ 3000) (hw : ∀ j, j < s → w j < 6 ∧ wd j = nI (w j))
    (H1 : (∀ p, p < s → w p = w (s - 1 - p)) → post 1 (fz, nI s, os, vx, vy, vw, vl, vr, vo, vh, rs, ru, fi, ac, wd, nx, ot, pt, se)) (H0 : (∃ p, p < s ∧ ¬ w p = w (s - 1 - p)) → post 0 (fz, nI s, os, vx, vy, vw, vl, vr, vo, vh, rs, ru, fi, ac, wd, nx, ot, pt, se)) :
    ∀ d p b, p + d = s → (b = 1 ∧ (∀ t, t < p → w t = w (s - 1 - t))) ∨ (b = 0 ∧ ∃ t, t < s ∧ ¬ w t = w (s - 1 - t)) → wY_mirrored_17 post fz (nI s) os vx vy vw vl vr vo vh rs ru fi ac wd nx ot pt se (d + 1) b (nI p) := by
  intro d
  induction d with
  | zero =>
    intro p b hp hb
    rw [wY_mirrored_17]
    dsimp only
    refine br_t (nI_le (by omega) (by omega)) ?_
    rcases hb with ⟨e, h⟩ | ⟨e, h⟩
    · subst e
      exact br_f (by decide) (H1 (fun t ht => h t (by omega)))
    · subst e
      exact br_t rfl (H0 h)
  | succ d ih =>
    intro p b hp hb
    rw [wY_mirrored_17]
    dsimp only
    refine br_f (nI_ge (by omega) (by omega)) ?_
    rcases hb with ⟨e, h⟩ | ⟨e, h⟩
    · subst e
      have E : nI s - 1 - nI p = nI (s - 1 - p) := by
        obtain ⟨q, hq⟩ : ∃ q, s = q + 1 := ⟨s - 1, by omega⟩
        rw [hq, nI_pred, pk_sub (by omega), Nat.add_sub_cancel]
      have k := hw p (by omega)
      have k' := hw (s - 1 - p) (by omega)
      rw [E, nI_clamp (by omega), nI_clamp (by omega), k.2, k'.2]
      refine br_f (by decide) ⟨vp_in_nI (by omega) (by omega), vp_in_nI (by omega) (by omega), ?_⟩
      by_cases z : w p = w (s - 1 - p)
      · refine br_t (by rw [← z]) (nm_r (nI_1 _) (ih (p + 1) 1 (by omega) (Or.inl ⟨rfl, fun t ht => ?_⟩)))
        by_cases y : t = p
        · rw [y]; exact z
        · exact h t (by omega)
      · exact br_f (fun r => z ((nI_eq (by omega) (by omega)).mp r)) (nm_r (nI_1 _) (ih (p + 1) 0 (by omega) (Or.inr ⟨rfl, p, by omega, z⟩)))
    · subst e
      exact br_t rfl (nm_r (nI_1 _) (ih (p + 1) 0 (by omega) (Or.inr ⟨rfl, h⟩)))
end
section
theorem gy_k120 {post : Int32 → SY → Prop} {fz sz os vx vy vw vl vr vo vh : Int32} {rs ru fi ac wd nx ot pt se : Nat → Int32} {P : Nat → Bool} (hP : ∀ c, c < 216 → se c = if P c = true then 1 else 0) : ∀ d c f, c + d = 216 → post (nI (f + gw_cnt P d c)) (fz, sz, os, vx, vy, vw, vl, vr, vo, vh, rs, ru, fi, ac, wd, nx, ot, pt, se) → wY_kinds_120 post fz sz os vx vy vw vl vr vo vh rs ru fi ac wd nx ot pt se (d + 1) (nI f) (nI c) := by
  intro d
  induction d with
  | zero =>
    intro c f hc h
    rw [wY_kinds_120]
    dsimp only
    exact br_t (nI_le (a := 216) (by omega) (by omega)) h
  | succ d ih =>
    intro c f hc h
    rw [wY_kinds_120]
    dsimp only
    rw [nI_clamp (by omega), hP c (by omega)]
    refine br_f (nI_ge (b := 216) (by omega) (by decide)) ⟨vp_in_nI (by omega) (by omega), ?_⟩
    by_cases z : P c = true
    · rw [gw_cnt_t z] at h
      rw [if_pos z]
      refine br_f (by decide) (nm_r (nI_1 _) (nm_r (nI_1 _) (ih (c + 1) (f + 1) (by omega) ?_)))
      rw [show ∀ m, f + 1 + m = f + (m + 1) by intro m; omega]
      exact h
    · rw [gw_cnt_f z] at h
      rw [if_neg z]
      exact br_t rfl (nm_r (nI_1 _) (ih (c + 1) f (by omega) h))
theorem gw_cd216 {w : Nat → Nat} {p k : Nat} (hk : k ≤ 3) (h : ∀ i, i < k → w (p + i) < 6) : gw_cd w p k < 216 :=
  Nat.lt_of_lt_of_le (gw_cd_lt k h) (Nat.le_trans (Nat.pow_le_pow_right (by decide) hk) (by decide))
theorem gy_k70 {post : Int32 → SY → Prop} {J : Int32 → (Nat → Int32) → (Nat → Int32) → (Nat → Int32) → (Nat → Int32) → (Nat → Int32) → (Nat → Int32) → (Nat → Int32) → (Nat → Int32) → (Nat → Int32) → Prop} {fz sz os vx vy vw vl vr vo vh : Int32} {rs ru fi ac wd nx ot pt se : Nat → Int32} {s k p : Nat} {w : Nat → Nat} (hs : s ≤ 3000) (hk : k ≤ 3) (hp : p + k ≤ s) (hw : ∀ j, j < s → w j < 6 ∧ wd j = nI (w j))
    (H : J (nI (p + 1)) rs ru fi ac wd nx ot pt (upd se (gw_cd w p k) 1)) : ∀ d i, i + d = k → wY_kinds_70 post J (nI k) (nI p) fz sz os vx vy vw vl vr vo vh rs ru fi ac wd nx ot pt se (d + 1) (nI (gw_cd w p i)) (nI i) := by
  intro d
  have h216 : gw_cd w p k < 216 := gw_cd216 hk (fun i hi => (hw (p + i) (by omega)).1)
  induction d with
  | zero =>
    intro i hi
    rw [wY_kinds_70]
    dsimp only
    have e : i = k := by omega
    subst e
    rw [nI_clamp (by omega)]
    exact br_t (nI_le (by omega) (by omega)) ⟨vp_in_nI h216 (by omega), nm_e (nm_r (nI_1 _) H)⟩
  | succ d ih =>
    intro i hi
    rw [wY_kinds_70]
    dsimp only
    have k1 := hw (p + i) (by omega)
    have e : 6 * nI (gw_cd w p i) + nI (w (p + i)) = nI (gw_cd w p (i + 1)) := by
      rw [show (6 : Int32) = nI 6 from by decide, pk_mul, nI_add, gw_cd_s]
    rw [nI_add, nI_clamp (n := p + i) (by omega), k1.2, e]
    exact br_f (nI_ge (by omega) (by omega)) ⟨vp_in_nI (by omega) (by omega), nm_e (nm_r (nI_1 _) (ih (i + 1) (by omega)))⟩
theorem gy_k53 {post : Int32 → SY → Prop} {fz os vx vy vw vl vr vo vh : Int32} {rs ru fi ac wd nx ot pt : Nat → Int32} {s k : Nat} {w : Nat → Nat} (hs : s ≤ 3000) (h1 : 1 ≤ k) (hk : k ≤ 3) (hw : ∀ j, j < s → w j < 6 ∧ wd j = nI (w j))
    (H : ∀ se, post (nI (gw_cnt (gw_S (fun t => gw_cd w t k) (s + 1 - k)) 216 0)) (fz, nI s, os, vx, vy, vw, vl, vr, vo, vh, rs, ru, fi, ac, wd, nx, ot, pt, se)) : ∀ d p se, p + d = s + 1 - k → (∀ c, c < 216 → se c = if gw_S (fun t => gw_cd w t k) p c = true then 1 else 0) → wY_kinds_53 post (nI k) fz (nI s) os vx vy vw vl vr vo vh (d + 1) (nI p) rs ru fi ac wd nx ot pt se := by
  intro d
  induction d with
  | zero =>
    intro p se hp h
    rw [wY_kinds_53]
    dsimp only
    rw [nI_add]
    have e : p = s + 1 - k := by omega
    subst e
    refine br_t (nI_lt (by omega) (by omega)) ⟨217, ?_⟩
    refine gy_k120 h 216 0 0 (by omega) ?_
    rw [Nat.zero_add]
    exact H se
  | succ d ih =>
    intro p se hp h
    rw [wY_kinds_53]
    dsimp only
    rw [nI_add]
    refine br_f (nI_nlt (by omega) (by omega)) ⟨k + 1, ?_⟩
    refine gy_k70 hs hk (by omega) hw ?_ k 0 (by omega)
    refine ih (p + 1) _ (by omega) (fun c hc => ?_)
    by_cases z : c = gw_cd w p k
    · rw [z, pk_us]
      exact (if_pos (if_pos rfl)).symm
    · rw [pk_un z, h c hc]
      have e : gw_S (fun t => gw_cd w t k) (p + 1) c = gw_S (fun t => gw_cd w t k) p c := if_neg z
      rw [e]
theorem gy_k28 {post : Int32 → SY → Prop} {fz os vx vy vw vl vr vo vh : Int32} {rs ru fi ac wd nx ot pt : Nat → Int32} {s k : Nat} {w : Nat → Nat} (hs : s ≤ 3000) (h1 : 1 ≤ k) (hk : k ≤ 3) (hw : ∀ j, j < s → w j < 6 ∧ wd j = nI (w j))
    (H : ∀ se, post (nI (gw_cnt (gw_S (fun t => gw_cd w t k) (s + 1 - k)) 216 0)) (fz, nI s, os, vx, vy, vw, vl, vr, vo, vh, rs, ru, fi, ac, wd, nx, ot, pt, se)) : ∀ d p se, p + d = 216 → (∀ c, c < p → se c = 0) → wY_kinds_28 post (nI k) fz (nI s) os vx vy vw vl vr vo vh (d + 1) (nI p) rs ru fi ac wd nx ot pt se := by
  intro d
  induction d with
  | zero =>
    intro p se hp h
    rw [wY_kinds_28]
    dsimp only
    refine br_t (nI_le (a := 216) (by omega) (by omega)) ⟨s + 1 - k + 1, ?_⟩
    refine gy_k53 hs h1 hk hw H (s + 1 - k) 0 se (by omega) (fun c hc => ?_)
    rw [h c (by omega)]
    rfl
  | succ d ih =>
    intro p se hp h
    rw [wY_kinds_28]
    dsimp only
    rw [nI_clamp (by omega)]
    refine br_f (nI_ge (b := 216) (by omega) (by decide)) ⟨vp_in_nI (by omega) (by omega), nm_e (nm_r (nI_1 _) ?_)⟩
    refine ih (p + 1) _ (by omega) (fun c hc => ?_)
    by_cases z : c = p
    · rw [z, pk_us]
      rfl
    · rw [pk_un z]
      exact h c (by omega)
theorem gy_265 {post : SY → Prop} {J : Int32 → Int32 → Int32 → Int32 → Int32 → Int32 → Int32 → Int32 → Prop} {fz sz os vx vy vw vl vr vo vh : Int32} {rs ru fi ac wd nx ot pt se : Nat → Int32} {p : Nat} {x1 z : Int32} (h : J (nI (p + 1)) vx vy vw vl vr z (gw_mx vy vh)) : wY_draw_265 post J x1 (nI p) z fz sz os vx vy vw vl vr vo vh rs ru fi ac wd nx ot pt se := by
  unfold wY_draw_265
  unfold gw_mx at h
  by_cases y : vy ≤ vh
  · rw [if_pos y] at h; exact br_t y (nm_r (nI_1 _) h)
  · rw [if_neg y] at h; exact br_f y (nm_r (nI_1 _) h)
theorem gy_239 {post : SY → Prop} {J : Int32 → Int32 → Int32 → Int32 → Int32 → Int32 → Int32 → Int32 → Prop} {fz sz os vx vy vw vl vr vo vh : Int32} {rs ru fi ac wd nx ot pt se : Nat → Int32} {p : Nat} {x1 z : Int32} (h : J (nI (p + 1)) vx vy vw vl z (gw_mn vy vo) (gw_mx vy vh)) : wY_draw_239 post J x1 (nI p) z fz sz os vx vy vw vl vr vo vh rs ru fi ac wd nx ot pt se := by
  unfold wY_draw_239
  unfold gw_mn at h
  by_cases y : vo ≤ vy
  · rw [if_pos y] at h; exact br_t y (gy_265 h)
  · rw [if_neg y] at h; exact br_f y (gy_265 h)
theorem gy_213 {post : SY → Prop} {J : Int32 → Int32 → Int32 → Int32 → Int32 → Int32 → Int32 → Int32 → Prop} {fz sz os vx vy vw vl vr vo vh : Int32} {rs ru fi ac wd nx ot pt se : Nat → Int32} {p : Nat} {x1 z : Int32} (h : J (nI (p + 1)) vx vy vw z (gw_mx vx vr) (gw_mn vy vo) (gw_mx vy vh)) : wY_draw_213 post J x1 (nI p) z fz sz os vx vy vw vl vr vo vh rs ru fi ac wd nx ot pt se := by
  unfold wY_draw_213
  by_cases y : vx ≤ vr
  · have e : gw_mx vx vr = vr := if_pos y
    rw [e] at h; exact br_t y (gy_239 h)
  · have e : gw_mx vx vr = vx := if_neg y
    rw [e] at h; exact br_f y (gy_239 h)
theorem gy_187 {post : SY → Prop} {J : Int32 → Int32 → Int32 → Int32 → Int32 → Int32 → Int32 → Int32 → Prop} {fz sz os vx vy vw vl vr vo vh : Int32} {rs ru fi ac wd nx ot pt se : Nat → Int32} {p : Nat} {x1 z : Int32} (h : J (nI (p + 1)) vx vy z (gw_mn vx vl) (gw_mx vx vr) (gw_mn vy vo) (gw_mx vy vh)) : wY_draw_187 post J x1 (nI p) z fz sz os vx vy vw vl vr vo vh rs ru fi ac wd nx ot pt se := by
  unfold wY_draw_187
  by_cases y : vl ≤ vx
  · have e : gw_mn vx vl = vl := if_pos y
    rw [e] at h; exact br_t y (gy_213 h)
  · have e : gw_mn vx vl = vx := if_neg y
    rw [e] at h; exact br_f y (gy_213 h)
theorem gy_150 {post : SY → Prop} {J : Int32 → Int32 → Int32 → Int32 → Int32 → Int32 → Int32 → Int32 → Prop} {fz sz os vx vy vw vl vr vo vh : Int32} {rs ru fi ac wd nx ot pt se : Nat → Int32} {p : Nat} {x1 a : Int32} (h : J (nI (p + 1)) vx vy (gw_td a vw) (gw_mn vx vl) (gw_mx vx vr) (gw_mn vy vo) (gw_mx vy vh)) : wY_draw_150 post J x1 (nI p) a fz sz os vx vy vw vl vr vo vh rs ru fi ac wd nx ot pt se := by
  unfold wY_draw_150
  unfold gw_td at h
  by_cases y : a = 2
  · rw [if_pos y] at h; exact br_t y ⟨by decide, gy_187 h⟩
  · rw [if_neg y] at h
    refine br_f y ?_
    by_cases z : a = 3
    · rw [if_pos z] at h; exact br_t z ⟨by decide, gy_187 h⟩
    · rw [if_neg z] at h; exact br_f z (gy_187 h)
theorem gy_105 {post : SY → Prop} {J : Int32 → Int32 → Int32 → Int32 → Int32 → Int32 → Int32 → Int32 → Prop} {fz sz os vx vy vw vl vr vo vh : Int32} {rs ru fi ac wd nx ot pt se : Nat → Int32} {p : Nat} {x1 a z : Int32} (ha : a = 1) (h : J (nI (p + 1)) z (vy + gw_ty a vw) (gw_td a vw) (gw_mn z vl) (gw_mx z vr) (gw_mn (vy + gw_ty a vw) vo) (gw_mx (vy + gw_ty a vw) vh)) : wY_draw_105 post J x1 (nI p) a z fz sz os vx vy vw vl vr vo vh rs ru fi ac wd nx ot pt se := by
  unfold wY_draw_105
  by_cases y : vw = 1
  · have e : gw_ty a vw = 1 := by unfold gw_ty; rw [if_pos ha, if_pos y]
    rw [e] at h
    refine br_t y ?_
    unfold wY_draw_147
    exact gy_150 h
  · refine br_f y ?_
    by_cases x : vw = 3
    · have e : gw_ty a vw = -1 := by unfold gw_ty; rw [if_pos ha, if_neg y, if_pos x]
      rw [e, ← Int32.sub_eq_add_neg] at h
      refine br_t x ?_
      unfold wY_draw_147
      exact gy_150 h
    · have e : gw_ty a vw = 0 := by unfold gw_ty; rw [if_pos ha, if_neg y, if_neg x]
      rw [e, Int32.add_zero] at h
      refine br_f x ?_
      unfold wY_draw_147
      exact gy_150 h
theorem gy_dr {post : SY → Prop} {fz os : Int32} {rs ru fi ac wd nx ot pt se : Nat → Int32} {s e : Nat} {y : Int32} {w : Nat → Nat} {act : Nat → Int32} (hs : s ≤ 3000) (he : e ≤ s) (hy : ∀ t, t < s → (¬ y ≤ nI t ↔ t < e)) (hw : ∀ j, j < s → w j < 6 ∧ wd j = nI (w j)) (ha : ∀ p, act p = ac (w p))
    (h : post (fz, nI s, os, gw_x act e, gw_y act e, gw_d act e, gw_le (gw_x act) e, gw_gr (gw_x act) e, gw_le (gw_y act) e, gw_gr (gw_y act) e, rs, ru, fi, ac, wd, nx, ot, pt, se)) :
    ∀ d p, p + d = e → wY_draw_37 post y fz (nI s) os rs ru fi ac wd nx ot pt se (d + 1) (nI p) (gw_x act p) (gw_y act p) (gw_d act p) (gw_le (gw_x act) p) (gw_gr (gw_x act) p) (gw_le (gw_y act) p) (gw_gr (gw_y act) p) := by
  intro d
  induction d with
  | zero =>
    intro p hp
    rw [wY_draw_37]
    dsimp only
    have q : p = e := by omega
    subst q
    by_cases z : s ≤ p
    · exact br_t (nI_le z (by omega)) h
    · refine br_f (nI_ge (by omega) (by omega)) (br_t ?_ h)
      have k := hy p (by omega)
      by_cases r : y ≤ nI p
      · exact r
      · have := k.mp r
        omega
  | succ d ih =>
    intro p hp
    rw [wY_draw_37]
    dsimp only
    have k := hw p (by omega)
    have hc := k.1
    have K := ih (p + 1) (by omega)
    rw [gw_le_s, gw_le_s, gw_gr_s, gw_gr_s, gw_mn_c, gw_mx_c, gw_mn_c (gw_le (gw_y act) p), gw_mx_c (gw_gr (gw_y act) p)] at K
    have ex : gw_x act (p + 1) = gw_x act p + gw_tx (act p) (gw_d act p) := rfl
    have ey : gw_y act (p + 1) = gw_y act p + gw_ty (act p) (gw_d act p) := rfl
    have ed : gw_d act (p + 1) = gw_td (act p) (gw_d act p) := rfl
    rw [ex, ey, ed] at K
    rw [nI_clamp (by omega), k.2, nI_clamp (by omega), ← ha p]
    refine br_f (nI_ge (by omega) (by omega)) (br_f ((hy p (by omega)).mpr (by omega)) ⟨vp_in_nI (by omega) (by omega), vp_in_nI hc (by omega), nm_e ?_⟩)
    by_cases a1 : act p = 1
    · refine br_t a1 ?_
      by_cases d0 : gw_d act p = 0
      · have e1 : gw_tx (act p) (gw_d act p) = 1 := by unfold gw_tx; rw [if_pos a1, if_pos d0]
        rw [e1] at K
        exact br_t d0 (gy_105 a1 K)
      · refine br_f d0 ?_
        by_cases d2 : gw_d act p = 2
        · have e1 : gw_tx (act p) (gw_d act p) = -1 := by unfold gw_tx; rw [if_pos a1, if_neg d0, if_pos d2]
          rw [e1, ← Int32.sub_eq_add_neg] at K
          exact br_t d2 (gy_105 a1 K)
        · have e1 : gw_tx (act p) (gw_d act p) = 0 := by unfold gw_tx; rw [if_pos a1, if_neg d0, if_neg d2]
          rw [e1, Int32.add_zero] at K
          exact br_f d2 (gy_105 a1 K)
    · have e1 : gw_tx (act p) (gw_d act p) = 0 := by unfold gw_tx; rw [if_neg a1]
      have e2 : gw_ty (act p) (gw_d act p) = 0 := by unfold gw_ty; rw [if_neg a1]
      rw [e1, e2, Int32.add_zero, Int32.add_zero] at K
      exact br_f a1 (gy_150 K)
theorem gy_draw {post : SY → Prop} {fz os vx vy vw vl vr vo vh : Int32} {rs ru fi ac wd nx ot pt se : Nat → Int32} {s e : Nat} {y : Int32} {w : Nat → Nat} {act : Nat → Int32} (hs : s ≤ 3000) (he : e ≤ s) (hy : ∀ t, t < s → (¬ y ≤ nI t ↔ t < e)) (hw : ∀ j, j < s → w j < 6 ∧ wd j = nI (w j)) (ha : ∀ p, act p = ac (w p))
    (h : post (fz, nI s, os, gw_x act e, gw_y act e, gw_d act e, gw_le (gw_x act) e, gw_gr (gw_x act) e, gw_le (gw_y act) e, gw_gr (gw_y act) e, rs, ru, fi, ac, wd, nx, ot, pt, se)) : wpY_draw post (fz, nI s, os, vx, vy, vw, vl, vr, vo, vh, rs, ru, fi, ac, wd, nx, ot, pt, se) y := by
  unfold wpY_draw
  dsimp only
  exact ⟨e + 1, gy_dr hs he hy hw ha h e 0 (by omega)⟩
end
section
theorem gx_length_no {post : Int32 → Prop} {la lb ac g L : Nat → Int32} {x r : Int32} (h : gx_No L x r) (hp : post r) : wpX_length post (la, lb, ac, g, L, 39000) x := by
  unfold wpX_length
  dsimp only
  exact gx_ref h (br_f (gx_No_ne h) hp)
theorem gy_length_no {post : Int32 → SY → Prop} {fz sz os vx vy vw vl vr vo vh : Int32} {rs ru fi ac wd nx ot pt se : Nat → Int32} {R T F : Nat → Nat} {fs : Nat} {x r : Int32} (hP : gw_P R T F fs) (hY : gy_R R T F fs fz rs ru fi) (h : gy_No R T F fs x r) (H : ∀ sz wd nx, post r (fz, sz, os, vx, vy, vw, vl, vr, vo, vh, rs, ru, fi, ac, wd, nx, ot, pt, se)) : wpY_length post (fz, sz, os, vx, vy, vw, vl, vr, vo, vh, rs, ru, fi, ac, wd, nx, ot, pt, se) x := by
  unfold wpY_length
  dsimp only
  exact gy_wNo hP hY h (fun sz wd nx => br_f (gy_No_lt h) (H sz wd nx))
theorem gx_letterAt_no {post : Int32 → Prop} {la lb ac g L : Nat → Int32} {x r y1 : Int32} (h : gx_No L x r) (hp : post r) : wpX_letterAt post (la, lb, ac, g, L, 39000) x y1 := by
  unfold wpX_letterAt
  dsimp only
  exact gx_ref h (br_f (gx_No_ne h) hp)
theorem gy_letterAt_no {post : Int32 → SY → Prop} {fz sz os vx vy vw vl vr vo vh : Int32} {rs ru fi ac wd nx ot pt se : Nat → Int32} {R T F : Nat → Nat} {fs : Nat} {x r y1 : Int32} (hP : gw_P R T F fs) (hY : gy_R R T F fs fz rs ru fi) (h : gy_No R T F fs x r) (H : ∀ sz wd nx, post r (fz, sz, os, vx, vy, vw, vl, vr, vo, vh, rs, ru, fi, ac, wd, nx, ot, pt, se)) : wpY_letterAt post (fz, sz, os, vx, vy, vw, vl, vr, vo, vh, rs, ru, fi, ac, wd, nx, ot, pt, se) x y1 := by
  unfold wpY_letterAt
  dsimp only
  exact gy_wNo hP hY h (fun sz wd nx => br_f (gy_No_lt h) (H sz wd nx))
theorem gx_count_no {post : Int32 → Prop} {la lb ac g L : Nat → Int32} {x r y1 y2 y3 : Int32} (h : gx_No L x r) (hp : post r) : wpX_count post (la, lb, ac, g, L, 39000) x y1 y2 y3 := by
  unfold wpX_count
  dsimp only
  exact gx_ref h (br_f (gx_No_ne h) hp)
theorem gy_count_no {post : Int32 → SY → Prop} {fz sz os vx vy vw vl vr vo vh : Int32} {rs ru fi ac wd nx ot pt se : Nat → Int32} {R T F : Nat → Nat} {fs : Nat} {x r y1 y2 y3 : Int32} (hP : gw_P R T F fs) (hY : gy_R R T F fs fz rs ru fi) (h : gy_No R T F fs x r) (H : ∀ sz wd nx, post r (fz, sz, os, vx, vy, vw, vl, vr, vo, vh, rs, ru, fi, ac, wd, nx, ot, pt, se)) : wpY_count post (fz, sz, os, vx, vy, vw, vl, vr, vo, vh, rs, ru, fi, ac, wd, nx, ot, pt, se) x y1 y2 y3 := by
  unfold wpY_count
  dsimp only
  exact gy_wNo hP hY h (fun sz wd nx => br_f (gy_No_lt h) (H sz wd nx))
theorem gx_find_no {post : Int32 → Prop} {la lb ac g L : Nat → Int32} {x r y1 y2 : Int32} (h : gx_No L x r) (hp : post r) : wpX_find post (la, lb, ac, g, L, 39000) x y1 y2 := by
  unfold wpX_find
  dsimp only
  exact gx_ref h (br_f (gx_No_ne h) hp)
theorem gy_find_no {post : Int32 → SY → Prop} {fz sz os vx vy vw vl vr vo vh : Int32} {rs ru fi ac wd nx ot pt se : Nat → Int32} {R T F : Nat → Nat} {fs : Nat} {x r y1 y2 : Int32} (hP : gw_P R T F fs) (hY : gy_R R T F fs fz rs ru fi) (h : gy_No R T F fs x r) (H : ∀ sz wd nx, post r (fz, sz, os, vx, vy, vw, vl, vr, vo, vh, rs, ru, fi, ac, wd, nx, ot, pt, se)) : wpY_find post (fz, sz, os, vx, vy, vw, vl, vr, vo, vh, rs, ru, fi, ac, wd, nx, ot, pt, se) x y1 y2 := by
  unfold wpY_find
  dsimp only
  exact gy_wNo hP hY h (fun sz wd nx => br_f (gy_No_lt h) (H sz wd nx))
theorem gx_occurrences_no {post : Int32 → Prop} {la lb ac g L : Nat → Int32} {x r y1 : Int32} (h : gx_No L x r) (hp : post r) : wpX_occurrences post (la, lb, ac, g, L, 39000) x y1 := by
  unfold wpX_occurrences
  dsimp only
  exact gx_ref h (br_f (gx_No_ne h) hp)
theorem gy_occurrences_no {post : Int32 → SY → Prop} {fz sz os vx vy vw vl vr vo vh : Int32} {rs ru fi ac wd nx ot pt se : Nat → Int32} {R T F : Nat → Nat} {fs : Nat} {x r y1 : Int32} (hP : gw_P R T F fs) (hY : gy_R R T F fs fz rs ru fi) (h : gy_No R T F fs x r) (H : ∀ sz wd nx, post r (fz, sz, os, vx, vy, vw, vl, vr, vo, vh, rs, ru, fi, ac, wd, nx, ot, pt, se)) : wpY_occurrences post (fz, sz, os, vx, vy, vw, vl, vr, vo, vh, rs, ru, fi, ac, wd, nx, ot, pt, se) x y1 := by
  unfold wpY_occurrences
  dsimp only
  exact gy_wNo hP hY h (fun sz wd nx => br_f (gy_No_lt h) (H sz wd nx))
theorem gx_run_no {post : Int32 → Prop} {la lb ac g L : Nat → Int32} {x r : Int32} (h : gx_No L x r) (hp : post r) : wpX_run post (la, lb, ac, g, L, 39000) x := by
  unfold wpX_run
  dsimp only
  exact gx_ref h (br_f (gx_No_ne h) hp)
theorem gy_run_no {post : Int32 → SY → Prop} {fz sz os vx vy vw vl vr vo vh : Int32} {rs ru fi ac wd nx ot pt se : Nat → Int32} {R T F : Nat → Nat} {fs : Nat} {x r : Int32} (hP : gw_P R T F fs) (hY : gy_R R T F fs fz rs ru fi) (h : gy_No R T F fs x r) (H : ∀ sz wd nx, post r (fz, sz, os, vx, vy, vw, vl, vr, vo, vh, rs, ru, fi, ac, wd, nx, ot, pt, se)) : wpY_run post (fz, sz, os, vx, vy, vw, vl, vr, vo, vh, rs, ru, fi, ac, wd, nx, ot, pt, se) x := by
  unfold wpY_run
  dsimp only
  exact gy_wNo hP hY h (fun sz wd nx => br_f (gy_No_lt h) (H sz wd nx))
theorem gx_mirrored_no {post : Int32 → Prop} {la lb ac g L : Nat → Int32} {x r : Int32} (h : gx_No L x r) (hp : post r) : wpX_mirrored post (la, lb, ac, g, L, 39000) x := by
  unfold wpX_mirrored
  dsimp only
  exact gx_ref h (br_f (gx_No_ne h) hp)
theorem gy_mirrored_no {post : Int32 → SY → Prop} {fz sz os vx vy vw vl vr vo vh : Int32} {rs ru fi ac wd nx ot pt se : Nat → Int32} {R T F : Nat → Nat} {fs : Nat} {x r : Int32} (hP : gw_P R T F fs) (hY : gy_R R T F fs fz rs ru fi) (h : gy_No R T F fs x r) (H : ∀ sz wd nx, post r (fz, sz, os, vx, vy, vw, vl, vr, vo, vh, rs, ru, fi, ac, wd, nx, ot, pt, se)) : wpY_mirrored post (fz, sz, os, vx, vy, vw, vl, vr, vo, vh, rs, ru, fi, ac, wd, nx, ot, pt, se) x := by
  unfold wpY_mirrored
  dsimp only
  exact gy_wNo hP hY h (fun sz wd nx => br_f (gy_No_lt h) (H sz wd nx))
theorem gx_kinds_no {post : Int32 → Prop} {la lb ac g L : Nat → Int32} {x r y1 : Int32} (h : gx_No L x r) (hp : post r) : wpX_kinds post (la, lb, ac, g, L, 39000) x y1 := by
  unfold wpX_kinds
  dsimp only
  exact gx_ref h (br_f (gx_No_ne h) hp)
theorem gy_kinds_no {post : Int32 → SY → Prop} {fz sz os vx vy vw vl vr vo vh : Int32} {rs ru fi ac wd nx ot pt se : Nat → Int32} {R T F : Nat → Nat} {fs : Nat} {x r y1 : Int32} (hP : gw_P R T F fs) (hY : gy_R R T F fs fz rs ru fi) (h : gy_No R T F fs x r) (H : ∀ sz wd nx, post r (fz, sz, os, vx, vy, vw, vl, vr, vo, vh, rs, ru, fi, ac, wd, nx, ot, pt, se)) : wpY_kinds post (fz, sz, os, vx, vy, vw, vl, vr, vo, vh, rs, ru, fi, ac, wd, nx, ot, pt, se) x y1 := by
  unfold wpY_kinds
  dsimp only
  exact gy_wNo hP hY h (fun sz wd nx => br_f (gy_No_lt h) (H sz wd nx))
theorem gx_point_no {post : Int32 → Prop} {la lb ac g L : Nat → Int32} {x r y1 : Int32} (h : gx_No L x r) (hp : post r) : wpX_point post (la, lb, ac, g, L, 39000) x y1 := by
  unfold wpX_point
  dsimp only
  exact gx_ref h (br_f (gx_No_ne h) hp)
theorem gy_point_no {post : Int32 → SY → Prop} {fz sz os vx vy vw vl vr vo vh : Int32} {rs ru fi ac wd nx ot pt se : Nat → Int32} {R T F : Nat → Nat} {fs : Nat} {x r y1 : Int32} (hP : gw_P R T F fs) (hY : gy_R R T F fs fz rs ru fi) (h : gy_No R T F fs x r) (H : ∀ sz wd nx, post r (fz, sz, os, vx, vy, vw, vl, vr, vo, vh, rs, ru, fi, ac, wd, nx, ot, pt, se)) : wpY_point post (fz, sz, os, vx, vy, vw, vl, vr, vo, vh, rs, ru, fi, ac, wd, nx, ot, pt, se) x y1 := by
  unfold wpY_point
  dsimp only
  exact gy_wNo hP hY h (fun sz wd nx => br_f (gy_No_lt h) (H sz wd nx))
theorem gx_direction_no {post : Int32 → Prop} {la lb ac g L : Nat → Int32} {x r : Int32} (h : gx_No L x r) (hp : post r) : wpX_direction post (la, lb, ac, g, L, 39000) x := by
  unfold wpX_direction
  dsimp only
  exact gx_ref h (br_f (gx_No_ne h) hp)
theorem gy_direction_no {post : Int32 → SY → Prop} {fz sz os vx vy vw vl vr vo vh : Int32} {rs ru fi ac wd nx ot pt se : Nat → Int32} {R T F : Nat → Nat} {fs : Nat} {x r : Int32} (hP : gw_P R T F fs) (hY : gy_R R T F fs fz rs ru fi) (h : gy_No R T F fs x r) (H : ∀ sz wd nx, post r (fz, sz, os, vx, vy, vw, vl, vr, vo, vh, rs, ru, fi, ac, wd, nx, ot, pt, se)) : wpY_direction post (fz, sz, os, vx, vy, vw, vl, vr, vo, vh, rs, ru, fi, ac, wd, nx, ot, pt, se) x := by
  unfold wpY_direction
  dsimp only
  exact gy_wNo hP hY h (fun sz wd nx => br_f (gy_No_lt h) (H sz wd nx))
theorem gx_extent_no {post : Int32 → Prop} {la lb ac g L : Nat → Int32} {x r : Int32} (h : gx_No L x r) (hp : post r) : wpX_extent post (la, lb, ac, g, L, 39000) x := by
  unfold wpX_extent
  dsimp only
  exact gx_ref h (br_f (gx_No_ne h) hp)
theorem gy_extent_no {post : Int32 → SY → Prop} {fz sz os vx vy vw vl vr vo vh : Int32} {rs ru fi ac wd nx ot pt se : Nat → Int32} {R T F : Nat → Nat} {fs : Nat} {x r : Int32} (hP : gw_P R T F fs) (hY : gy_R R T F fs fz rs ru fi) (h : gy_No R T F fs x r) (H : ∀ sz wd nx, post r (fz, sz, os, vx, vy, vw, vl, vr, vo, vh, rs, ru, fi, ac, wd, nx, ot, pt, se)) : wpY_extent post (fz, sz, os, vx, vy, vw, vl, vr, vo, vh, rs, ru, fi, ac, wd, nx, ot, pt, se) x := by
  unfold wpY_extent
  dsimp only
  exact gy_wNo hP hY h (fun sz wd nx => br_f (gy_No_lt h) (H sz wd nx))
theorem gy_hw {R T F w : Nat → Nat} {fs n s : Nat} {wd : Nat → Int32} (hP : gw_P R T F fs) (e : gw_gen R T F fs n = some (s, w)) (h : ∀ j, j < s → wd j = nI (w j)) : ∀ j, j < s → w j < 6 ∧ wd j = nI (w j) := fun j hj => ⟨(gw_gen_ok hP n s w e).2 j hj, h j hj⟩
theorem gy_length {post : Int32 → SY → Prop} {fz sz os vx vy vw vl vr vo vh : Int32} {rs ru fi ac wd nx ot pt se : Nat → Int32} {R T F w : Nat → Nat} {fs n s : Nat} (hP : gw_P R T F fs) (hY : gy_R R T F fs fz rs ru fi) (hn : n < 13) (e : gw_gen R T F fs n = some (s, w)) (H : ∀ wd nx, post (nI s) (fz, nI s, os, vx, vy, vw, vl, vr, vo, vh, rs, ru, fi, ac, wd, nx, ot, pt, se)) : wpY_length post (fz, sz, os, vx, vy, vw, vl, vr, vo, vh, rs, ru, fi, ac, wd, nx, ot, pt, se) (nI n) := by
  unfold wpY_length
  dsimp only
  exact gy_wOk hP hY hn e (fun wd nx _ => br_t (by decide) (H wd nx))
theorem gy_letterAt {post : Int32 → SY → Prop} {fz sz os vx vy vw vl vr vo vh : Int32} {rs ru fi ac wd nx ot pt se : Nat → Int32} {R T F w : Nat → Nat} {fs n s : Nat} {p : Nat} (hP : gw_P R T F fs) (hY : gy_R R T F fs fz rs ru fi) (hn : n < 13) (e : gw_gen R T F fs n = some (s, w)) (hp : p < s) (H : ∀ wd nx, post (nI (w p)) (fz, nI s, os, vx, vy, vw, vl, vr, vo, vh, rs, ru, fi, ac, wd, nx, ot, pt, se)) : wpY_letterAt post (fz, sz, os, vx, vy, vw, vl, vr, vo, vh, rs, ru, fi, ac, wd, nx, ot, pt, se) (nI n) (nI p) := by
  unfold wpY_letterAt
  dsimp only
  have hs := (gw_gen_ok hP n s w e).1
  refine gy_wOk hP hY hn e (fun wd nx h => br_t (by decide) (br_f (nI_pos (by omega)) (br_f (nI_ge hp (by omega)) ⟨vp_in_nI (by omega) (by omega), ?_⟩)))
  dsimp only
  rw [nI_clamp (by omega), h p hp]
  exact H wd nx
theorem gy_letterAtN {post : Int32 → SY → Prop} {fz sz os vx vy vw vl vr vo vh : Int32} {rs ru fi ac wd nx ot pt se : Nat → Int32} {R T F w : Nat → Nat} {fs n s : Nat} {x : Int32} (hP : gw_P R T F fs) (hY : gy_R R T F fs fz rs ru fi) (hn : n < 13) (e : gw_gen R T F fs n = some (s, w)) (hx : x < 0 ∨ nI s ≤ x) (H : ∀ wd nx, post (-3) (fz, nI s, os, vx, vy, vw, vl, vr, vo, vh, rs, ru, fi, ac, wd, nx, ot, pt, se)) : wpY_letterAt post (fz, sz, os, vx, vy, vw, vl, vr, vo, vh, rs, ru, fi, ac, wd, nx, ot, pt, se) (nI n) x := by
  unfold wpY_letterAt
  dsimp only
  refine gy_wOk hP hY hn e (fun wd nx h => br_t (by decide) ?_)
  by_cases z : x < 0
  · exact br_t z (H wd nx)
  · exact br_f z (br_t (hx.resolve_left z) (H wd nx))
theorem gy_count {post : Int32 → SY → Prop} {fz sz os vx vy vw vl vr vo vh : Int32} {rs ru fi ac wd nx ot pt se : Nat → Int32} {R T F w : Nat → Nat} {fs n s : Nat} {c : Nat} {x y : Int32} (hP : gw_P R T F fs) (hY : gy_R R T F fs fz rs ru fi) (hn : n < 13) (e : gw_gen R T F fs n = some (s, w)) (hc : c < 6) (H : ∀ wd nx, post (nI (gw_cnt (fun q => decide (¬ nI q < x) && decide (¬ y ≤ nI q) && decide (w q = c)) s 0)) (fz, nI s, os, vx, vy, vw, vl, vr, vo, vh, rs, ru, fi, ac, wd, nx, ot, pt, se)) : wpY_count post (fz, sz, os, vx, vy, vw, vl, vr, vo, vh, rs, ru, fi, ac, wd, nx, ot, pt, se) (nI n) (nI c) x y := by
  unfold wpY_count
  dsimp only
  have hs := (gw_gen_ok hP n s w e).1
  refine gy_wOk hP hY hn e (fun wd nx h => br_t (by decide) (gy_isL hc (br_f (by decide) ⟨s + 1, ?_⟩)))
  refine gy_ct hs hc (gy_hw hP e h) s 0 0 (by omega) ?_
  rw [Nat.zero_add]
  exact H wd nx
theorem gy_countN {post : Int32 → SY → Prop} {fz sz os vx vy vw vl vr vo vh : Int32} {rs ru fi ac wd nx ot pt se : Nat → Int32} {R T F w : Nat → Nat} {fs n s : Nat} {c x y : Int32} (hP : gw_P R T F fs) (hY : gy_R R T F fs fz rs ru fi) (hn : n < 13) (e : gw_gen R T F fs n = some (s, w)) (hc : c < 0 ∨ nI 6 ≤ c) (H : ∀ wd nx, post (-3) (fz, nI s, os, vx, vy, vw, vl, vr, vo, vh, rs, ru, fi, ac, wd, nx, ot, pt, se)) : wpY_count post (fz, sz, os, vx, vy, vw, vl, vr, vo, vh, rs, ru, fi, ac, wd, nx, ot, pt, se) (nI n) c x y := by
  unfold wpY_count
  dsimp only
  exact gy_wOk hP hY hn e (fun wd nx h => br_t (by decide) (gy_isN hc (br_t rfl (H wd nx))))
theorem gy_find {post : Int32 → SY → Prop} {fz sz os vx vy vw vl vr vo vh : Int32} {rs ru fi ac wd nx ot pt se : Nat → Int32} {R T F w : Nat → Nat} {fs n s : Nat} {x m : Nat} {v y : Int32} (hP : gw_P R T F fs) (hY : gy_R R T F fs fz rs ru fi) (hn : n < 13) (e : gw_gen R T F fs n = some (s, w)) (G : gw_Good 4 v x m) (h1 : 1 ≤ m) (H : ∀ wd nx pt, post (gx_f (gw_fst (fun q => decide (¬ nI q < y) && decide (q + m ≤ s ∧ gw_hor w m q = x)) s 0)) (fz, nI s, os, vx, vy, vw, vl, vr, vo, vh, rs, ru, fi, ac, wd, nx, ot, pt, se)) : wpY_find post (fz, sz, os, vx, vy, vw, vl, vr, vo, vh, rs, ru, fi, ac, wd, nx, ot, pt, se) (nI n) v y := by
  unfold wpY_find
  dsimp only
  have hs := (gw_gen_ok hP n s w e).1
  have hm := gw_Good_le G
  refine gy_wOk hP hY hn e (fun wd nx h => br_t (by decide) (gy_rd_good G (by decide) (fun pt hp => br_t (nI_le (a := 1) h1 (by omega)) ⟨s + 1, ?_⟩)))
  exact gy_fi G hs (gy_hw hP e h) hp s 0 (by omega) (H wd nx pt)
theorem gy_findN {post : Int32 → SY → Prop} {fz sz os vx vy vw vl vr vo vh : Int32} {rs ru fi ac wd nx ot pt se : Nat → Int32} {R T F w : Nat → Nat} {fs n s : Nat} {v y : Int32} (hP : gw_P R T F fs) (hY : gy_R R T F fs fz rs ru fi) (hn : n < 13) (e : gw_gen R T F fs n = some (s, w)) (G : gw_Bad 4 v ∨ ∃ x, gw_Good 4 v x 0) (H : ∀ wd nx pt, post (-3) (fz, nI s, os, vx, vy, vw, vl, vr, vo, vh, rs, ru, fi, ac, wd, nx, ot, pt, se)) : wpY_find post (fz, sz, os, vx, vy, vw, vl, vr, vo, vh, rs, ru, fi, ac, wd, nx, ot, pt, se) (nI n) v y := by
  unfold wpY_find
  dsimp only
  refine gy_wOk hP hY hn e (fun wd nx h => br_t (by decide) ?_)
  rcases G with G | ⟨x, G⟩
  · exact gy_rd_bad G (by decide) (fun pt => br_f (by decide) (H wd nx pt))
  · exact gy_rd_good G (by decide) (fun pt _ => br_f (gw_no1 (by decide)) (H wd nx pt))
theorem gy_occ {post : Int32 → SY → Prop} {fz sz os vx vy vw vl vr vo vh : Int32} {rs ru fi ac wd nx ot pt se : Nat → Int32} {R T F w : Nat → Nat} {fs n s : Nat} {x m : Nat} {v : Int32} (hP : gw_P R T F fs) (hY : gy_R R T F fs fz rs ru fi) (hn : n < 13) (e : gw_gen R T F fs n = some (s, w)) (G : gw_Good 4 v x m) (h1 : 1 ≤ m) (H : ∀ wd nx pt, post (nI (gw_cnt (fun q => decide (q + m ≤ s ∧ gw_hor w m q = x)) s 0)) (fz, nI s, os, vx, vy, vw, vl, vr, vo, vh, rs, ru, fi, ac, wd, nx, ot, pt, se)) : wpY_occurrences post (fz, sz, os, vx, vy, vw, vl, vr, vo, vh, rs, ru, fi, ac, wd, nx, ot, pt, se) (nI n) v := by
  unfold wpY_occurrences
  dsimp only
  have hs := (gw_gen_ok hP n s w e).1
  have hm := gw_Good_le G
  refine gy_wOk hP hY hn e (fun wd nx h => br_t (by decide) (gy_rd_good G (by decide) (fun pt hp => br_t (nI_le (a := 1) h1 (by omega)) ⟨s + 1, ?_⟩)))
  refine gy_oc G hs (gy_hw hP e h) hp s 0 0 (by omega) ?_
  rw [Nat.zero_add]
  exact H wd nx pt
theorem gy_occN {post : Int32 → SY → Prop} {fz sz os vx vy vw vl vr vo vh : Int32} {rs ru fi ac wd nx ot pt se : Nat → Int32} {R T F w : Nat → Nat} {fs n s : Nat} {v : Int32} (hP : gw_P R T F fs) (hY : gy_R R T F fs fz rs ru fi) (hn : n < 13) (e : gw_gen R T F fs n = some (s, w)) (G : gw_Bad 4 v ∨ ∃ x, gw_Good 4 v x 0) (H : ∀ wd nx pt, post (-3) (fz, nI s, os, vx, vy, vw, vl, vr, vo, vh, rs, ru, fi, ac, wd, nx, ot, pt, se)) : wpY_occurrences post (fz, sz, os, vx, vy, vw, vl, vr, vo, vh, rs, ru, fi, ac, wd, nx, ot, pt, se) (nI n) v := by
  unfold wpY_occurrences
  dsimp only
  refine gy_wOk hP hY hn e (fun wd nx h => br_t (by decide) ?_)
  rcases G with G | ⟨x, G⟩
  · exact gy_rd_bad G (by decide) (fun pt => br_f (by decide) (H wd nx pt))
  · exact gy_rd_good G (by decide) (fun pt _ => br_f (gw_no1 (by decide)) (H wd nx pt))
theorem gy_run {post : Int32 → SY → Prop} {fz sz os vx vy vw vl vr vo vh : Int32} {rs ru fi ac wd nx ot pt se : Nat → Int32} {R T F w : Nat → Nat} {fs n s : Nat} (hP : gw_P R T F fs) (hY : gy_R R T F fs fz rs ru fi) (hn : n < 13) (e : gw_gen R T F fs n = some (s, w)) (H : ∀ wd nx, post (gw_gr (gw_rh w) s) (fz, nI s, os, vx, vy, vw, vl, vr, vo, vh, rs, ru, fi, ac, wd, nx, ot, pt, se)) : wpY_run post (fz, sz, os, vx, vy, vw, vl, vr, vo, vh, rs, ru, fi, ac, wd, nx, ot, pt, se) (nI n) := by
  unfold wpY_run
  dsimp only
  have hs := (gw_gen_ok hP n s w e).1
  exact gy_wOk hP hY hn e (fun wd nx h => br_t (by decide) ⟨s + 1, gy_rn hs (gy_hw hP e h) (H wd nx) s 0 (by omega)⟩)
theorem gy_mirrored {post : Int32 → SY → Prop} {fz sz os vx vy vw vl vr vo vh : Int32} {rs ru fi ac wd nx ot pt se : Nat → Int32} {R T F w : Nat → Nat} {fs n s : Nat} (hP : gw_P R T F fs) (hY : gy_R R T F fs fz rs ru fi) (hn : n < 13) (e : gw_gen R T F fs n = some (s, w)) (H1 : (∀ p, p < s → w p = w (s - 1 - p)) → ∀ wd nx, post 1 (fz, nI s, os, vx, vy, vw, vl, vr, vo, vh, rs, ru, fi, ac, wd, nx, ot, pt, se)) (H0 : (∃ p, p < s ∧ ¬ w p = w (s - 1 - p)) → ∀ wd nx, post 0 (fz, nI s, os, vx, vy, vw, vl, vr, vo, vh, rs, ru, fi, ac, wd, nx, ot, pt, se)) : wpY_mirrored post (fz, sz, os, vx, vy, vw, vl, vr, vo, vh, rs, ru, fi, ac, wd, nx, ot, pt, se) (nI n) := by
  unfold wpY_mirrored
  dsimp only
  have hs := (gw_gen_ok hP n s w e).1
  exact gy_wOk hP hY hn e (fun wd nx h => br_t (by decide) ⟨s + 1, gy_mi hs (gy_hw hP e h) (fun k => H1 k wd nx) (fun k => H0 k wd nx) s 0 1 (by omega) (Or.inl ⟨rfl, fun t ht => absurd ht (Nat.not_lt_zero t)⟩)⟩)
theorem gy_kinds {post : Int32 → SY → Prop} {fz sz os vx vy vw vl vr vo vh : Int32} {rs ru fi ac wd nx ot pt se : Nat → Int32} {R T F w : Nat → Nat} {fs n s : Nat} {k : Nat} (hP : gw_P R T F fs) (hY : gy_R R T F fs fz rs ru fi) (hn : n < 13) (e : gw_gen R T F fs n = some (s, w)) (h1 : 1 ≤ k) (hk : k ≤ 3) (H : ∀ wd nx se, post (nI (gw_cnt (gw_S (fun t => gw_cd w t k) (s + 1 - k)) 216 0)) (fz, nI s, os, vx, vy, vw, vl, vr, vo, vh, rs, ru, fi, ac, wd, nx, ot, pt, se)) : wpY_kinds post (fz, sz, os, vx, vy, vw, vl, vr, vo, vh, rs, ru, fi, ac, wd, nx, ot, pt, se) (nI n) (nI k) := by
  unfold wpY_kinds
  dsimp only
  have hs := (gw_gen_ok hP n s w e).1
  exact gy_wOk hP hY hn e (fun wd nx h => br_t (by decide) (br_f (nI_nlt (b := 1) h1 (by omega)) (br_t (nI_le (b := 3) hk (by decide)) ⟨217, gy_k28 hs h1 hk (gy_hw hP e h) (H wd nx) 216 0 se (by omega) (fun c hc => absurd hc (Nat.not_lt_zero c))⟩)))
theorem gy_kindsN {post : Int32 → SY → Prop} {fz sz os vx vy vw vl vr vo vh : Int32} {rs ru fi ac wd nx ot pt se : Nat → Int32} {R T F w : Nat → Nat} {fs n s : Nat} {x : Int32} (hP : gw_P R T F fs) (hY : gy_R R T F fs fz rs ru fi) (hn : n < 13) (e : gw_gen R T F fs n = some (s, w)) (hx : x < 1 ∨ ¬ x ≤ 3) (H : ∀ wd nx, post (-3) (fz, nI s, os, vx, vy, vw, vl, vr, vo, vh, rs, ru, fi, ac, wd, nx, ot, pt, se)) : wpY_kinds post (fz, sz, os, vx, vy, vw, vl, vr, vo, vh, rs, ru, fi, ac, wd, nx, ot, pt, se) (nI n) x := by
  unfold wpY_kinds
  dsimp only
  refine gy_wOk hP hY hn e (fun wd nx h => br_t (by decide) ?_)
  by_cases z : x < 1
  · exact br_t z (H wd nx)
  · exact br_f z (br_f (hx.resolve_left z) (H wd nx))
theorem gy_point {post : Int32 → SY → Prop} {fz sz os vx vy vw vl vr vo vh : Int32} {rs ru fi ac wd nx ot pt se : Nat → Int32} {R T F w : Nat → Nat} {fs n s : Nat} {c : Nat} {y : Int32} {act : Nat → Int32} (hP : gw_P R T F fs) (hY : gy_R R T F fs fz rs ru fi) (hn : n < 13) (e : gw_gen R T F fs n = some (s, w)) (hc : c ≤ s) (hy : ∀ t, t < s → (¬ y ≤ nI t ↔ t < c)) (ha : ∀ p, act p = ac (w p)) (H : ∀ vx vy vw vl vr vo vh wd nx, post (8192 * (gw_x act c + 4096) + gw_y act c + 4096) (fz, nI s, os, vx, vy, vw, vl, vr, vo, vh, rs, ru, fi, ac, wd, nx, ot, pt, se)) : wpY_point post (fz, sz, os, vx, vy, vw, vl, vr, vo, vh, rs, ru, fi, ac, wd, nx, ot, pt, se) (nI n) y := by
  unfold wpY_point
  dsimp only
  have hs := (gw_gen_ok hP n s w e).1
  exact gy_wOk hP hY hn e (fun wd nx h => br_t (by decide) (gy_draw hs hc hy (gy_hw hP e h) ha (H _ _ _ _ _ _ _ wd nx)))
theorem gy_all {s : Nat} (hs : s ≤ 3000) : ∀ t, t < s → (¬ nI s ≤ nI t ↔ t < s) := fun t ht => ⟨fun _ => ht, fun _ => nI_ge ht (by omega)⟩
theorem gy_direction {post : Int32 → SY → Prop} {fz sz os vx vy vw vl vr vo vh : Int32} {rs ru fi ac wd nx ot pt se : Nat → Int32} {R T F w : Nat → Nat} {fs n s : Nat} {act : Nat → Int32} (hP : gw_P R T F fs) (hY : gy_R R T F fs fz rs ru fi) (hn : n < 13) (e : gw_gen R T F fs n = some (s, w)) (ha : ∀ p, act p = ac (w p)) (H : ∀ vx vy vw vl vr vo vh wd nx, post (gw_d act s) (fz, nI s, os, vx, vy, vw, vl, vr, vo, vh, rs, ru, fi, ac, wd, nx, ot, pt, se)) : wpY_direction post (fz, sz, os, vx, vy, vw, vl, vr, vo, vh, rs, ru, fi, ac, wd, nx, ot, pt, se) (nI n) := by
  unfold wpY_direction
  dsimp only
  have hs := (gw_gen_ok hP n s w e).1
  exact gy_wOk hP hY hn e (fun wd nx h => br_t (by decide) (gy_draw hs (Nat.le_refl _) (gy_all hs) (gy_hw hP e h) ha (H _ _ _ _ _ _ _ wd nx)))
theorem gy_extent {post : Int32 → SY → Prop} {fz sz os vx vy vw vl vr vo vh : Int32} {rs ru fi ac wd nx ot pt se : Nat → Int32} {R T F w : Nat → Nat} {fs n s : Nat} {act : Nat → Int32} (hP : gw_P R T F fs) (hY : gy_R R T F fs fz rs ru fi) (hn : n < 13) (e : gw_gen R T F fs n = some (s, w)) (ha : ∀ p, act p = ac (w p)) (H : ∀ vx vy vw vl vr vo vh wd nx, post (4096 * (gw_gr (gw_x act) s - gw_le (gw_x act) s) + (gw_gr (gw_y act) s - gw_le (gw_y act) s)) (fz, nI s, os, vx, vy, vw, vl, vr, vo, vh, rs, ru, fi, ac, wd, nx, ot, pt, se)) : wpY_extent post (fz, sz, os, vx, vy, vw, vl, vr, vo, vh, rs, ru, fi, ac, wd, nx, ot, pt, se) (nI n) := by
  unfold wpY_extent
  dsimp only
  have hs := (gw_gen_ok hP n s w e).1
  exact gy_wOk hP hY hn e (fun wd nx h => br_t (by decide) (gy_draw hs (Nat.le_refl _) (gy_all hs) (gy_hw hP e h) ha (H _ _ _ _ _ _ _ wd nx)))
theorem gy_common1 {post : Int32 → SY → Prop} {fz sz os vx vy vw vl vr vo vh : Int32} {rs ru fi ac wd nx ot pt se : Nat → Int32} {x y : Int32} (hx : (x < 0 ∨ nI 13 ≤ x) ∨ (y < 0 ∨ nI 13 ≤ y)) (h : post (-1) (fz, sz, os, vx, vy, vw, vl, vr, vo, vh, rs, ru, fi, ac, wd, nx, ot, pt, se)) : wpY_common post (fz, sz, os, vx, vy, vw, vl, vr, vo, vh, rs, ru, fi, ac, wd, nx, ot, pt, se) x y := by
  unfold wpY_common
  dsimp only
  have N : ∀ z : Int32, nI 13 ≤ z → ¬ z ≤ 12 := fun z a b => absurd (Int32.le_trans a b) (by decide)
  refine br_c (fun _ => h) (fun a => br_c (fun _ => h) (fun b => br_c (fun _ => h) (fun c => br_f ?_ h)))
  rcases hx with (k | k) | (k | k)
  · exact absurd k a
  · exact absurd (Int32.not_le.mp (N x k)) b
  · exact absurd k c
  · exact N y k
theorem gy_common {post : Int32 → SY → Prop} {fz sz os vx vy vw vl vr vo vh : Int32} {rs ru fi ac wd nx ot pt se : Nat → Int32} {R T F w : Nat → Nat} {fs n s : Nat} {m s' : Nat} {w' : Nat → Nat} (hP : gw_P R T F fs) (hY : gy_R R T F fs fz rs ru fi) (hn : n < 13) (e : gw_gen R T F fs n = some (s, w)) (hm : m < 13) (e' : gw_gen R T F fs m = some (s', w')) (H : ∀ sz os wd nx ot, post (nI (gw_pre w w' (gw_min s s') 0)) (fz, sz, os, vx, vy, vw, vl, vr, vo, vh, rs, ru, fi, ac, wd, nx, ot, pt, se)) : wpY_common post (fz, sz, os, vx, vy, vw, vl, vr, vo, vh, rs, ru, fi, ac, wd, nx, ot, pt, se) (nI n) (nI m) := by
  unfold wpY_common
  dsimp only
  have hs := (gw_gen_ok hP n s w e).1
  have hs' := (gw_gen_ok hP m s' w' e').1
  refine br_f (nI_pos (by omega)) (br_f (nI_nlt (a := 12) (by omega) (by omega)) (br_f (nI_pos (by omega)) (br_t (nI_le (b := 12) (by omega) (by decide)) ?_)))
  refine gy_wOk hP hY hn e (fun wd nx h => br_t (by decide) ?_)
  have K := gy_c45 (post := post) (fz := fz) (os := nI s) (vx := vx) (vy := vy) (vw := vw) (vl := vl) (vr := vr) (vo := vo) (vh := vh) (rs := rs) (ru := ru) (fi := fi) (ac := ac) (nx := nx) (pt := pt) (se := se) (x := nI m) hs (gy_hw hP e h) (fun ot ho => ⟨0, by
    rw [wY_common_45]
    dsimp only
    refine br_t (nI_le (Nat.le_refl _) (by omega)) ?_
    refine gy_wOk hP hY hm e' (fun wd' nx' h' => br_t (by decide) ⟨gw_min s s' + 1, ?_⟩)
    exact gy_c89 hs hs' ho (gy_hw hP e' h') rfl (gw_min s s') 0 (by omega) (H _ _ _ _ _)⟩) s 0 ot (by omega) (fun j hj => absurd hj (Nat.not_lt_zero j))
  obtain ⟨c, hc⟩ := K
  exact ⟨c + 1, hc⟩
theorem gy_common2 {post : Int32 → SY → Prop} {fz sz os vx vy vw vl vr vo vh : Int32} {rs ru fi ac wd nx ot pt se : Nat → Int32} {R T F : Nat → Nat} {fs n m : Nat} (hP : gw_P R T F fs) (hY : gy_R R T F fs fz rs ru fi) (hn : n < 13) (hm : m < 13) (hg : gw_gen R T F fs n = none ∨ gw_gen R T F fs m = none) (H : ∀ sz os wd nx ot, post (-2) (fz, sz, os, vx, vy, vw, vl, vr, vo, vh, rs, ru, fi, ac, wd, nx, ot, pt, se)) : wpY_common post (fz, sz, os, vx, vy, vw, vl, vr, vo, vh, rs, ru, fi, ac, wd, nx, ot, pt, se) (nI n) (nI m) := by
  unfold wpY_common
  dsimp only
  refine br_f (nI_pos (by omega)) (br_f (nI_nlt (a := 12) (by omega) (by omega)) (br_f (nI_pos (by omega)) (br_t (nI_le (b := 12) (by omega) (by decide)) ?_)))
  cases e : gw_gen R T F fs n with
  | none => exact gy_wNo (r := -2) hP hY (Or.inr ⟨n, hn, rfl, e, rfl⟩) (fun sz wd nx => br_f (by decide) (H _ _ _ _ _))
  | some q =>
    obtain ⟨s, w⟩ := q
    have hg' : gw_gen R T F fs m = none := hg.resolve_left (fun k => by rw [e] at k; cases k)
    have hs := (gw_gen_ok hP n s w e).1
    refine gy_wOk hP hY hn e (fun wd nx h => br_t (by decide) ?_)
    have K := gy_c45 (post := post) (fz := fz) (os := nI s) (vx := vx) (vy := vy) (vw := vw) (vl := vl) (vr := vr) (vo := vo) (vh := vh) (rs := rs) (ru := ru) (fi := fi) (ac := ac) (nx := nx) (pt := pt) (se := se) (x := nI m) hs (gy_hw hP e h) (fun ot ho => ⟨0, by
      rw [wY_common_45]
      dsimp only
      refine br_t (nI_le (Nat.le_refl _) (by omega)) ?_
      exact gy_wNo (r := -2) hP hY (Or.inr ⟨m, hm, rfl, hg', rfl⟩) (fun sz wd nx => br_f (by decide) (H _ _ _ _ _))⟩) s 0 ot (by omega) (fun j hj => absurd hj (Nat.not_lt_zero j))
    obtain ⟨c, hc⟩ := K
    exact ⟨c + 1, hc⟩
end
section
def gw_I (i : Nat) (la lb : Nat → Int32) : Prop := (∀ c, c < 6 → lb c = if c < i then 1 else 0) ∧ (∀ j, j < 24 → la j = if j % 4 = 0 ∧ j / 4 < i then nI (j / 4) else 0)
def gw_T0 (j : Nat) : Nat := if j % 4 = 0 then j / 4 else 0
theorem gw_I0 : gw_I 0 (fun _ => 0) (fun _ => 0) := ⟨fun c _ => (if_neg (by omega)).symm, fun j _ => (if_neg (by omega)).symm⟩
theorem gw_I_s {i : Nat} {la lb : Nat → Int32} (h : gw_I i la lb) : gw_I (i + 1) (upd la (4 * i) (nI i)) (upd lb i 1) := by
  refine ⟨fun c hc => ?_, fun j hj => ?_⟩
  · by_cases z : c = i
    · rw [z, pk_us, if_pos (by omega)]
    · rw [pk_un z, h.1 c hc]
      by_cases y : c < i
      · rw [if_pos y, if_pos (by omega)]
      · rw [if_neg y, if_neg (by omega)]
  · by_cases z : j = 4 * i
    · rw [z, pk_us, if_pos (by omega), Nat.mul_div_cancel_left i (by decide)]
    · rw [pk_un z, h.2 j hj]
      by_cases y : j % 4 = 0 ∧ j / 4 < i
      · rw [if_pos y, if_pos (by omega)]
      · rw [if_neg y, if_neg (by omega)]
theorem gw_I6 {la lb : Nat → Int32} (h : gw_I 6 la lb) : gx_r (fun _ => 1) gw_T0 la lb := by
  refine ⟨fun c hc => ?_, fun j hj => ?_⟩
  · rw [h.1 c hc, if_pos hc]
    rfl
  · rw [h.2 j hj]
    unfold gw_T0
    by_cases z : j % 4 = 0
    · rw [if_pos z, if_pos (by omega)]
    · rw [if_neg z, if_neg (fun k => z k.1)]
      rfl
theorem gw_P0 : gw_P (fun _ => 1) gw_T0 (fun _ => 0) 1 := by
  refine ⟨fun c _ => (by decide : 1 ≤ 4), fun j hj => ?_, fun j _ => (by decide : 0 < 6), by decide, by decide⟩
  unfold gw_T0
  split <;> omega
theorem gx_i46 {post : SX → Prop} {ac g L : Nat → Int32} (hL : L = fun _ => 0) (hg : g = fun _ => 0)
    (H : ∀ la lb g L, gx_r (fun _ => 1) gw_T0 la lb → (∀ n, n < 13 → gx_g (fun _ => 1) gw_T0 (fun _ => 0) 1 n (L n) g) → post (la, lb, ac, g, L, 39000)) : ∀ d i la lb, i + d = 6 → gw_I i la lb → wX_init_46 post 39000 (d + 1) (nI i) la lb ac g L := by
  intro d
  induction d with
  | zero =>
    intro i la lb hi h
    rw [wX_init_46]
    dsimp only
    have e : i = 6 := by omega
    subst e
    refine br_t (nI_le (a := 6) (by omega) (by omega)) (nm_e ?_)
    have r := gw_I6 h
    refine gx_growAll gw_P0 r (pk_us) (fun j hj => ?_) (fun g' L' k => H la lb g' L' r k)
    rw [hg]
    rfl
  | succ d ih =>
    intro i la lb hi h
    rw [wX_init_46]
    dsimp only
    have e4 : nI i * 4 = nI (4 * i) := by
      rw [show (4 : Int32) = nI 4 from by decide, pk_mul, Nat.mul_comm]
    rw [e4, nI_clamp (by omega), nI_clamp (by omega), gw_i8 (by omega), gw_nar (by omega)]
    exact br_f (nI_ge (b := 6) (by omega) (by decide)) ⟨vp_in_nI (by omega) (by omega), nm_e ⟨vp_in_nI (by omega) (by omega), nm_e (nm_r (nI_1 _) (ih (i + 1) _ _ (by omega) (gw_I_s h)))⟩⟩
theorem gy_i82 {post : SY → Prop} {fz sz os vx vy vw vl vr vo vh : Int32} {fi ac wd nx ot pt se : Nat → Int32} (hfi : fi = fun _ => 0)
    (H : ∀ rs ru, gy_R (fun _ => 1) gw_T0 (fun _ => 0) 1 1 rs ru fi → post (1, sz, os, vx, vy, vw, vl, vr, vo, vh, rs, ru, fi, ac, wd, nx, ot, pt, se)) : ∀ d i ru rs, i + d = 6 → gw_I i ru rs → wY_init_82 post fz sz os vx vy vw vl vr vo vh (d + 1) (nI i) rs ru fi ac wd nx ot pt se := by
  intro d
  induction d with
  | zero =>
    intro i ru rs hi h
    rw [wY_init_82]
    dsimp only
    have e : i = 6 := by omega
    subst e
    refine br_t (nI_le (a := 6) (by omega) (by omega)) (H rs ru ⟨gw_I6 h, rfl, fun j _ => ?_⟩)
    rw [hfi]
    rfl
  | succ d ih =>
    intro i ru rs hi h
    rw [wY_init_82]
    dsimp only
    have e4 : 4 * nI i = nI (4 * i) := by
      rw [show (4 : Int32) = nI 4 from by decide, pk_mul]
    rw [e4, nI_clamp (by omega), nI_clamp (by omega)]
    exact br_f (nI_ge (b := 6) (by omega) (by decide)) ⟨vp_in_nI (by omega) (by omega), nm_e ⟨vp_in_nI (by omega) (by omega), nm_e (nm_r (nI_1 _) (ih (i + 1) _ _ (by omega) (gw_I_s h)))⟩⟩
theorem gy_ru {post : Int32 → SY → Prop} {fz sz os vx vy vw vl vr vo vh : Int32} {rs fi ac wd nx ot pt se ru0 : Nat → Int32} {x c l : Nat} (hc : c < 6) (hl : l ≤ 4) (hp : ∀ j, j < l → pt j = nI (gw_dg x j))
    (H : ∀ ru, (∀ j, ru j = gx_put ru0 (c * 4) l x j) → post (nI l) (fz, sz, os, vx, vy, vw, vl, vr, vo, vh, rs, ru, fi, ac, wd, nx, ot, pt, se)) : ∀ d i ru, i + d = l → (∀ j, ru j = gx_put ru0 (c * 4) i x j) → wY_rule_34 post (nI c) (nI l) fz sz os vx vy vw vl vr vo vh (d + 1) (nI i) rs ru fi ac wd nx ot pt se := by
  intro d
  induction d with
  | zero =>
    intro i ru hi h
    rw [wY_rule_34]
    dsimp only
    have e : i = l := by omega
    subst e
    exact br_t (nI_le (by omega) (by omega)) (H ru h)
  | succ d ih =>
    intro i ru hi h
    rw [wY_rule_34]
    dsimp only
    have e4 : 4 * nI c + nI i = nI (c * 4 + i) := by
      rw [show (4 : Int32) = nI 4 from by decide, pk_mul, nI_add, Nat.mul_comm]
    rw [e4, nI_clamp (by omega), nI_clamp (by omega), hp i (by omega)]
    refine br_f (nI_ge (by omega) (by omega)) ⟨vp_in_nI (by omega) (by omega), vp_in_nI (by omega) (by omega), nm_e (nm_r (nI_1 _) ?_)⟩
    exact ih (i + 1) _ (by omega) (fun j => gx_put_s (h j))
theorem gy_be {post : Int32 → SY → Prop} {fz sz os vx vy vw vl vr vo vh : Int32} {rs ru ac wd nx ot pt se : Nat → Int32} {x l : Nat} (hl : l ≤ 8) (hp : ∀ j, j < l → pt j = nI (gw_dg x j))
    (H : ∀ fi, (∀ j, j < l → fi j = nI (gw_dg x j)) → post (nI l) (fz, sz, os, vx, vy, vw, vl, vr, vo, vh, rs, ru, fi, ac, wd, nx, ot, pt, se)) : ∀ d i fi, i + d = l → (∀ j, j < i → fi j = nI (gw_dg x j)) → wY_begin_22 post (nI l) fz sz os vx vy vw vl vr vo vh (d + 1) (nI i) rs ru fi ac wd nx ot pt se := by
  intro d
  induction d with
  | zero =>
    intro i fi hi h
    rw [wY_begin_22]
    dsimp only
    have e : i = l := by omega
    subst e
    exact br_t (nI_le (by omega) (by omega)) (H fi h)
  | succ d ih =>
    intro i fi hi h
    rw [wY_begin_22]
    dsimp only
    rw [nI_clamp (by omega), hp i (by omega)]
    refine br_f (nI_ge (by omega) (by omega)) ⟨vp_in_nI (by omega) (by omega), vp_in_nI (by omega) (by omega), nm_e (nm_r (nI_1 _) ?_)⟩
    refine ih (i + 1) _ (by omega) (fun j hj => ?_)
    by_cases z : j = i
    · rw [z, pk_us]
    · rw [pk_un z]
      exact h j (by omega)
def gw_R1 (R : Nat → Nat) (c l : Nat) (d : Nat) : Nat := if d = c then l else R d
def gw_T1 (T : Nat → Nat) (b l x : Nat) (j : Nat) : Nat := if b ≤ j ∧ j < b + l then gw_dg x (j - b) else T j
theorem gw_P1 {R T F : Nat → Nat} {fs c l x : Nat} (h : gw_P R T F fs) (hl : l ≤ 4) : gw_P (gw_R1 R c l) (gw_T1 T (c * 4) l x) F fs := by
  refine ⟨fun d hd => ?_, fun j hj => ?_, h.2.2⟩
  · unfold gw_R1
    have := h.1 d hd
    split <;> omega
  · unfold gw_T1
    have := h.2.1 j hj
    have k := gw_dg_lt x (j - c * 4)
    split <;> omega
theorem gx_r1 {R T : Nat → Nat} {la lb la' : Nat → Int32} {c l x : Nat} (h : gx_r R T la lb) (k : ∀ j, la' j = gx_put la (c * 4) l x j) : gx_r (gw_R1 R c l) (gw_T1 T (c * 4) l x) la' (upd lb c (nI l)) := by
  refine ⟨fun d hd => ?_, fun j hj => ?_⟩
  · unfold gw_R1
    by_cases z : d = c
    · rw [z, pk_us, if_pos rfl]
    · rw [pk_un z, if_neg z, h.1 d hd]
  · rw [k j]
    unfold gx_put gw_T1
    by_cases z : c * 4 ≤ j ∧ j < c * 4 + l
    · rw [if_pos z, if_pos z]
    · rw [if_neg z, if_neg z, h.2 j hj]
def gx_R (R T F : Nat → Nat) (fs : Nat) (la lb g L : Nat → Int32) : Prop := gx_r R T la lb ∧ ∀ n, n < 13 → gx_g R T F fs n (L n) g
theorem gx_R0 {R T F : Nat → Nat} {fs : Nat} {la lb g L : Nat → Int32} (h : gx_R R T F fs la lb g L) : L 0 = nI fs ∧ ∀ j, j < fs → g j = nI (F j) := by
  have k := (h.2 0 (by decide)).2 fs F rfl
  refine ⟨k.1, fun j hj => ?_⟩
  have := k.2 j hj
  rw [Nat.zero_mul, Nat.zero_add] at this
  exact this
theorem gx_rule {post : Int32 → SX → Prop} {la lb ac g L : Nat → Int32} {R T F : Nat → Nat} {fs c x l : Nat} {y : Int32} (hP : gw_P R T F fs) (hX : gx_R R T F fs la lb g L) (hc : c < 6) (G : gw_Good 4 y x l)
    (H : ∀ la lb g L, gx_R (gw_R1 R c l) (gw_T1 T (c * 4) l x) F fs la lb g L → post (nI l) (la, lb, ac, g, L, 39000)) : wpX_rule post (la, lb, ac, g, L, 39000) (nI c) y := by
  unfold wpX_rule
  dsimp only
  have hl := gw_Good_le G
  refine gx_isL hc (br_f (by decide) (gx_wl_good G (by decide) (br_f (gw_m1 (by omega)) (gx_writeA G hc (fun la' k => ?_)))))
  dsimp only
  rw [nI_clamp (by omega)]
  refine ⟨vp_in_nI hc (by omega), nm_e ?_⟩
  have r1 := gx_r1 hX.1 k
  have h0 := gx_R0 hX
  exact gx_growAll (gw_P1 hP hl) r1 h0.1 h0.2 (fun g' L' q => H _ _ _ _ ⟨r1, q⟩)
theorem gx_rule1 {post : Int32 → SX → Prop} {la lb ac g L : Nat → Int32} {x y : Int32} (hx : x < 0 ∨ nI 6 ≤ x) (h : post (-1) (la, lb, ac, g, L, 39000)) : wpX_rule post (la, lb, ac, g, L, 39000) x y := by
  unfold wpX_rule
  dsimp only
  exact gx_isN hx (br_t rfl h)
theorem gx_rule2 {post : Int32 → SX → Prop} {la lb ac g L : Nat → Int32} {c : Nat} {y : Int32} (hc : c < 6) (G : gw_Bad 4 y) (h : post (-2) (la, lb, ac, g, L, 39000)) : wpX_rule post (la, lb, ac, g, L, 39000) (nI c) y := by
  unfold wpX_rule
  dsimp only
  exact gx_isL hc (br_f (by decide) (gx_wl_bad G (by decide) (by decide) (br_t rfl h)))
theorem gy_rule {post : Int32 → SY → Prop} {fz sz os vx vy vw vl vr vo vh : Int32} {rs ru fi ac wd nx ot pt se : Nat → Int32} {R T F : Nat → Nat} {fs c x l : Nat} {y : Int32} (hY : gy_R R T F fs fz rs ru fi) (hc : c < 6) (G : gw_Good 4 y x l)
    (H : ∀ rs ru pt, gy_R (gw_R1 R c l) (gw_T1 T (c * 4) l x) F fs fz rs ru fi → post (nI l) (fz, sz, os, vx, vy, vw, vl, vr, vo, vh, rs, ru, fi, ac, wd, nx, ot, pt, se)) : wpY_rule post (fz, sz, os, vx, vy, vw, vl, vr, vo, vh, rs, ru, fi, ac, wd, nx, ot, pt, se) (nI c) y := by
  unfold wpY_rule
  dsimp only
  have hl := gw_Good_le G
  refine gy_isL hc (br_f (by decide) (gy_rd_good G (by decide) (fun pt hp => ?_)))
  dsimp only
  rw [nI_clamp (by omega)]
  refine br_t (nI_pos' (by omega)) ⟨vp_in_nI hc (by omega), nm_e ⟨l + 1, ?_⟩⟩
  exact gy_ru hc hl hp (fun ru' k => H _ _ _ ⟨gx_r1 hY.1 k, hY.2⟩) l 0 ru (by omega) (fun j => (gx_put0 _ _ _ _).symm)
theorem gy_rule1 {post : Int32 → SY → Prop} {fz sz os vx vy vw vl vr vo vh : Int32} {rs ru fi ac wd nx ot pt se : Nat → Int32} {x y : Int32} (hx : x < 0 ∨ nI 6 ≤ x) (h : post (-1) (fz, sz, os, vx, vy, vw, vl, vr, vo, vh, rs, ru, fi, ac, wd, nx, ot, pt, se)) : wpY_rule post (fz, sz, os, vx, vy, vw, vl, vr, vo, vh, rs, ru, fi, ac, wd, nx, ot, pt, se) x y := by
  unfold wpY_rule
  dsimp only
  exact gy_isN hx (br_t rfl h)
theorem gy_rule2 {post : Int32 → SY → Prop} {fz sz os vx vy vw vl vr vo vh : Int32} {rs ru fi ac wd nx ot pt se : Nat → Int32} {c : Nat} {y : Int32} (hc : c < 6) (G : gw_Bad 4 y) (h : ∀ pt, post (-2) (fz, sz, os, vx, vy, vw, vl, vr, vo, vh, rs, ru, fi, ac, wd, nx, ot, pt, se)) : wpY_rule post (fz, sz, os, vx, vy, vw, vl, vr, vo, vh, rs, ru, fi, ac, wd, nx, ot, pt, se) (nI c) y := by
  unfold wpY_rule
  dsimp only
  exact gy_isL hc (br_f (by decide) (gy_rd_bad G (by decide) (fun pt => br_f (by decide) (h pt))))
theorem gw_P2 {R T F : Nat → Nat} {fs l x : Nat} (h : gw_P R T F fs) (h1 : 1 ≤ l) (hl : l ≤ 8) : gw_P R T (gw_dg x) l := ⟨h.1, h.2.1, fun j _ => gw_dg_lt x j, h1, hl⟩
theorem gx_begin {post : Int32 → SX → Prop} {la lb ac g L : Nat → Int32} {R T F : Nat → Nat} {fs x l : Nat} {y : Int32} (hP : gw_P R T F fs) (hX : gx_R R T F fs la lb g L) (G : gw_Good 8 y x l) (h1 : 1 ≤ l)
    (H : ∀ la lb g L, gx_R R T (gw_dg x) l la lb g L → post (nI l) (la, lb, ac, g, L, 39000)) : wpX_begin post (la, lb, ac, g, L, 39000) y := by
  unfold wpX_begin
  dsimp only
  have hl := gw_Good_le G
  refine gx_wl_good G (by decide) (br_t (nI_le (a := 1) h1 (by omega)) (gx_writeB G (fun g' k => nm_e ?_)))
  refine gx_growAll (gw_P2 hP h1 hl) hX.1 pk_us (fun j hj => ?_) (fun g' L' q => H _ _ _ _ ⟨hX.1, q⟩)
  dsimp only
  rw [k j]
  unfold gx_put
  rw [if_pos (by omega), Nat.sub_zero]
theorem gx_beginN {post : Int32 → SX → Prop} {la lb ac g L : Nat → Int32} {y : Int32} (G : gw_Bad 8 y ∨ ∃ x, gw_Good 8 y x 0) (h : post (-1) (la, lb, ac, g, L, 39000)) : wpX_begin post (la, lb, ac, g, L, 39000) y := by
  unfold wpX_begin
  dsimp only
  rcases G with G | ⟨x, G⟩
  · exact gx_wl_bad G (by decide) (by decide) (br_f (by decide) h)
  · exact gx_wl_good G (by decide) (br_f (gw_no1 (by decide)) h)
theorem gy_begin {post : Int32 → SY → Prop} {fz sz os vx vy vw vl vr vo vh : Int32} {rs ru fi ac wd nx ot pt se : Nat → Int32} {R T F : Nat → Nat} {fs x l : Nat} {y : Int32} (hY : gy_R R T F fs fz rs ru fi) (G : gw_Good 8 y x l) (h1 : 1 ≤ l)
    (H : ∀ fz fi pt, gy_R R T (gw_dg x) l fz rs ru fi → post (nI l) (fz, sz, os, vx, vy, vw, vl, vr, vo, vh, rs, ru, fi, ac, wd, nx, ot, pt, se)) : wpY_begin post (fz, sz, os, vx, vy, vw, vl, vr, vo, vh, rs, ru, fi, ac, wd, nx, ot, pt, se) y := by
  unfold wpY_begin
  dsimp only
  have hl := gw_Good_le G
  refine gy_rd_good G (by decide) (fun pt hp => br_t (nI_le (a := 1) h1 (by omega)) ⟨l + 1, ?_⟩)
  exact gy_be hl hp (fun fi' k => H _ _ _ ⟨hY.1, rfl, k⟩) l 0 fi (by omega) (fun j hj => absurd hj (Nat.not_lt_zero j))
theorem gy_beginN {post : Int32 → SY → Prop} {fz sz os vx vy vw vl vr vo vh : Int32} {rs ru fi ac wd nx ot pt se : Nat → Int32} {y : Int32} (G : gw_Bad 8 y ∨ ∃ x, gw_Good 8 y x 0) (h : ∀ pt, post (-1) (fz, sz, os, vx, vy, vw, vl, vr, vo, vh, rs, ru, fi, ac, wd, nx, ot, pt, se)) : wpY_begin post (fz, sz, os, vx, vy, vw, vl, vr, vo, vh, rs, ru, fi, ac, wd, nx, ot, pt, se) y := by
  unfold wpY_begin
  dsimp only
  rcases G with G | ⟨x, G⟩
  · exact gy_rd_bad G (by decide) (fun pt => br_f (by decide) (h pt))
  · exact gy_rd_good G (by decide) (fun pt _ => br_f (gw_no1 (by decide)) (h pt))
end
section
def i_Rel (k : Nat) (u : SX) (v : SY) : Prop :=
  ∃ (la lb ac g L : Nat → Int32) (fz sz os vx vy vw vl vr vo vh : Int32) (rs ru fi wd nx ot pt se : Nat → Int32) (R T F : Nat → Nat) (fs : Nat),
    u = (la, lb, ac, g, L, 39000) ∧ v = (fz, sz, os, vx, vy, vw, vl, vr, vo, vh, rs, ru, fi, ac, wd, nx, ot, pt, se) ∧ gw_P R T F fs ∧ gx_R R T F fs la lb g L ∧ gy_R R T F fs fz rs ru fi
theorem gw_rel {k : Nat} {la lb g L : Nat → Int32} {fz sz os vx vy vw vl vr vo vh : Int32} {rs ru fi ac wd nx ot pt se : Nat → Int32} {R T F : Nat → Nat} {fs : Nat} (hP : gw_P R T F fs) (hX : gx_R R T F fs la lb g L) (hY : gy_R R T F fs fz rs ru fi) : i_Rel k (la, lb, ac, g, L, 39000) (fz, sz, os, vx, vy, vw, vl, vr, vo, vh, rs, ru, fi, ac, wd, nx, ot, pt, se) :=
  ⟨la, lb, ac, g, L, fz, sz, os, vx, vy, vw, vl, vr, vo, vh, rs, ru, fi, wd, nx, ot, pt, se, R, T, F, fs, rfl, rfl, hP, hX, hY⟩
theorem gw_cases (R T F : Nat → Nat) (fs : Nat) (x : Int32) : (∃ r, gy_No R T F fs x r) ∨ ∃ n s w, n < 13 ∧ x = nI n ∧ gw_gen R T F fs n = some (s, w) := by
  rcases pk_ix x (n := 13) (by decide) with z | z | ⟨n, hn, z⟩
  · exact Or.inl ⟨_, Or.inl ⟨Or.inl z, rfl⟩⟩
  · exact Or.inl ⟨_, Or.inl ⟨Or.inr z, rfl⟩⟩
  · cases e : gw_gen R T F fs n with
    | none => exact Or.inl ⟨_, Or.inr ⟨n, hn, z, e, rfl⟩⟩
    | some q => exact Or.inr ⟨n, q.1, q.2, hn, z, e⟩
theorem gw_noX {R T F : Nat → Nat} {fs : Nat} {la lb g L : Nat → Int32} {x r : Int32} (hX : gx_R R T F fs la lb g L) (h : gy_No R T F fs x r) : gx_No L x r := by
  rcases h with h | ⟨n, hn, e, hg, er⟩
  · exact Or.inl h
  · exact Or.inr ⟨n, hn, e, (hX.2 n hn).1 hg, er⟩
theorem gw_words (most : Nat) (y : Int32) : (gw_Bad most y ∨ ∃ x, gw_Good most y x 0) ∨ ∃ x l, gw_Good most y x l ∧ 1 ≤ l := by
  rcases gw_word most y with h | ⟨x, l, h⟩
  · exact Or.inl (Or.inl h)
  · by_cases z : l = 0
    · subst z
      exact Or.inl (Or.inr ⟨x, h⟩)
    · exact Or.inr ⟨x, l, h, by omega⟩
theorem i_up {k : Nat} {u : SX} {v : SY} (h : i_Rel k u v) : i_Rel (k + 5) u v := h
theorem i_vc0 : wpX_init (fun u => wpY_init (fun v => i_Rel 0 u v)) := by
  unfold wpX_init
  refine ⟨by decide, nm_r (e' := 39000) (by decide) ⟨Nat.le_refl _, 7, ?_⟩⟩
  refine gx_i46 rfl rfl (fun la lb g L r q => ?_) 6 0 _ _ (by omega) gw_I0
  unfold wpY_init
  refine ⟨7, ?_⟩
  exact gy_i82 rfl (fun rs ru hY => gw_rel gw_P0 ⟨r, q⟩ hY) 6 0 _ _ (by omega) gw_I0
theorem i_vc_rule {k : Nat} {u : SX} {v : SY} (I : i_Rel k u v) (hk : k + 5 ≤ 2560) (v1 : Int32) (v2 : Int32) : wpX_rule (fun r u' => wpY_rule (fun r' v' => r' = r ∧ i_Rel (k + 5) u' v') v v1 v2) u v1 v2 := by
  obtain ⟨la, lb, ac, g, L, fz, sz, os, vx, vy, vw, vl, vr, vo, vh, rs, ru, fi, wd, nx, ot, pt, se, R, T, F, fs, rfl, rfl, hP, hX, hY⟩ := I
  rcases pk_ix v1 (n := 6) (by decide) with z | z | ⟨c, hc, z⟩
  · exact gx_rule1 (Or.inl z) (gy_rule1 (Or.inl z) ⟨rfl, gw_rel hP hX hY⟩)
  · exact gx_rule1 (Or.inr z) (gy_rule1 (Or.inr z) ⟨rfl, gw_rel hP hX hY⟩)
  · subst z
    rcases gw_word 4 v2 with G | ⟨x, l, G⟩
    · exact gx_rule2 hc G (gy_rule2 hc G (fun pt => ⟨rfl, gw_rel hP hX hY⟩))
    · exact gx_rule hP hX hc G (fun la lb g L hX' => gy_rule hY hc G (fun rs ru pt hY' => ⟨rfl, gw_rel (gw_P1 hP (gw_Good_le G)) hX' hY'⟩))
theorem i_vc_begin {k : Nat} {u : SX} {v : SY} (I : i_Rel k u v) (hk : k + 5 ≤ 2560) (v1 : Int32) : wpX_begin (fun r u' => wpY_begin (fun r' v' => r' = r ∧ i_Rel (k + 5) u' v') v v1) u v1 := by
  obtain ⟨la, lb, ac, g, L, fz, sz, os, vx, vy, vw, vl, vr, vo, vh, rs, ru, fi, wd, nx, ot, pt, se, R, T, F, fs, rfl, rfl, hP, hX, hY⟩ := I
  rcases gw_words 8 v1 with G | ⟨x, l, G, h1⟩
  · exact gx_beginN G (gy_beginN G (fun pt => ⟨rfl, gw_rel hP hX hY⟩))
  · exact gx_begin hP hX G h1 (fun la lb g L hX' => gy_begin hY G h1 (fun fz fi pt hY' => ⟨rfl, gw_rel (gw_P2 hP h1 (gw_Good_le G)) hX' hY'⟩))
theorem gx_action {post : Int32 → SX → Prop} {la lb ac g L : Nat → Int32} {c : Nat} {y : Int32} (hc : c < 6) (hy : ¬ y < 0) (h3 : y < 4) (h : post (ac c) (la, lb, upd ac c y, g, L, 39000)) : wpX_action post (la, lb, ac, g, L, 39000) (nI c) y := by
  unfold wpX_action
  dsimp only
  rw [nI_clamp (by omega)]
  exact gx_isL hc (br_f (by decide) (br_f hy (br_t h3 ⟨vp_in_nI hc (by omega), nm_e ⟨vp_in_nI hc (by omega), nm_e h⟩⟩)))
theorem gy_action {post : Int32 → SY → Prop} {fz sz os vx vy vw vl vr vo vh : Int32} {rs ru fi ac wd nx ot pt se : Nat → Int32} {c : Nat} {y : Int32} (hc : c < 6) (hy : ¬ y < 0) (h3 : y ≤ 3) (h : post (ac c) (fz, sz, os, vx, vy, vw, vl, vr, vo, vh, rs, ru, fi, upd ac c y, wd, nx, ot, pt, se)) : wpY_action post (fz, sz, os, vx, vy, vw, vl, vr, vo, vh, rs, ru, fi, ac, wd, nx, ot, pt, se) (nI c) y := by
  unfold wpY_action
  dsimp only
  rw [nI_clamp (by omega)]
  exact gy_isL hc (br_f (by decide) (br_f hy (br_t h3 ⟨vp_in_nI hc (by omega), nm_e ⟨vp_in_nI hc (by omega), nm_e h⟩⟩)))
theorem gx_action1 {post : Int32 → SX → Prop} {la lb ac g L : Nat → Int32} {x y : Int32} (hx : x < 0 ∨ nI 6 ≤ x) (h : post (-1) (la, lb, ac, g, L, 39000)) : wpX_action post (la, lb, ac, g, L, 39000) x y := by
  unfold wpX_action
  dsimp only
  exact gx_isN hx (br_t rfl h)
theorem gy_action1 {post : Int32 → SY → Prop} {fz sz os vx vy vw vl vr vo vh : Int32} {rs ru fi ac wd nx ot pt se : Nat → Int32} {x y : Int32} (hx : x < 0 ∨ nI 6 ≤ x) (h : post (-1) (fz, sz, os, vx, vy, vw, vl, vr, vo, vh, rs, ru, fi, ac, wd, nx, ot, pt, se)) : wpY_action post (fz, sz, os, vx, vy, vw, vl, vr, vo, vh, rs, ru, fi, ac, wd, nx, ot, pt, se) x y := by
  unfold wpY_action
  dsimp only
  exact gy_isN hx (br_t rfl h)
theorem gx_action2 {post : Int32 → SX → Prop} {la lb ac g L : Nat → Int32} {c : Nat} {y : Int32} (hc : c < 6) (hy : y < 0 ∨ ¬ y < 4) (h : post (-2) (la, lb, ac, g, L, 39000)) : wpX_action post (la, lb, ac, g, L, 39000) (nI c) y := by
  unfold wpX_action
  dsimp only
  exact gx_isL hc (br_f (by decide) (br_c (fun _ => h) (fun z => br_f (hy.resolve_left z) h)))
theorem gy_action2 {post : Int32 → SY → Prop} {fz sz os vx vy vw vl vr vo vh : Int32} {rs ru fi ac wd nx ot pt se : Nat → Int32} {c : Nat} {y : Int32} (hc : c < 6) (hy : y < 0 ∨ ¬ y ≤ 3) (h : post (-2) (fz, sz, os, vx, vy, vw, vl, vr, vo, vh, rs, ru, fi, ac, wd, nx, ot, pt, se)) : wpY_action post (fz, sz, os, vx, vy, vw, vl, vr, vo, vh, rs, ru, fi, ac, wd, nx, ot, pt, se) (nI c) y := by
  unfold wpY_action
  dsimp only
  exact gy_isL hc (br_f (by decide) (br_c (fun _ => h) (fun z => br_f (hy.resolve_left z) h)))
theorem gw_lt4 (y : Int32) : y < 4 ↔ y ≤ 3 := by
  rw [Int32.lt_iff_toInt_lt, Int32.le_iff_toInt_le, show (4 : Int32).toInt = 4 by decide, show (3 : Int32).toInt = 3 by decide]
  omega
theorem i_vc_action {k : Nat} {u : SX} {v : SY} (I : i_Rel k u v) (hk : k + 5 ≤ 2560) (v1 : Int32) (v2 : Int32) : wpX_action (fun r u' => wpY_action (fun r' v' => r' = r ∧ i_Rel (k + 5) u' v') v v1 v2) u v1 v2 := by
  obtain ⟨la, lb, ac, g, L, fz, sz, os, vx, vy, vw, vl, vr, vo, vh, rs, ru, fi, wd, nx, ot, pt, se, R, T, F, fs, rfl, rfl, hP, hX, hY⟩ := I
  rcases pk_ix v1 (n := 6) (by decide) with z | z | ⟨c, hc, z⟩
  · exact gx_action1 (Or.inl z) (gy_action1 (Or.inl z) ⟨rfl, gw_rel hP hX hY⟩)
  · exact gx_action1 (Or.inr z) (gy_action1 (Or.inr z) ⟨rfl, gw_rel hP hX hY⟩)
  · subst z
    by_cases y : v2 < 0
    · exact gx_action2 hc (Or.inl y) (gy_action2 hc (Or.inl y) ⟨rfl, gw_rel hP hX hY⟩)
    · by_cases y4 : v2 < 4
      · exact gx_action hc y y4 (gy_action hc y ((gw_lt4 v2).mp y4) ⟨rfl, gw_rel hP hX hY⟩)
      · exact gx_action2 hc (Or.inr y4) (gy_action2 hc (Or.inr (fun k => y4 ((gw_lt4 v2).mpr k))) ⟨rfl, gw_rel hP hX hY⟩)
theorem i_vc_length {k : Nat} {u : SX} {v : SY} (I : i_Rel k u v) (hk : k + 5 ≤ 2560) (v1 : Int32) : wpX_length (fun r => wpY_length (fun r' v' => r' = r ∧ i_Rel (k + 5) u v') v v1) u v1 := by
  obtain ⟨la, lb, ac, g, L, fz, sz, os, vx, vy, vw, vl, vr, vo, vh, rs, ru, fi, wd, nx, ot, pt, se, R, T, F, fs, rfl, rfl, hP, hX, hY⟩ := I
  rcases gw_cases R T F fs v1 with ⟨r, no⟩ | ⟨n, s, w, hn, rfl, e⟩
  · exact gx_length_no (gw_noX hX no) (gy_length_no hP hY no (fun sz wd nx => ⟨rfl, gw_rel hP hX hY⟩))
  · have V := gx_view hP hn (hX.2 n hn) e
    have hs := V.2.1
    exact gx_length V (gy_length hP hY hn e (fun wd nx => ⟨rfl, gw_rel hP hX hY⟩))
theorem i_vc_letterAt {k : Nat} {u : SX} {v : SY} (I : i_Rel k u v) (hk : k + 5 ≤ 2560) (v1 : Int32) (v2 : Int32) : wpX_letterAt (fun r => wpY_letterAt (fun r' v' => r' = r ∧ i_Rel (k + 5) u v') v v1 v2) u v1 v2 := by
  obtain ⟨la, lb, ac, g, L, fz, sz, os, vx, vy, vw, vl, vr, vo, vh, rs, ru, fi, wd, nx, ot, pt, se, R, T, F, fs, rfl, rfl, hP, hX, hY⟩ := I
  rcases gw_cases R T F fs v1 with ⟨r, no⟩ | ⟨n, s, w, hn, rfl, e⟩
  · exact gx_letterAt_no (gw_noX hX no) (gy_letterAt_no hP hY no (fun sz wd nx => ⟨rfl, gw_rel hP hX hY⟩))
  · have V := gx_view hP hn (hX.2 n hn) e
    have hs := V.2.1
    rcases pk_ix v2 (n := s) (by omega) with z | z | ⟨p, hp, z⟩
    · exact gx_letterAtN V (Or.inl z) (gy_letterAtN hP hY hn e (Or.inl z) (fun wd nx => ⟨rfl, gw_rel hP hX hY⟩))
    · exact gx_letterAtN V (Or.inr z) (gy_letterAtN hP hY hn e (Or.inr z) (fun wd nx => ⟨rfl, gw_rel hP hX hY⟩))
    · subst z
      exact gx_letterAt V hp (gy_letterAt hP hY hn e hp (fun wd nx => ⟨rfl, gw_rel hP hX hY⟩))
theorem i_vc_count {k : Nat} {u : SX} {v : SY} (I : i_Rel k u v) (hk : k + 5 ≤ 2560) (v1 : Int32) (v2 : Int32) (v3 : Int32) (v4 : Int32) : wpX_count (fun r => wpY_count (fun r' v' => r' = r ∧ i_Rel (k + 5) u v') v v1 v2 v3 v4) u v1 v2 v3 v4 := by
  obtain ⟨la, lb, ac, g, L, fz, sz, os, vx, vy, vw, vl, vr, vo, vh, rs, ru, fi, wd, nx, ot, pt, se, R, T, F, fs, rfl, rfl, hP, hX, hY⟩ := I
  rcases gw_cases R T F fs v1 with ⟨r, no⟩ | ⟨n, s, w, hn, rfl, e⟩
  · exact gx_count_no (gw_noX hX no) (gy_count_no hP hY no (fun sz wd nx => ⟨rfl, gw_rel hP hX hY⟩))
  · have V := gx_view hP hn (hX.2 n hn) e
    have hs := V.2.1
    rcases pk_ix v2 (n := 6) (by decide) with z | z | ⟨c, hc, z⟩
    · exact gx_countN V (Or.inl z) (gy_countN hP hY hn e (Or.inl z) (fun wd nx => ⟨rfl, gw_rel hP hX hY⟩))
    · exact gx_countN V (Or.inr z) (gy_countN hP hY hn e (Or.inr z) (fun wd nx => ⟨rfl, gw_rel hP hX hY⟩))
    · subst z
      obtain ⟨a, ha, hx, h1⟩ := gw_from v3 s hs
      obtain ⟨b, hb, h2, hy⟩ := gw_to v4 s hs
      refine gx_count V hc ha hx hb hy (gy_count hP hY hn e hc (fun wd nx => ⟨congrArg nI ?_, gw_rel hP hX hY⟩))
      refine gw_cnt_mid hb (fun t k1 k2 => ?_) (fun t k1 k2 => ?_)
      · rw [decide_eq_true ((h1 t (by omega)).mpr k1), decide_eq_true ((h2 t (by omega)).mpr k2), Bool.true_and, Bool.true_and]
      · by_cases y1 : nI t < v3
        · rw [decide_eq_false (fun k => k y1), Bool.false_and, Bool.false_and]
        · have y2 := (h1 t k1).mp y1
          by_cases y3 : v4 ≤ nI t
          · rw [decide_eq_false (p := ¬ v4 ≤ nI t) (fun k => k y3), Bool.and_false, Bool.false_and]
          · exact absurd ⟨y2, (h2 t k1).mp y3⟩ k2
theorem i_vc_find {k : Nat} {u : SX} {v : SY} (I : i_Rel k u v) (hk : k + 5 ≤ 2560) (v1 : Int32) (v2 : Int32) (v3 : Int32) : wpX_find (fun r => wpY_find (fun r' v' => r' = r ∧ i_Rel (k + 5) u v') v v1 v2 v3) u v1 v2 v3 := by
  obtain ⟨la, lb, ac, g, L, fz, sz, os, vx, vy, vw, vl, vr, vo, vh, rs, ru, fi, wd, nx, ot, pt, se, R, T, F, fs, rfl, rfl, hP, hX, hY⟩ := I
  rcases gw_cases R T F fs v1 with ⟨r, no⟩ | ⟨n, s, w, hn, rfl, e⟩
  · exact gx_find_no (gw_noX hX no) (gy_find_no hP hY no (fun sz wd nx => ⟨rfl, gw_rel hP hX hY⟩))
  · have V := gx_view hP hn (hX.2 n hn) e
    have hs := V.2.1
    rcases gw_words 4 v2 with G | ⟨x, m, G, h1⟩
    · exact gx_findN V G (gy_findN hP hY hn e G (fun wd nx pt => ⟨rfl, gw_rel hP hX hY⟩))
    · obtain ⟨a, ha, hx, h2⟩ := gw_from v3 s hs
      refine gx_find V G h1 ha hx (gy_find hP hY hn e G h1 (fun wd nx pt => ⟨congrArg gx_f ?_, gw_rel hP hX hY⟩))
      refine gw_fst_mid (by omega) (fun t k1 k2 => ?_) (fun t k1 k2 => ?_)
      · rw [decide_eq_true ((h2 t (by omega)).mpr k1), Bool.true_and]
        exact decide_eq_decide.mpr ⟨fun k => k.2, fun k => ⟨by omega, k⟩⟩
      · by_cases y1 : nI t < v3
        · rw [decide_eq_false (fun k => k y1), Bool.false_and]
        · have y2 := (h2 t k1).mp y1
          rw [decide_eq_false (p := t + m ≤ s ∧ gw_hor w m t = x) (fun k => by have := k.1; omega), Bool.and_false]
theorem i_vc_occurrences {k : Nat} {u : SX} {v : SY} (I : i_Rel k u v) (hk : k + 5 ≤ 2560) (v1 : Int32) (v2 : Int32) : wpX_occurrences (fun r => wpY_occurrences (fun r' v' => r' = r ∧ i_Rel (k + 5) u v') v v1 v2) u v1 v2 := by
  obtain ⟨la, lb, ac, g, L, fz, sz, os, vx, vy, vw, vl, vr, vo, vh, rs, ru, fi, wd, nx, ot, pt, se, R, T, F, fs, rfl, rfl, hP, hX, hY⟩ := I
  rcases gw_cases R T F fs v1 with ⟨r, no⟩ | ⟨n, s, w, hn, rfl, e⟩
  · exact gx_occurrences_no (gw_noX hX no) (gy_occurrences_no hP hY no (fun sz wd nx => ⟨rfl, gw_rel hP hX hY⟩))
  · have V := gx_view hP hn (hX.2 n hn) e
    have hs := V.2.1
    rcases gw_words 4 v2 with G | ⟨x, m, G, h1⟩
    · exact gx_occN V G (gy_occN hP hY hn e G (fun wd nx pt => ⟨rfl, gw_rel hP hX hY⟩))
    · refine gx_occ V G h1 (gy_occ hP hY hn e G h1 (fun wd nx pt => ⟨congrArg nI ?_, gw_rel hP hX hY⟩))
      refine gw_cnt_mid (a := 0) (b := s + 1 - m) (by omega) (fun t k1 k2 => ?_) (fun t k1 k2 => ?_)
      · exact decide_eq_decide.mpr ⟨fun k => k.2, fun k => ⟨by omega, k⟩⟩
      · exact decide_eq_false (fun k => by have := k.1; omega)
theorem i_vc_run {k : Nat} {u : SX} {v : SY} (I : i_Rel k u v) (hk : k + 5 ≤ 2560) (v1 : Int32) : wpX_run (fun r => wpY_run (fun r' v' => r' = r ∧ i_Rel (k + 5) u v') v v1) u v1 := by
  obtain ⟨la, lb, ac, g, L, fz, sz, os, vx, vy, vw, vl, vr, vo, vh, rs, ru, fi, wd, nx, ot, pt, se, R, T, F, fs, rfl, rfl, hP, hX, hY⟩ := I
  rcases gw_cases R T F fs v1 with ⟨r, no⟩ | ⟨n, s, w, hn, rfl, e⟩
  · exact gx_run_no (gw_noX hX no) (gy_run_no hP hY no (fun sz wd nx => ⟨rfl, gw_rel hP hX hY⟩))
  · have V := gx_view hP hn (hX.2 n hn) e
    have hs := V.2.1
    exact gx_run V (gy_run hP hY hn e (fun wd nx => ⟨rfl, gw_rel hP hX hY⟩))
theorem i_vc_common {k : Nat} {u : SX} {v : SY} (I : i_Rel k u v) (hk : k + 5 ≤ 2560) (v1 : Int32) (v2 : Int32) : wpX_common (fun r => wpY_common (fun r' v' => r' = r ∧ i_Rel (k + 5) u v') v v1 v2) u v1 v2 := by
  obtain ⟨la, lb, ac, g, L, fz, sz, os, vx, vy, vw, vl, vr, vo, vh, rs, ru, fi, wd, nx, ot, pt, se, R, T, F, fs, rfl, rfl, hP, hX, hY⟩ := I
  by_cases z : (v1 < 0 ∨ nI 13 ≤ v1) ∨ (v2 < 0 ∨ nI 13 ≤ v2)
  · exact gx_common1 z (gy_common1 z ⟨rfl, gw_rel hP hX hY⟩)
  · have I13 : ∀ x : Int32, ¬ (x < 0 ∨ nI 13 ≤ x) → ∃ n, n < 13 ∧ x = nI n := fun x hx => (pk_ix x (n := 13) (by decide)).elim (fun k => absurd (Or.inl k) hx) (fun k => k.elim (fun k => absurd (Or.inr k) hx) id)
    obtain ⟨n, hn, rfl⟩ := I13 v1 (fun k => z (Or.inl k))
    obtain ⟨m, hm, rfl⟩ := I13 v2 (fun k => z (Or.inr k))
    cases e : gw_gen R T F fs n with
    | none => exact gx_common2 hn hm (Or.inl ((hX.2 n hn).1 e)) (gy_common2 hP hY hn hm (Or.inl e) (fun sz os wd nx ot => ⟨rfl, gw_rel hP hX hY⟩))
    | some q =>
      obtain ⟨s, w⟩ := q
      cases e' : gw_gen R T F fs m with
      | none => exact gx_common2 hn hm (Or.inr ((hX.2 m hm).1 e')) (gy_common2 hP hY hn hm (Or.inr e') (fun sz os wd nx ot => ⟨rfl, gw_rel hP hX hY⟩))
      | some q' =>
        obtain ⟨s', w'⟩ := q'
        exact gx_common (gx_view hP hn (hX.2 n hn) e) (gx_view hP hm (hX.2 m hm) e') (gy_common hP hY hn e hm e' (fun sz os wd nx ot => ⟨rfl, gw_rel hP hX hY⟩))
theorem i_vc_mirrored {k : Nat} {u : SX} {v : SY} (I : i_Rel k u v) (hk : k + 5 ≤ 2560) (v1 : Int32) : wpX_mirrored (fun r => wpY_mirrored (fun r' v' => r' = r ∧ i_Rel (k + 5) u v') v v1) u v1 := by
  obtain ⟨la, lb, ac, g, L, fz, sz, os, vx, vy, vw, vl, vr, vo, vh, rs, ru, fi, wd, nx, ot, pt, se, R, T, F, fs, rfl, rfl, hP, hX, hY⟩ := I
  rcases gw_cases R T F fs v1 with ⟨r, no⟩ | ⟨n, s, w, hn, rfl, e⟩
  · exact gx_mirrored_no (gw_noX hX no) (gy_mirrored_no hP hY no (fun sz wd nx => ⟨rfl, gw_rel hP hX hY⟩))
  · have V := gx_view hP hn (hX.2 n hn) e
    have hs := V.2.1
    refine gx_mirrored V (fun k => ?_) (fun k => ?_)
    · exact gy_mirrored hP hY hn e (fun _ wd nx => ⟨rfl, gw_rel hP hX hY⟩) (fun ⟨p, h1, h2⟩ => absurd (k p h1) h2)
    · exact gy_mirrored hP hY hn e (fun k' => (by obtain ⟨p, h1, h2⟩ := k; exact absurd (k' p h1) h2)) (fun _ wd nx => ⟨rfl, gw_rel hP hX hY⟩)
theorem i_vc_kinds {k : Nat} {u : SX} {v : SY} (I : i_Rel k u v) (hk : k + 5 ≤ 2560) (v1 : Int32) (v2 : Int32) : wpX_kinds (fun r => wpY_kinds (fun r' v' => r' = r ∧ i_Rel (k + 5) u v') v v1 v2) u v1 v2 := by
  obtain ⟨la, lb, ac, g, L, fz, sz, os, vx, vy, vw, vl, vr, vo, vh, rs, ru, fi, wd, nx, ot, pt, se, R, T, F, fs, rfl, rfl, hP, hX, hY⟩ := I
  rcases gw_cases R T F fs v1 with ⟨r, no⟩ | ⟨n, s, w, hn, rfl, e⟩
  · exact gx_kinds_no (gw_noX hX no) (gy_kinds_no hP hY no (fun sz wd nx => ⟨rfl, gw_rel hP hX hY⟩))
  · have V := gx_view hP hn (hX.2 n hn) e
    have hs := V.2.1
    by_cases z1 : v2 < 1
    · exact gx_kindsN V (Or.inl z1) (gy_kindsN hP hY hn e (Or.inl z1) (fun wd nx => ⟨rfl, gw_rel hP hX hY⟩))
    · by_cases z3 : v2 ≤ 3
      · obtain ⟨d, hd, rfl⟩ := nI_of (x := v2) (fun k => z1 (Int32.lt_trans k (by decide)))
        have d1 : 1 ≤ d := by
          by_cases k : d < 1
          · exact absurd (nI_lt (b := 1) k (by decide)) z1
          · omega
        have d3 : d ≤ 3 := (nI_leI (b := 3) hd (by decide)).mp z3
        refine gx_kinds V d1 d3 (gy_kinds hP hY hn e d1 d3 (fun wd nx se => ⟨congrArg nI ?_, gw_rel hP hX hY⟩))
        exact gw_kinds (fun t => gw_cd w t d) 216 (s + 1 - d) (fun p hp => gw_cd216 d3 (fun i hi => (V.2.2.2 (p + i) (by omega)).1))
      · exact gx_kindsN V (Or.inr z3) (gy_kindsN hP hY hn e (Or.inr z3) (fun wd nx => ⟨rfl, gw_rel hP hX hY⟩))
theorem i_vc_point {k : Nat} {u : SX} {v : SY} (I : i_Rel k u v) (hk : k + 5 ≤ 2560) (v1 : Int32) (v2 : Int32) : wpX_point (fun r => wpY_point (fun r' v' => r' = r ∧ i_Rel (k + 5) u v') v v1 v2) u v1 v2 := by
  obtain ⟨la, lb, ac, g, L, fz, sz, os, vx, vy, vw, vl, vr, vo, vh, rs, ru, fi, wd, nx, ot, pt, se, R, T, F, fs, rfl, rfl, hP, hX, hY⟩ := I
  rcases gw_cases R T F fs v1 with ⟨r, no⟩ | ⟨n, s, w, hn, rfl, e⟩
  · exact gx_point_no (gw_noX hX no) (gy_point_no hP hY no (fun sz wd nx => ⟨rfl, gw_rel hP hX hY⟩))
  · have V := gx_view hP hn (hX.2 n hn) e
    have hs := V.2.1
    obtain ⟨b, hb, h2, hy⟩ := gw_to v2 s hs
    exact gx_point (act := fun p => ac (w p)) V hb (fun _ => rfl) hy (gy_point hP hY hn e hb h2 (fun _ => rfl) (fun vx vy vw vl vr vo vh wd nx => ⟨rfl, gw_rel hP hX hY⟩))
theorem i_vc_direction {k : Nat} {u : SX} {v : SY} (I : i_Rel k u v) (hk : k + 5 ≤ 2560) (v1 : Int32) : wpX_direction (fun r => wpY_direction (fun r' v' => r' = r ∧ i_Rel (k + 5) u v') v v1) u v1 := by
  obtain ⟨la, lb, ac, g, L, fz, sz, os, vx, vy, vw, vl, vr, vo, vh, rs, ru, fi, wd, nx, ot, pt, se, R, T, F, fs, rfl, rfl, hP, hX, hY⟩ := I
  rcases gw_cases R T F fs v1 with ⟨r, no⟩ | ⟨n, s, w, hn, rfl, e⟩
  · exact gx_direction_no (gw_noX hX no) (gy_direction_no hP hY no (fun sz wd nx => ⟨rfl, gw_rel hP hX hY⟩))
  · have V := gx_view hP hn (hX.2 n hn) e
    have hs := V.2.1
    exact gx_direction (act := fun p => ac (w p)) V (fun _ => rfl) (gy_direction hP hY hn e (fun _ => rfl) (fun vx vy vw vl vr vo vh wd nx => ⟨rfl, gw_rel hP hX hY⟩))
theorem i_vc_extent {k : Nat} {u : SX} {v : SY} (I : i_Rel k u v) (hk : k + 5 ≤ 2560) (v1 : Int32) : wpX_extent (fun r => wpY_extent (fun r' v' => r' = r ∧ i_Rel (k + 5) u v') v v1) u v1 := by
  obtain ⟨la, lb, ac, g, L, fz, sz, os, vx, vy, vw, vl, vr, vo, vh, rs, ru, fi, wd, nx, ot, pt, se, R, T, F, fs, rfl, rfl, hP, hX, hY⟩ := I
  rcases gw_cases R T F fs v1 with ⟨r, no⟩ | ⟨n, s, w, hn, rfl, e⟩
  · exact gx_extent_no (gw_noX hX no) (gy_extent_no hP hY no (fun sz wd nx => ⟨rfl, gw_rel hP hX hY⟩))
  · have V := gx_view hP hn (hX.2 n hn) e
    have hs := V.2.1
    exact gx_extent (act := fun p => ac (w p)) V (fun _ => rfl) (gy_extent hP hY hn e (fun _ => rfl) (fun vx vy vw vl vr vo vh wd nx => ⟨rfl, gw_rel hP hX hY⟩))
end
