def gw_hor (f : Nat → Nat) : Nat → Nat → Nat
  | 0, _ => 0
  | m + 1, a => (f a + 1) + 7 * gw_hor f m (a + 1)
theorem gw_hor_s (f : Nat → Nat) (m a : Nat) : gw_hor f (m + 1) a = (f a + 1) + 7 * gw_hor f m (a + 1) := rfl
theorem gw_hor_lt {f : Nat → Nat} : ∀ m a, (∀ i, i < m → f (a + i) < 6) → gw_hor f m a < 7 ^ m := by
  intro m
  induction m with
  | zero => intro a _; exact Nat.zero_lt_one
  | succ m ih =>
    intro a h
    have h0 := h 0 (by omega)
    have h1 := ih (a + 1) (fun i hi => by rw [show a + 1 + i = a + (i + 1) by omega]; exact h (i + 1) (by omega))
    rw [Nat.add_zero] at h0
    rw [gw_hor_s, Nat.pow_succ]
    generalize 7 ^ m = z at h1
    omega
theorem gw_hor_inj {f g : Nat → Nat} : ∀ m a b, (∀ i, i < m → f (a + i) < 6) → (∀ i, i < m → g (b + i) < 6) → (gw_hor f m a = gw_hor g m b ↔ ∀ i, i < m → f (a + i) = g (b + i)) := by
  intro m
  induction m with
  | zero => intro a b _ _; exact ⟨fun _ i hi => absurd hi (Nat.not_lt_zero i), fun _ => rfl⟩
  | succ m ih =>
    intro a b hf hg
    have f0 : f a < 6 := hf 0 (by omega)
    have g0 : g b < 6 := hg 0 (by omega)
    have i1 := ih (a + 1) (b + 1) (fun i hi => by rw [show a + 1 + i = a + (i + 1) by omega]; exact hf (i + 1) (by omega)) (fun i hi => by rw [show b + 1 + i = b + (i + 1) by omega]; exact hg (i + 1) (by omega))
    rw [gw_hor_s, gw_hor_s]
    constructor
    · intro e i hi
      have e0 : f a = g b := by omega
      have e1 : gw_hor f m (a + 1) = gw_hor g m (b + 1) := by omega
      cases i with
      | zero => exact e0
      | succ i =>
        have := i1.mp e1 i (by omega)
        rw [show a + 1 + i = a + (i + 1) by omega, show b + 1 + i = b + (i + 1) by omega] at this
        exact this
    · intro h
      have e0 : f a = g b := h 0 (by omega)
      have e1 := i1.mpr (fun i hi => by rw [show a + 1 + i = a + (i + 1) by omega, show b + 1 + i = b + (i + 1) by omega]; exact h (i + 1) (by omega))
      rw [e0, e1]
def gw_dg (x k : Nat) : Nat := x / 7 ^ k % 7 - 1
def gw_len (x : Nat) : Nat → Nat → Nat
  | 0, k => k
  | d + 1, k => if x / 7 ^ k % 7 = 0 then k else gw_len x d (k + 1)
theorem gw_len_z {x d k : Nat} (h : x / 7 ^ k % 7 = 0) : gw_len x (d + 1) k = k := if_pos h
theorem gw_len_n {x d k : Nat} (h : ¬ x / 7 ^ k % 7 = 0) : gw_len x (d + 1) k = gw_len x d (k + 1) := if_neg h
theorem gw_len_b (x : Nat) : ∀ d k, k ≤ gw_len x d k ∧ gw_len x d k ≤ k + d := by
  intro d
  induction d with
  | zero => intro k; exact ⟨Nat.le_refl _, Nat.le_refl _⟩
  | succ d ih =>
    intro k
    have := ih (k + 1)
    by_cases c : x / 7 ^ k % 7 = 0
    · rw [gw_len_z c]; omega
    · rw [gw_len_n c]; omega
theorem gw_len_nz (x : Nat) : ∀ d k j, k ≤ j → j < gw_len x d k → ¬ x / 7 ^ j % 7 = 0 := by
  intro d
  induction d with
  | zero => intro k j a b; exact absurd b (Nat.not_lt.mpr a)
  | succ d ih =>
    intro k j a b
    by_cases c : x / 7 ^ k % 7 = 0
    · rw [gw_len_z c] at b; omega
    · rw [gw_len_n c] at b
      by_cases z : j = k
      · rw [z]; exact c
      · exact ih (k + 1) j (by omega) b
theorem gw_div7 (x k : Nat) : x / 7 ^ k / 7 = x / 7 ^ (k + 1) := by
  rw [Nat.div_div_eq_div_mul, Nat.pow_succ]
theorem gw_dg_lt (x k : Nat) : gw_dg x k < 6 := by
  unfold gw_dg
  omega
theorem gw_hor_dg (x : Nat) : ∀ d k, (∀ j, k ≤ j → j < k + d → ¬ x / 7 ^ j % 7 = 0) → x / 7 ^ (k + d) = 0 → gw_hor (gw_dg x) d k = x / 7 ^ k := by
  intro d
  induction d with
  | zero => intro k _ h; exact h.symm
  | succ d ih =>
    intro k h h0
    have i := ih (k + 1) (fun j a b => h j (by omega) (by omega)) (by rw [show k + 1 + d = k + (d + 1) by omega]; exact h0)
    have hk := h k (by omega) (by omega)
    have hd := gw_div7 x k
    rw [gw_hor_s, i, ← hd]
    unfold gw_dg
    omega
def gw_cd (f : Nat → Nat) (a : Nat) : Nat → Nat
  | 0 => 0
  | i + 1 => 6 * gw_cd f a i + f (a + i)
theorem gw_cd_s (f : Nat → Nat) (a i : Nat) : gw_cd f a (i + 1) = 6 * gw_cd f a i + f (a + i) := rfl
theorem gw_cd_lt {f : Nat → Nat} {a : Nat} : ∀ m, (∀ i, i < m → f (a + i) < 6) → gw_cd f a m < 6 ^ m := by
  intro m
  induction m with
  | zero => intro _; exact Nat.zero_lt_one
  | succ m ih =>
    intro h
    have h0 := h m (by omega)
    have h1 := ih (fun i hi => h i (by omega))
    rw [gw_cd_s, Nat.pow_succ]
    generalize 6 ^ m = z at h1
    omega
theorem gw_cd_inj {f : Nat → Nat} {a b : Nat} : ∀ m, (∀ i, i < m → f (a + i) < 6) → (∀ i, i < m → f (b + i) < 6) → (gw_cd f a m = gw_cd f b m ↔ ∀ i, i < m → f (a + i) = f (b + i)) := by
  intro m
  induction m with
  | zero => intro _ _; exact ⟨fun _ i hi => absurd hi (Nat.not_lt_zero i), fun _ => rfl⟩
  | succ m ih =>
    intro hf hg
    have f0 := hf m (by omega)
    have g0 := hg m (by omega)
    have i1 := ih (fun i hi => hf i (by omega)) (fun i hi => hg i (by omega))
    rw [gw_cd_s, gw_cd_s]
    constructor
    · intro e i hi
      have e0 : f (a + m) = f (b + m) := by omega
      have e1 : gw_cd f a m = gw_cd f b m := by omega
      by_cases z : i = m
      · rw [z]; exact e0
      · exact i1.mp e1 i (by omega)
    · intro h
      rw [h m (by omega), i1.mpr (fun i hi => h i (by omega))]
def gw_S (C : Nat → Nat) : Nat → Nat → Bool
  | 0 => fun _ => false
  | m + 1 => fun c => if c = C m then true else gw_S C m c
theorem gw_S_mem (C : Nat → Nat) : ∀ m c, gw_S C m c = true ↔ ∃ p, p < m ∧ C p = c := by
  intro m
  induction m with
  | zero => intro c; exact ⟨fun h => absurd h Bool.false_ne_true, fun ⟨p, hp, _⟩ => absurd hp (Nat.not_lt_zero p)⟩
  | succ m ih =>
    intro c
    show (if c = C m then true else gw_S C m c) = true ↔ _
    by_cases z : c = C m
    · rw [if_pos z]
      exact ⟨fun _ => ⟨m, by omega, z.symm⟩, fun _ => rfl⟩
    · rw [if_neg z, ih c]
      constructor
      · intro ⟨p, hp, e⟩; exact ⟨p, by omega, e⟩
      · intro ⟨p, hp, e⟩
        refine ⟨p, ?_, e⟩
        by_cases y : p = m
        · rw [y] at e; exact absurd e.symm z
        · omega
theorem gw_cnt_new {P : Nat → Bool} {c : Nat} (hc : P c = false) : ∀ N q, q ≤ c → c < q + N → gw_cnt (fun t => if t = c then true else P t) N q = gw_cnt P N q + 1 := by
  intro N
  induction N with
  | zero => intro q a b; omega
  | succ N ih =>
    intro q a b
    by_cases z : q = c
    · subst z
      rw [gw_cnt_t (by exact if_pos rfl), gw_cnt_f (by rw [hc]; decide)]
      exact congrArg (· + 1) (gw_cnt_congr N (q + 1) (fun t k _ => if_neg (by omega)))
    · have i := ih (q + 1) (by omega) (by omega)
      rw [gw_cnt_s, gw_cnt_s, i]
      have e : (if q = c then true else P q) = P q := if_neg z
      rw [e]
      omega
theorem gw_kinds (C : Nat → Nat) (N : Nat) : ∀ m, (∀ p, p < m → C p < N) → gw_cnt (gw_S C m) N 0 = gw_cnt (fun p => !(gw_S C p (C p))) m 0 := by
  intro m
  induction m with
  | zero => intro _; exact gw_cnt_zero N 0 (fun _ _ _ => rfl)
  | succ m ih =>
    intro h
    have i := ih (fun p hp => h p (by omega))
    have hm := h m (by omega)
    rw [gw_cnt_add (fun p => !(gw_S C p (C p))) 1 m 0, ← i, Nat.zero_add]
    by_cases z : gw_S C m (C m) = true
    · have e : gw_cnt (gw_S C (m + 1)) N 0 = gw_cnt (gw_S C m) N 0 := by
        refine gw_cnt_congr N 0 (fun t _ _ => ?_)
        show (if t = C m then true else gw_S C m t) = _
        by_cases y : t = C m
        · rw [if_pos y, y, z]
        · rw [if_neg y]
      rw [e, gw_cnt_f (by rw [z]; decide)]
      rfl
    · have z' : gw_S C m (C m) = false := Bool.eq_false_iff.mpr z
      have e : gw_cnt (gw_S C (m + 1)) N 0 = gw_cnt (gw_S C m) N 0 + 1 := gw_cnt_new z' N 0 (by omega) (by omega)
      rw [e, gw_cnt_t (by rw [z']; decide)]
      rfl
def gw_mn (a b : Int32) : Int32 := if b ≤ a then b else a
def gw_mx (a b : Int32) : Int32 := if a ≤ b then b else a
theorem gw_mn_c (a b : Int32) : gw_mn a b = gw_mn b a := by
  unfold gw_mn
  by_cases h : b ≤ a
  · by_cases k : a ≤ b
    · rw [if_pos h, if_pos k]
      exact Int32.le_antisymm h k
    · rw [if_pos h, if_neg k]
  · by_cases k : a ≤ b
    · rw [if_neg h, if_pos k]
    · exact absurd (Int32.le_of_lt (Int32.not_le.mp h)) k
theorem gw_mx_c (a b : Int32) : gw_mx a b = gw_mx b a := by
  unfold gw_mx
  by_cases h : a ≤ b
  · by_cases k : b ≤ a
    · rw [if_pos h, if_pos k]
      exact Int32.le_antisymm k h
    · rw [if_pos h, if_neg k]
  · by_cases k : b ≤ a
    · rw [if_neg h, if_pos k]
    · exact absurd (Int32.le_of_lt (Int32.not_le.mp h)) k
def gw_tx (a d : Int32) : Int32 := if a = 1 then (if d = 0 then 1 else if d = 2 then -1 else 0) else 0
def gw_ty (a d : Int32) : Int32 := if a = 1 then (if d = 1 then 1 else if d = 3 then -1 else 0) else 0
def gw_td (a d : Int32) : Int32 := if a = 2 then (d + 1) - (d + 1) / 4 * 4 else if a = 3 then (d + 3) - (d + 3) / 4 * 4 else d
def gw_d (act : Nat → Int32) : Nat → Int32
  | 0 => 0
  | p + 1 => gw_td (act p) (gw_d act p)
def gw_x (act : Nat → Int32) : Nat → Int32
  | 0 => 0
  | p + 1 => gw_x act p + gw_tx (act p) (gw_d act p)
def gw_y (act : Nat → Int32) : Nat → Int32
  | 0 => 0
  | p + 1 => gw_y act p + gw_ty (act p) (gw_d act p)
def gw_le (g : Nat → Int32) : Nat → Int32
  | 0 => 0
  | p + 1 => gw_mn (gw_le g p) (g (p + 1))
def gw_gr (g : Nat → Int32) : Nat → Int32
  | 0 => 0
  | p + 1 => gw_mx (gw_gr g p) (g (p + 1))
theorem gw_sle {p s m : Nat} (hp : p < 2 ^ 31) (hs : s < 2 ^ 30) (hm : m < 2 ^ 30) : nI p ≤ nI s - nI m ↔ p + m ≤ s := by
  rw [Int32.le_iff_toInt_le, nI_toInt hp, pk_sub_toInt hs hm]
  omega
theorem gw_nar {c : Nat} (h : c < 6) : vp_nar .byte (nI c) = nI c := by
  rw [vp_nar_byte]
  have : ∀ c, c < 6 → (nI c).toInt8.toInt32 = nI c := by decide +kernel
  exact this c h
theorem gw_3000 {n p : Nat} : nI n * 3000 + nI p = nI (n * 3000 + p) := by
  rw [show (3000 : Int32) = nI 3000 from by decide, pk_mul, nI_add]
theorem gw_m1 {n : Nat} (h : n < 2 ^ 31) : ¬ nI n = -1 := by
  intro e
  have := congrArg Int32.toInt e
  rw [nI_toInt h, show (-1 : Int32).toInt = -1 by decide] at this
  omega
def gw_rh (w : Nat → Nat) : Nat → Int32
  | 0 => 0
  | p + 1 => if 0 < p ∧ w p = w (p - 1) then gw_rh w p + 1 else 1
def gw_pre (w w' : Nat → Nat) : Nat → Nat → Nat
  | 0, p => p
  | d + 1, p => if w p = w' p then gw_pre w w' d (p + 1) else p
theorem gw_pre_t {w w' : Nat → Nat} {d p : Nat} (h : w p = w' p) : gw_pre w w' (d + 1) p = gw_pre w w' d (p + 1) := if_pos h
theorem gw_pre_f {w w' : Nat → Nat} {d p : Nat} (h : ¬ w p = w' p) : gw_pre w w' (d + 1) p = p := if_neg h
