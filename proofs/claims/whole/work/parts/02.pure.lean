/-! the mathematics of texts: agreement, least period, runs -/
/-- how many symbols agree from i and from j on, of m at most -/
def rf_l (t : Nat → Int32) : Nat → Nat → Nat → Nat
  | 0, _, _ => 0
  | m + 1, i, j => if t i = t j then rf_l t m (i + 1) (j + 1) + 1 else 0
theorem rf_l_le (t : Nat → Int32) : ∀ m i j : Nat, rf_l t m i j ≤ m := by
  intro m
  induction m with
  | zero => intro i j; exact Nat.le_refl 0
  | succ m ih =>
    intro i j
    unfold rf_l
    split
    · have := ih (i + 1) (j + 1); omega
    · omega
theorem rf_l_ge (t : Nat → Int32) : ∀ m i j q : Nat, q ≤ rf_l t m i j ↔ (q ≤ m ∧ ∀ k, k < q → t (i + k) = t (j + k)) := by
  intro m
  induction m with
  | zero =>
    intro i j q
    constructor
    · intro h
      have h0 : q ≤ 0 := h
      exact ⟨h0, fun k hk => by omega⟩
    · intro h; exact h.1
  | succ m ih =>
    intro i j q
    unfold rf_l
    by_cases c : t i = t j
    · rw [if_pos c]
      cases q with
      | zero => exact ⟨fun _ => ⟨by omega, fun k hk => by omega⟩, fun _ => by omega⟩
      | succ q =>
        have h := ih (i + 1) (j + 1) q
        constructor
        · intro hq
          obtain ⟨h1, h2⟩ := h.mp (by omega)
          refine ⟨by omega, fun k hk => ?_⟩
          cases k with
          | zero => exact c
          | succ k =>
            have := h2 k (by omega)
            rw [show i + (k + 1) = i + 1 + k by omega, show j + (k + 1) = j + 1 + k by omega]
            exact this
        · intro hq
          have : q ≤ rf_l t m (i + 1) (j + 1) := h.mpr ⟨by omega, fun k hk => by
            have := hq.2 (k + 1) (by omega)
            rw [show i + 1 + k = i + (k + 1) by omega, show j + 1 + k = j + (k + 1) by omega]
            exact this⟩
          omega
    · rw [if_neg c]
      constructor
      · intro hq
        exact ⟨by omega, fun k hk => by omega⟩
      · intro hq
        cases q with
        | zero => omega
        | succ q => exact absurd (hq.2 0 (by omega)) c
/-- the text from i on agrees with itself p on, for m symbols -/
def rf_H (t : Nat → Int32) (i p m : Nat) : Prop := ∀ k, k < m → t (i + k) = t (i + p + k)
theorem rf_h {t : Nat → Int32} {i p m M : Nat} (h : m ≤ M) : m ≤ rf_l t M i (i + p) ↔ rf_H t i p m :=
  ⟨fun a => ((rf_l_ge t M i (i + p) m).mp a).2, fun a => (rf_l_ge t M i (i + p) m).mpr ⟨h, a⟩⟩
/-- the search for the least period of the piece of length e from i on: from p on, d steps at most -/
def rf_s (t : Nat → Int32) (i e : Nat) : Nat → Nat → Nat
  | 0, p => p
  | d + 1, p => if e - p ≤ rf_l t (e - p) i (i + p) then p else rf_s t i e d (p + 1)
def rf_P (t : Nat → Int32) (i e : Nat) : Nat := rf_s t i e (e - 1) 1
theorem rf_s_t {t : Nat → Int32} {i e d p : Nat} (h : rf_H t i p (e - p)) : rf_s t i e (d + 1) p = p := if_pos ((rf_h (Nat.le_refl _)).mpr h)
theorem rf_s_f {t : Nat → Int32} {i e d p : Nat} (h : ¬ rf_H t i p (e - p)) : rf_s t i e (d + 1) p = rf_s t i e d (p + 1) := if_neg (fun z => h ((rf_h (Nat.le_refl _)).mp z))
theorem rf_s_x (t : Nat → Int32) (i e : Nat) : ∀ d p : Nat, p + d = e → p ≤ rf_s t i e d p ∧ rf_s t i e d p ≤ e ∧ rf_H t i (rf_s t i e d p) (e - rf_s t i e d p) ∧ ∀ q, p ≤ q → q < rf_s t i e d p → ¬ rf_H t i q (e - q) := by
  intro d
  induction d with
  | zero =>
    intro p h
    have e0 : rf_s t i e 0 p = p := rfl
    rw [e0]
    exact ⟨Nat.le_refl _, by omega, fun k hk => by omega, fun q h1 h2 => by omega⟩
  | succ d ih =>
    intro p h
    by_cases c : rf_H t i p (e - p)
    · rw [rf_s_t c]
      exact ⟨Nat.le_refl _, by omega, c, fun q h1 h2 => by omega⟩
    · rw [rf_s_f c]
      obtain ⟨h1, h2, h3, h4⟩ := ih (p + 1) (by omega)
      refine ⟨by omega, h2, h3, fun q g1 g2 => ?_⟩
      by_cases z : q = p
      · rw [z]; exact c
      · exact h4 q (by omega) g2
theorem rf_P_x (t : Nat → Int32) (i e : Nat) (h : 1 ≤ e) : 1 ≤ rf_P t i e ∧ rf_P t i e ≤ e ∧ rf_H t i (rf_P t i e) (e - rf_P t i e) ∧ ∀ q, 1 ≤ q → q < rf_P t i e → ¬ rf_H t i q (e - q) := rf_s_x t i e (e - 1) 1 (by omega)
/-- how far the period p holds from i on -/
def rf_L (t : Nat → Int32) (n i p : Nat) : Nat := rf_l t (n - (i + p)) i (i + p)
/-- a run begins at i with period p -/
def rf_R (t : Nat → Int32) (n i p : Nat) : Bool := decide (i + 2 * p ≤ n ∧ p ≤ rf_L t n i p ∧ ¬ (0 < i ∧ t (i - 1) = t (i - 1 + p)) ∧ rf_P t i (p + rf_L t n i p) = p)
def rf_e (t : Nat → Int32) (n i p : Nat) : Nat := i + p + rf_L t n i p - 1
def rf_v (t : Nat → Int32) (n i p : Nat) : Int32 := if rf_R t n i p = true then nI (rf_e t n i p) else -1
theorem rf_R_iff {t : Nat → Int32} {n i p : Nat} : rf_R t n i p = true ↔ (i + 2 * p ≤ n ∧ p ≤ rf_L t n i p ∧ ¬ (0 < i ∧ t (i - 1) = t (i - 1 + p)) ∧ rf_P t i (p + rf_L t n i p) = p) := decide_eq_true_iff
theorem rf_L_le (t : Nat → Int32) (n i p : Nat) : rf_L t n i p ≤ n - (i + p) := rf_l_le t _ _ _
theorem rf_L_ge {t : Nat → Int32} {n i p m : Nat} (h : m ≤ n - (i + p)) : m ≤ rf_L t n i p ↔ rf_H t i p m := rf_h h
theorem rf_e_in {t : Nat → Int32} {n i p : Nat} (hp : 1 ≤ p) (h : rf_R t n i p = true) : i + 2 * p ≤ rf_e t n i p + 1 ∧ rf_e t n i p < n := by
  obtain ⟨h1, h2, -, -⟩ := rf_R_iff.mp h
  have := rf_L_le t n i p
  unfold rf_e
  omega
theorem rf_v_t {t : Nat → Int32} {n i p : Nat} (h : rf_R t n i p = true) : rf_v t n i p = nI (rf_e t n i p) := if_pos h
theorem rf_v_f {t : Nat → Int32} {n i p : Nat} (h : ¬ rf_R t n i p = true) : rf_v t n i p = -1 := if_neg h
theorem rf_R1 {t : Nat → Int32} {n i p : Nat} (h : rf_R t n i p = true) : i + 2 * p ≤ n := (rf_R_iff.mp h).1
theorem rf_R2 {t : Nat → Int32} {n i p : Nat} (h : rf_R t n i p = true) : rf_H t i p p := by
  obtain ⟨h1, h2, -, -⟩ := rf_R_iff.mp h
  exact (rf_L_ge (by omega)).mp h2
theorem rf_R3 {t : Nat → Int32} {n i p : Nat} (h : rf_R t n i p = true) (hi : 0 < i) : t (i - 1) ≠ t (i - 1 + p) := fun z => (rf_R_iff.mp h).2.2.1 ⟨hi, z⟩
/-- two runs of one period begin more than the period apart -/
theorem rf_R4 {t : Nat → Int32} {n p a b : Nat} (ha : rf_R t n a p = true) (hb : rf_R t n b p = true) (h : a < b) : a + (p + 1) ≤ b := by
  refine Decidable.byContradiction fun z => ?_
  have h1 := rf_R2 ha (b - 1 - a) (by omega)
  rw [show a + (b - 1 - a) = b - 1 by omega, show a + p + (b - 1 - a) = b - 1 + p by omega] at h1
  exact rf_R3 hb (by omega) h1
theorem rf_R5 {t : Nat → Int32} {n i : Nat} (h : rf_R t n i 2 = true) : t i ≠ t (i + 1) := by
  intro z
  obtain ⟨h1, h2, -, h4⟩ := rf_R_iff.mp h
  have hH : rf_H t i 2 (rf_L t n i 2) := (rf_L_ge (rf_L_le t n i 2)).mp (Nat.le_refl _)
  have hx := (rf_P_x t i (2 + rf_L t n i 2) (by omega)).2.2.2 1 (by omega) (by omega)
  have all : ∀ k, k < rf_L t n i 2 + 1 → t (i + k) = t i ∧ t (i + (k + 1)) = t i := by
    intro k
    induction k with
    | zero => intro _; exact ⟨rfl, z.symm⟩
    | succ k ih =>
      intro hk
      obtain ⟨a, b⟩ := ih (by omega)
      refine ⟨b, ?_⟩
      have := hH k (by omega)
      rw [show i + (k + 1 + 1) = i + 2 + k by omega, ← this]
      exact a
  refine hx fun k hk => ?_
  obtain ⟨a, b⟩ := all k (by omega)
  rw [a, show i + 1 + k = i + (k + 1) by omega, b]
theorem rf_R6 {t : Nat → Int32} {n i : Nat} (h : rf_R t n i 2 = true) : t i ≠ t (i + 1) ∧ t (i + 1) ≠ t (i + 2) ∧ t (i + 2) ≠ t (i + 3) := by
  have h1 := rf_R5 h
  have a := rf_R2 h 0 (by omega)
  have b := rf_R2 h 1 (by omega)
  have a' : t i = t (i + 2) := a
  have b' : t (i + 1) = t (i + 3) := b
  refine ⟨h1, ?_, ?_⟩
  · rw [← a']; exact h1.symm
  · rw [← a', ← b']; exact h1
theorem rf_R7 {t : Nat → Int32} {n i : Nat} (h : rf_R t n i 1 = true) : t i = t (i + 1) := rf_R2 h 0 (by omega)
