/-! counting: at most 93 runs -/
def rf_k (P : Nat → Bool) : Nat → Nat
  | 0 => 0
  | m + 1 => rf_k P m + if P m = true then 1 else 0
theorem rf_k_t {P : Nat → Bool} {m : Nat} (h : P m = true) : rf_k P (m + 1) = rf_k P m + 1 := by
  show rf_k P m + (if P m = true then 1 else 0) = _
  rw [if_pos h]
theorem rf_k_f {P : Nat → Bool} {m : Nat} (h : ¬ P m = true) : rf_k P (m + 1) = rf_k P m := by
  show rf_k P m + (if P m = true then 1 else 0) = _
  rw [if_neg h]; rfl
theorem rf_k_c {P : Nat → Bool} {a : Nat} : ∀ d : Nat, (∀ x, a ≤ x → x < a + d → ¬ P x = true) → rf_k P (a + d) = rf_k P a := by
  intro d
  induction d with
  | zero => intro _; rfl
  | succ d ih =>
    intro h
    have e : rf_k P (a + d + 1) = rf_k P (a + d) := rf_k_f (h (a + d) (by omega) (by omega))
    exact e.trans (ih fun x h1 h2 => h x h1 (by omega))
theorem rf_k_d {P : Nat → Bool} {a b : Nat} (hab : a ≤ b) (h : ∀ x, a ≤ x → x < b → ¬ P x = true) : rf_k P b = rf_k P a := by
  obtain ⟨d, rfl⟩ : ∃ d, b = a + d := ⟨b - a, by omega⟩
  exact rf_k_c d h
theorem rf_k_m (P : Nat → Bool) {a b : Nat} (hab : a ≤ b) : rf_k P a ≤ rf_k P b := by
  obtain ⟨d, rfl⟩ : ∃ d, b = a + d := ⟨b - a, by omega⟩
  clear hab
  induction d with
  | zero => exact Nat.le_refl _
  | succ d ih =>
    have : rf_k P (a + d + 1) = rf_k P (a + d) + (if P (a + d) = true then 1 else 0) := rfl
    have e : a + (d + 1) = a + d + 1 := rfl
    rw [e]
    omega
/-- true at distances of d at least: few times -/
theorem rf_sp (P : Nat → Bool) (d : Nat) (hd : 1 ≤ d) (h : ∀ a b, a < b → P a = true → P b = true → a + d ≤ b) : ∀ m N, m ≤ N → rf_k P m * d + 1 ≤ m + d := by
  have key : ∀ N m, m ≤ N → rf_k P m * d + 1 ≤ m + d := by
    intro N
    induction N with
    | zero =>
      intro m hm
      have e : m = 0 := by omega
      subst e
      have e0 : rf_k P 0 = 0 := rfl
      rw [e0, Nat.zero_mul]; omega
    | succ N ih =>
      intro m hm
      cases m with
      | zero =>
        have e0 : rf_k P 0 = 0 := rfl
        rw [e0, Nat.zero_mul]; omega
      | succ m =>
        by_cases c : P m = true
        · rw [rf_k_t c, Nat.add_mul, Nat.one_mul]
          by_cases z : m + 1 ≤ d
          · have e0 : rf_k P m = 0 := (rf_k_d (a := 0) (by omega) fun x _ hx px => by have := h x m hx px c; omega).trans rfl
            rw [e0, Nat.zero_mul]; omega
          · have e0 : rf_k P m = rf_k P (m + 1 - d) := rf_k_d (by omega) fun x h1 hx px => by have := h x m hx px c; omega
            have := ih (m + 1 - d) (by omega)
            rw [e0]; omega
        · rw [rf_k_f c]
          have := ih m (by omega)
          omega
  exact fun m N hm => key N m hm
def rf_u (f : Nat → Nat) : Nat → Nat
  | 0 => 0
  | k + 1 => rf_u f k + f k
theorem rf_u_add (f g h : Nat → Nat) : ∀ k, (∀ q, q < k → h q = f q + g q) → rf_u h k = rf_u f k + rf_u g k := by
  intro k
  induction k with
  | zero => intro _; rfl
  | succ k ih =>
    intro e
    have h1 := ih fun q hq => e q (by omega)
    have h2 := e k (by omega)
    show rf_u h k + h k = rf_u f k + f k + (rf_u g k + g k)
    omega
/-- the slot s holds a run -/
def rf_S (t : Nat → Int32) (n s : Nat) : Bool := rf_R t n (s / 24) (s % 24 + 1)
/-- how many slots ahead of s hold one -/
def rf_n (t : Nat → Int32) (n s : Nat) : Nat := rf_k (rf_S t n) s
theorem rf_n_t {t : Nat → Int32} {n s : Nat} (h : rf_S t n s = true) : rf_n t n (s + 1) = rf_n t n s + 1 := rf_k_t h
theorem rf_n_f {t : Nat → Int32} {n s : Nat} (h : ¬ rf_S t n s = true) : rf_n t n (s + 1) = rf_n t n s := rf_k_f h
theorem rf_n_m (t : Nat → Int32) (n : Nat) {a b : Nat} (h : a ≤ b) : rf_n t n a ≤ rf_n t n b := rf_k_m _ h
theorem rf_n_row (t : Nat → Int32) (n m : Nat) : ∀ k, k ≤ 24 → rf_n t n (24 * m + k) = rf_n t n (24 * m) + rf_u (fun q => if rf_R t n m (q + 1) = true then 1 else 0) k := by
  intro k
  induction k with
  | zero => intro _; rfl
  | succ k ih =>
    intro hk
    have h := ih (by omega)
    have e : rf_n t n (24 * m + (k + 1)) = rf_n t n (24 * m + k) + (if rf_S t n (24 * m + k) = true then 1 else 0) := rfl
    have es : rf_S t n (24 * m + k) = rf_R t n m (k + 1) := by
      unfold rf_S
      rw [show (24 * m + k) / 24 = m by omega, show (24 * m + k) % 24 = k by omega]
    rw [e, h, es]
    exact Nat.add_assoc _ _ _
theorem rf_n_sum (t : Nat → Int32) (n : Nat) : ∀ m, rf_n t n (24 * m) = rf_u (fun q => rf_k (fun i => rf_R t n i (q + 1)) m) 24 := by
  intro m
  induction m with
  | zero => rfl
  | succ m ih =>
    have h := rf_n_row t n m 24 (Nat.le_refl _)
    rw [show 24 * (m + 1) = 24 * m + 24 by omega, h, ih]
    exact (rf_u_add _ _ _ 24 fun q _ => rfl).symm
theorem rf_cp {t : Nat → Int32} {n : Nat} (hn : n ≤ 48) (p : Nat) (hp : 1 ≤ p) (hq : p ≤ 24) : rf_k (fun i => rf_R t n i p) 48 * (p + 1) + p ≤ 49 := by
  have e : rf_k (fun i => rf_R t n i p) 48 = rf_k (fun i => rf_R t n i p) (49 - 2 * p) := rf_k_d (by omega) fun x h1 h2 h3 => by
    have := rf_R1 h3
    omega
  have h := rf_sp (fun i => rf_R t n i p) (p + 1) (by omega) (fun a b hab ha hb => rf_R4 ha hb hab) (49 - 2 * p) _ (Nat.le_refl _)
  rw [e]
  omega
/-- runs of period 1, and those of period 2 one place on -/
def rf_Q (t : Nat → Int32) (n k : Nat) : Bool := rf_R t n k 1 || (decide (0 < k) && rf_R t n (k - 1) 2)
theorem rf_Q_iff {t : Nat → Int32} {n k : Nat} : rf_Q t n k = true ↔ (rf_R t n k 1 = true ∨ (0 < k ∧ rf_R t n (k - 1) 2 = true)) := by
  unfold rf_Q
  rw [Bool.or_eq_true, Bool.and_eq_true, decide_eq_true_iff]
theorem rf_Q_sp {t : Nat → Int32} {n a b : Nat} (hab : a < b) (ha : rf_Q t n a = true) (hb : rf_Q t n b = true) : a + 2 ≤ b := by
  refine Decidable.byContradiction fun z => ?_
  have e : b = a + 1 := by omega
  subst e
  rcases rf_Q_iff.mp ha with h1 | ⟨h0, h1⟩
  · rcases rf_Q_iff.mp hb with g1 | ⟨g0, g1⟩
    · have := rf_R4 h1 g1 (by omega); omega
    · exact (rf_R6 g1).1 (rf_R7 h1)
  · rcases rf_Q_iff.mp hb with g1 | ⟨g0, g1⟩
    · have x := (rf_R6 h1).2.2
      rw [show a - 1 + 2 = a + 1 by omega, show a - 1 + 3 = a + 1 + 1 by omega] at x
      exact x (rf_R7 g1)
    · have := rf_R4 h1 g1 (by omega); omega
theorem rf_Q_d {t : Nat → Int32} {n k : Nat} (h : rf_R t n (k + 1) 1 = true) (g : rf_R t n k 2 = true) : False := (rf_R6 g).2.1 (rf_R7 h)
theorem rf_Q_n (t : Nat → Int32) (n : Nat) : ∀ m, rf_k (fun i => rf_R t n i 1) (m + 1) + rf_k (fun i => rf_R t n i 2) m = rf_k (rf_Q t n) (m + 1) := by
  intro m
  induction m with
  | zero =>
    have e : rf_Q t n 0 = rf_R t n 0 1 := by
      unfold rf_Q
      rw [decide_eq_false (by omega), Bool.false_and, Bool.or_false]
    show (0 + if rf_R t n 0 1 = true then 1 else 0) + 0 = (0 + if rf_Q t n 0 = true then 1 else 0)
    rw [e]; rfl
  | succ m ih =>
    by_cases a : rf_R t n (m + 1) 1 = true
    · have b : ¬ rf_R t n m 2 = true := fun g => rf_Q_d a g
      have q : rf_Q t n (m + 1) = true := rf_Q_iff.mpr (Or.inl a)
      rw [rf_k_t q, rf_k_t (P := fun i => rf_R t n i 1) a, rf_k_f (P := fun i => rf_R t n i 2) b]
      omega
    · by_cases b : rf_R t n m 2 = true
      · have q : rf_Q t n (m + 1) = true := rf_Q_iff.mpr (Or.inr ⟨by omega, b⟩)
        rw [rf_k_t q, rf_k_f (P := fun i => rf_R t n i 1) a, rf_k_t (P := fun i => rf_R t n i 2) b]
        omega
      · have q : ¬ rf_Q t n (m + 1) = true := fun z => by
          rcases rf_Q_iff.mp z with h | ⟨-, h⟩
          · exact a h
          · exact b h
        rw [rf_k_f q, rf_k_f (P := fun i => rf_R t n i 1) a, rf_k_f (P := fun i => rf_R t n i 2) b]
        omega
theorem rf_12 {t : Nat → Int32} {n : Nat} (hn : n ≤ 48) : rf_k (fun i => rf_R t n i 1) 48 + rf_k (fun i => rf_R t n i 2) 48 ≤ 24 := by
  have e1 : rf_k (fun i => rf_R t n i 1) 48 = rf_k (fun i => rf_R t n i 1) 47 := rf_k_d (by omega) fun x h1 h2 h3 => by
    have := rf_R1 h3
    omega
  have e2 : rf_k (fun i => rf_R t n i 2) 48 = rf_k (fun i => rf_R t n i 2) 46 := rf_k_d (by omega) fun x h1 h2 h3 => by
    have := rf_R1 h3
    omega
  have h := rf_sp (rf_Q t n) 2 (by omega) (fun a b hab ha hb => rf_Q_sp hab ha hb) 47 _ (Nat.le_refl _)
  have g : rf_k (fun i => rf_R t n i 1) 47 + rf_k (fun i => rf_R t n i 2) 46 = rf_k (rf_Q t n) 47 := rf_Q_n t n 46
  rw [e1, e2]
  omega
theorem rf_b48 (t : Nat → Int32) {n : Nat} (hn : n ≤ 48) : rf_n t n (24 * 48) ≤ 93 := by
  rw [rf_n_sum]
  have c := rf_12 (t := t) hn
  have h3 := rf_cp (t := t) hn 3 (by omega) (by omega)
  have h4 := rf_cp (t := t) hn 4 (by omega) (by omega)
  have h5 := rf_cp (t := t) hn 5 (by omega) (by omega)
  have h6 := rf_cp (t := t) hn 6 (by omega) (by omega)
  have h7 := rf_cp (t := t) hn 7 (by omega) (by omega)
  have h8 := rf_cp (t := t) hn 8 (by omega) (by omega)
  have h9 := rf_cp (t := t) hn 9 (by omega) (by omega)
  have h10 := rf_cp (t := t) hn 10 (by omega) (by omega)
  have h11 := rf_cp (t := t) hn 11 (by omega) (by omega)
  have h12 := rf_cp (t := t) hn 12 (by omega) (by omega)
  have h13 := rf_cp (t := t) hn 13 (by omega) (by omega)
  have h14 := rf_cp (t := t) hn 14 (by omega) (by omega)
  have h15 := rf_cp (t := t) hn 15 (by omega) (by omega)
  have h16 := rf_cp (t := t) hn 16 (by omega) (by omega)
  have h17 := rf_cp (t := t) hn 17 (by omega) (by omega)
  have h18 := rf_cp (t := t) hn 18 (by omega) (by omega)
  have h19 := rf_cp (t := t) hn 19 (by omega) (by omega)
  have h20 := rf_cp (t := t) hn 20 (by omega) (by omega)
  have h21 := rf_cp (t := t) hn 21 (by omega) (by omega)
  have h22 := rf_cp (t := t) hn 22 (by omega) (by omega)
  have h23 := rf_cp (t := t) hn 23 (by omega) (by omega)
  have h24 := rf_cp (t := t) hn 24 (by omega) (by omega)
  simp only [rf_u, Nat.reduceAdd]
  omega
theorem rf_b (t : Nat → Int32) {n s : Nat} (hn : n ≤ 48) (hs : s ≤ 24 * 48) : rf_n t n s ≤ 93 := Nat.le_trans (rf_n_m t n hs) (rf_b48 t hn)
