section
theorem pk_us {f : Nat → Int32} {k : Nat} {x : Int32} : upd f k x k = x := if_pos rfl
theorem pk_un {f : Nat → Int32} {k j : Nat} {x : Int32} (h : j ≠ k) : upd f k x j = f j := if_neg h
theorem pk_sub {a b : Nat} (h : b ≤ a) : nI a - nI b = nI (a - b) := by
  obtain ⟨c, rfl⟩ : ∃ c, a = c + b := ⟨a - b, by omega⟩
  rw [← nI_add, Int32.add_sub_cancel, Nat.add_sub_cancel]
theorem pk_mul (a b : Nat) : nI a * nI b = nI (a * b) := (Int32.ofNat_mul a b).symm
theorem pk_div {a d : Nat} (ha : a < 2 ^ 31) (h0 : 0 < d) (hd : d < 2 ^ 31) : nI a / nI d = nI (a / d) := by
  apply Int32.toInt_inj.mp
  rw [lg_idiv_nonneg (by rw [nI_toInt ha]; omega) (by rw [nI_toInt hd]; omega), nI_toInt ha, nI_toInt hd, nI_toInt (Nat.lt_of_le_of_lt (Nat.div_le_self a d) ha)]
  first | rfl | exact (Int.natCast_ediv _ _).symm
theorem pk_rem {a d : Nat} (ha : a < 2 ^ 31) (h0 : 0 < d) (hd : d < 2 ^ 31) : nI a - nI a / nI d * nI d = nI (a % d) := by
  rw [pk_div ha h0 hd, pk_mul, pk_sub (Nat.div_mul_le_self a d)]
  exact congrArg nI (by have := Nat.div_add_mod' a d; omega)
theorem pk_ix (x : Int32) {n : Nat} (hn : n < 2 ^ 31) : x < 0 ∨ nI n ≤ x ∨ ∃ j : Nat, j < n ∧ x = nI j := by
  by_cases h : x < 0
  · exact Or.inl h
  · obtain ⟨j, hj, rfl⟩ := nI_of h
    by_cases h2 : j < n
    · exact Or.inr (Or.inr ⟨j, h2, rfl⟩)
    · exact Or.inr (Or.inl (nI_le (by omega) hj))
theorem pk_le {x y : Int32} {A B : Prop} (a b : Nat) (f : a ≤ b → A) (g : b < a → B) (hx : x = nI a := by rfl) (hy : y = nI b := by rfl) (ha : a < 2 ^ 31 := by omega) (hb : b < 2 ^ 31 := by omega) : (x ≤ y → A) ∧ (¬ x ≤ y → B) := by
  subst hx hy
  rw [nI_leI ha hb]
  exact ⟨f, fun z => g (by omega)⟩
theorem pk_lt {x y : Int32} {A B : Prop} (a b : Nat) (f : a < b → A) (g : b ≤ a → B) (hx : x = nI a := by rfl) (hy : y = nI b := by rfl) (ha : a < 2 ^ 31 := by omega) (hb : b < 2 ^ 31 := by omega) : (x < y → A) ∧ (¬ x < y → B) := by
  subst hx hy
  rw [nI_ltI ha hb]
  exact ⟨f, fun z => g (by omega)⟩
theorem pk_eq {x y : Int32} {A B : Prop} (a b : Nat) (f : a = b → A) (g : a ≠ b → B) (hx : x = nI a := by rfl) (hy : y = nI b := by rfl) (ha : a < 2 ^ 31 := by omega) (hb : b < 2 ^ 31 := by omega) : (x = y → A) ∧ (¬ x = y → B) := by
  subst hx hy
  rw [nI_eq ha hb]
  exact ⟨f, g⟩
theorem pk_in {x : Int32} (n N : Nat) (h : n < N) (hx : x = nI n := by rfl) (hN : N < 2 ^ 31 := by omega) : vp_in x N := by
  subst hx
  exact vp_in_nI h hN
theorem pk_cl {x : Int32} (n : Nat) (hx : x = nI n := by rfl) (h : n < 2 ^ 31 := by omega) : x.toNatClampNeg = n := by
  subst hx
  exact nI_clamp h
end
section
/-! the mathematics of texts: agreement, least period, runs -/
/-- how many symbols agree from i and from j on, of m at most -/
def rf_l (t : Nat → Int32) : Nat → Nat → Nat → Nat
  | 0, _, _ => 0
  | m + 1, i, j => if t i = t j then rf_l t m (i + 1) (j + 1) + 1 else 0
theorem rf_l_le (t : Nat → Int32) : ∀ m i j : Nat, rf_l t m i j ≤ m := by
  intro m
  induction m with
  | zero => intro i j; exact Nat.le_refl 0
  | succ m ih =>
    intro i j
    unfold rf_l
    split
    · have := ih (i + 1) (j + 1); omega
    · omega
theorem rf_l_ge (t : Nat → Int32) : ∀ m i j q : Nat, q ≤ rf_l t m i j ↔ (q ≤ m ∧ ∀ k, k < q → t (i + k) = t (j + k)) := by
  intro m
  induction m with
  | zero =>
    intro i j q
    constructor
    · intro h
      have h0 : q ≤ 0 := h
      exact ⟨h0, fun k hk => by omega⟩
    · intro h; exact h.1
  | succ m ih =>
    intro i j q
    unfold rf_l
    by_cases c : t i = t j
    · rw [if_pos c]
      cases q with
      | zero => exact ⟨fun _ => ⟨by omega, fun k hk => by omega⟩, fun _ => by omega⟩
      | succ q =>
        have h := ih (i + 1) (j + 1) q
        constructor
        · intro hq
          obtain ⟨h1, h2⟩ := h.mp (by omega)
          refine ⟨by omega, fun k hk => ?_⟩
          cases k with
          | zero => exact c
          | succ k =>
            have := h2 k (by omega)
            rw [show i + (k + 1) = i + 1 + k by omega, show j + (k + 1) = j + 1 + k by omega]
            exact this
        · intro hq
          have : q ≤ rf_l t m (i + 1) (j + 1) := h.mpr ⟨by omega, fun k hk => by
            have := hq.2 (k + 1) (by omega)
            rw [show i + 1 + k = i + (k + 1) by omega, show j + 1 + k = j + (k + 1) by omega]
            exact this⟩
          omega
    · rw [if_neg c]
      constructor
      · intro hq
        exact ⟨by omega, fun k hk => by omega⟩
      · intro hq
        cases q with
        | zero => omega
        | succ q => exact absurd (hq.2 0 (by omega)) c
/-- the text from i on agrees with itself p on, for m symbols -/
def rf_H (t : Nat → Int32) (i p m : Nat) : Prop := ∀ k, k < m → t (i + k) = t (i + p + k)
theorem rf_h {t : Nat → Int32} {i p m M : Nat} (h : m ≤ M) : m ≤ rf_l t M i (i + p) ↔ rf_H t i p m :=
  ⟨fun a => ((rf_l_ge t M i (i + p) m).mp a).2, fun a => (rf_l_ge t M i (i + p) m).mpr ⟨h, a⟩⟩
/-- the search for the least period of the piece of length e from i on: from p on, d steps at most -/
def rf_s (t : Nat → Int32) (i e : Nat) : Nat → Nat → Nat
  | 0, p => p
  | d + 1, p => if e - p ≤ rf_l t (e - p) i (i + p) then p else rf_s t i e d (p + 1)
def rf_P (t : Nat → Int32) (i e : Nat) : Nat := rf_s t i e (e - 1) 1
theorem rf_s_t {t : Nat → Int32} {i e d p : Nat} (h : rf_H t i p (e - p)) : rf_s t i e (d + 1) p = p := if_pos ((rf_h (Nat.le_refl _)).mpr h)
theorem rf_s_f {t : Nat → Int32} {i e d p : Nat} (h : ¬ rf_H t i p (e - p)) : rf_s t i e (d + 1) p = rf_s t i e d (p + 1) := if_neg (fun z => h ((rf_h (Nat.le_refl _)).mp z))
theorem rf_s_x (t : Nat → Int32) (i e : Nat) : ∀ d p : Nat, p + d = e → p ≤ rf_s t i e d p ∧ rf_s t i e d p ≤ e ∧ rf_H t i (rf_s t i e d p) (e - rf_s t i e d p) ∧ ∀ q, p ≤ q → q < rf_s t i e d p → ¬ rf_H t i q (e - q) := by
  intro d
  induction d with
  | zero =>
    intro p h
    have e0 : rf_s t i e 0 p = p := rfl
    rw [e0]
    exact ⟨Nat.le_refl _, by omega, fun k hk => by omega, fun q h1 h2 => by omega⟩
  | succ d ih =>
    intro p h
    by_cases c : rf_H t i p (e - p)
    · rw [rf_s_t c]
      exact ⟨Nat.le_refl _, by omega, c, fun q h1 h2 => by omega⟩
    · rw [rf_s_f c]
      obtain ⟨h1, h2, h3, h4⟩ := ih (p + 1) (by omega)
      refine ⟨by omega, h2, h3, fun q g1 g2 => ?_⟩
      by_cases z : q = p
      · rw [z]; exact c
      · exact h4 q (by omega) g2
theorem rf_P_x (t : Nat → Int32) (i e : Nat) (h : 1 ≤ e) : 1 ≤ rf_P t i e ∧ rf_P t i e ≤ e ∧ rf_H t i (rf_P t i e) (e - rf_P t i e) ∧ ∀ q, 1 ≤ q → q < rf_P t i e → ¬ rf_H t i q (e - q) := rf_s_x t i e (e - 1) 1 (by omega)
/-- how far the period p holds from i on -/
def rf_L (t : Nat → Int32) (n i p : Nat) : Nat := rf_l t (n - (i + p)) i (i + p)
/-- a run begins at i with period p -/
def rf_R (t : Nat → Int32) (n i p : Nat) : Bool := decide (i + 2 * p ≤ n ∧ p ≤ rf_L t n i p ∧ ¬ (0 < i ∧ t (i - 1) = t (i - 1 + p)) ∧ rf_P t i (p + rf_L t n i p) = p)
def rf_e (t : Nat → Int32) (n i p : Nat) : Nat := i + p + rf_L t n i p - 1
def rf_v (t : Nat → Int32) (n i p : Nat) : Int32 := if rf_R t n i p = true then nI (rf_e t n i p) else -1
theorem rf_R_iff {t : Nat → Int32} {n i p : Nat} : rf_R t n i p = true ↔ (i + 2 * p ≤ n ∧ p ≤ rf_L t n i p ∧ ¬ (0 < i ∧ t (i - 1) = t (i - 1 + p)) ∧ rf_P t i (p + rf_L t n i p) = p) := decide_eq_true_iff
theorem rf_L_le (t : Nat → Int32) (n i p : Nat) : rf_L t n i p ≤ n - (i + p) := rf_l_le t _ _ _
theorem rf_L_ge {t : Nat → Int32} {n i p m : Nat} (h : m ≤ n - (i + p)) : m ≤ rf_L t n i p ↔ rf_H t i p m := rf_h h
theorem rf_e_in {t : Nat → Int32} {n i p : Nat} (hp : 1 ≤ p) (h : rf_R t n i p = true) : i + 2 * p ≤ rf_e t n i p + 1 ∧ rf_e t n i p < n := by
  obtain ⟨h1, h2, -, -⟩ := rf_R_iff.mp h
  have := rf_L_le t n i p
  unfold rf_e
  omega
theorem rf_v_t {t : Nat → Int32} {n i p : Nat} (h : rf_R t n i p = true) : rf_v t n i p = nI (rf_e t n i p) := if_pos h
theorem rf_v_f {t : Nat → Int32} {n i p : Nat} (h : ¬ rf_R t n i p = true) : rf_v t n i p = -1 := if_neg h
theorem rf_R1 {t : Nat → Int32} {n i p : Nat} (h : rf_R t n i p = true) : i + 2 * p ≤ n := (rf_R_iff.mp h).1
theorem rf_R2 {t : Nat → Int32} {n i p : Nat} (h : rf_R t n i p = true) : rf_H t i p p := by
  obtain ⟨h1, h2, -, -⟩ := rf_R_iff.mp h
  exact (rf_L_ge (by omega)).mp h2
theorem rf_R3 {t : Nat → Int32} {n i p : Nat} (h : rf_R t n i p = true) (hi : 0 < i) : t (i - 1) ≠ t (i - 1 + p) := fun z => (rf_R_iff.mp h).2.2.1 ⟨hi, z⟩
/-- two runs of one period begin more than the period apart -/
theorem rf_R4 {t : Nat → Int32} {n p a b : Nat} (ha : rf_R t n a p = true) (hb : rf_R t n b p = true) (h : a < b) : a + (p + 1) ≤ b := by
  refine Decidable.byContradiction fun z => ?_
  have h1 := rf_R2 ha (b - 1 - a) (by omega)
  rw [show a + (b - 1 - a) = b - 1 by omega, show a + p + (b - 1 - a) = b - 1 + p by omega] at h1
  exact rf_R3 hb (by omega) h1
theorem rf_R5 {t : Nat → Int32} {n i : Nat} (h : rf_R t n i 2 = true) : t i ≠ t (i + 1) := by
  intro z
  obtain ⟨h1, h2, -, h4⟩ := rf_R_iff.mp h
  have hH : rf_H t i 2 (rf_L t n i 2) := (rf_L_ge (rf_L_le t n i 2)).mp (Nat.le_refl _)
  have hx := (rf_P_x t i (2 + rf_L t n i 2) (by omega)).2.2.2 1 (by omega) (by omega)
  have all : ∀ k, k < rf_L t n i 2 + 1 → t (i + k) = t i ∧ t (i + (k + 1)) = t i := by
    intro k
    induction k with
    | zero => intro _; exact ⟨rfl, z.symm⟩
    | succ k ih =>
      intro hk
      obtain ⟨a, b⟩ := ih (by omega)
      refine ⟨b, ?_⟩
      have := hH k (by omega)
      rw [show i + (k + 1 + 1) = i + 2 + k by omega, ← this]
      exact a
  refine hx fun k hk => ?_
  obtain ⟨a, b⟩ := all k (by omega)
  rw [a, show i + 1 + k = i + (k + 1) by omega, b]
theorem rf_R6 {t : Nat → Int32} {n i : Nat} (h : rf_R t n i 2 = true) : t i ≠ t (i + 1) ∧ t (i + 1) ≠ t (i + 2) ∧ t (i + 2) ≠ t (i + 3) := by
  have h1 := rf_R5 h
  have a := rf_R2 h 0 (by omega)
  have b := rf_R2 h 1 (by omega)
  have a' : t i = t (i + 2) := a
  have b' : t (i + 1) = t (i + 3) := b
  refine ⟨h1, ?_, ?_⟩
  · rw [← a']; exact h1.symm
  · rw [← a', ← b']; exact h1
theorem rf_R7 {t : Nat → Int32} {n i : Nat} (h : rf_R t n i 1 = true) : t i = t (i + 1) := rf_R2 h 0 (by omega)
end
section
/-! counting: at most 93 runs -/
def rf_k (P : Nat → Bool) : Nat → Nat
  | 0 => 0
  | m + 1 => rf_k P m + if P m = true then 1 else 0
theorem rf_k_t {P : Nat → Bool} {m : Nat} (h : P m = true) : rf_k P (m + 1) = rf_k P m + 1 := by
  show rf_k P m + (if P m = true then 1 else 0) = _
  rw [if_pos h]
theorem rf_k_f {P : Nat → Bool} {m : Nat} (h : ¬ P m = true) : rf_k P (m + 1) = rf_k P m := by
  show rf_k P m + (if P m = true then 1 else 0) = _
  rw [if_neg h]; rfl
theorem rf_k_c {P : Nat → Bool} {a : Nat} : ∀ d : Nat, (∀ x, a ≤ x → x < a + d → ¬ P x = true) → rf_k P (a + d) = rf_k P a := by
  intro d
  induction d with
  | zero => intro _; rfl
  | succ d ih =>
    intro h
    have e : rf_k P (a + d + 1) = rf_k P (a + d) := rf_k_f (h (a + d) (by omega) (by omega))
    exact e.trans (ih fun x h1 h2 => h x h1 (by omega))
theorem rf_k_d {P : Nat → Bool} {a b : Nat} (hab : a ≤ b) (h : ∀ x, a ≤ x → x < b → ¬ P x = true) : rf_k P b = rf_k P a := by
  obtain ⟨d, rfl⟩ : ∃ d, b = a + d := ⟨b - a, by omega⟩
  exact rf_k_c d h
theorem rf_k_m (P : Nat → Bool) {a b : Nat} (hab : a ≤ b) : rf_k P a ≤ rf_k P b := by
  obtain ⟨d, rfl⟩ : ∃ d, b = a + d := ⟨b - a, by omega⟩
  clear hab
  induction d with
  | zero => exact Nat.le_refl _
  | succ d ih =>
    have : rf_k P (a + d + 1) = rf_k P (a + d) + (if P (a + d) = true then 1 else 0) := rfl
    have e : a + (d + 1) = a + d + 1 := rfl
    rw [e]
    omega
/-- true at distances of d at least: few times -/
theorem rf_sp (P : Nat → Bool) (d : Nat) (hd : 1 ≤ d) (h : ∀ a b, a < b → P a = true → P b = true → a + d ≤ b) : ∀ m N, m ≤ N → rf_k P m * d + 1 ≤ m + d := by
  have key : ∀ N m, m ≤ N → rf_k P m * d + 1 ≤ m + d := by
    intro N
    induction N with
    | zero =>
      intro m hm
      have e : m = 0 := by omega
      subst e
      have e0 : rf_k P 0 = 0 := rfl
      rw [e0, Nat.zero_mul]; omega
    | succ N ih =>
      intro m hm
      cases m with
      | zero =>
        have e0 : rf_k P 0 = 0 := rfl
        rw [e0, Nat.zero_mul]; omega
      | succ m =>
        by_cases c : P m = true
        · rw [rf_k_t c, Nat.add_mul, Nat.one_mul]
          by_cases z : m + 1 ≤ d
          · have e0 : rf_k P m = 0 := (rf_k_d (a := 0) (by omega) fun x _ hx px => by have := h x m hx px c; omega).trans rfl
            rw [e0, Nat.zero_mul]; omega
          · have e0 : rf_k P m = rf_k P (m + 1 - d) := rf_k_d (by omega) fun x h1 hx px => by have := h x m hx px c; omega
            have := ih (m + 1 - d) (by omega)
            rw [e0]; omega
        · rw [rf_k_f c]
          have := ih m (by omega)
          omega
  exact fun m N hm => key N m hm
def rf_u (f : Nat → Nat) : Nat → Nat
  | 0 => 0
  | k + 1 => rf_u f k + f k
theorem rf_u_add (f g h : Nat → Nat) : ∀ k, (∀ q, q < k → h q = f q + g q) → rf_u h k = rf_u f k + rf_u g k := by
  intro k
  induction k with
  | zero => intro _; rfl
  | succ k ih =>
    intro e
    have h1 := ih fun q hq => e q (by omega)
    have h2 := e k (by omega)
    show rf_u h k + h k = rf_u f k + f k + (rf_u g k + g k)
    omega
/-- the slot s holds a run -/
def rf_S (t : Nat → Int32) (n s : Nat) : Bool := rf_R t n (s / 24) (s % 24 + 1)
/-- how many slots ahead of s hold one -/
def rf_n (t : Nat → Int32) (n s : Nat) : Nat := rf_k (rf_S t n) s
theorem rf_n_t {t : Nat → Int32} {n s : Nat} (h : rf_S t n s = true) : rf_n t n (s + 1) = rf_n t n s + 1 := rf_k_t h
theorem rf_n_f {t : Nat → Int32} {n s : Nat} (h : ¬ rf_S t n s = true) : rf_n t n (s + 1) = rf_n t n s := rf_k_f h
theorem rf_n_m (t : Nat → Int32) (n : Nat) {a b : Nat} (h : a ≤ b) : rf_n t n a ≤ rf_n t n b := rf_k_m _ h
theorem rf_n_row (t : Nat → Int32) (n m : Nat) : ∀ k, k ≤ 24 → rf_n t n (24 * m + k) = rf_n t n (24 * m) + rf_u (fun q => if rf_R t n m (q + 1) = true then 1 else 0) k := by
  intro k
  induction k with
  | zero => intro _; rfl
  | succ k ih =>
    intro hk
    have h := ih (by omega)
    have e : rf_n t n (24 * m + (k + 1)) = rf_n t n (24 * m + k) + (if rf_S t n (24 * m + k) = true then 1 else 0) := rfl
    have es : rf_S t n (24 * m + k) = rf_R t n m (k + 1) := by
      unfold rf_S
      rw [show (24 * m + k) / 24 = m by omega, show (24 * m + k) % 24 = k by omega]
    rw [e, h, es]
    exact Nat.add_assoc _ _ _
theorem rf_n_sum (t : Nat → Int32) (n : Nat) : ∀ m, rf_n t n (24 * m) = rf_u (fun q => rf_k (fun i => rf_R t n i (q + 1)) m) 24 := by
  intro m
  induction m with
  | zero => rfl
  | succ m ih =>
    have h := rf_n_row t n m 24 (Nat.le_refl _)
    rw [show 24 * (m + 1) = 24 * m + 24 by omega, h, ih]
    exact (rf_u_add _ _ _ 24 fun q _ => rfl).symm
theorem rf_cp {t : Nat → Int32} {n : Nat} (hn : n ≤ 48) (p : Nat) (hp : 1 ≤ p) (hq : p ≤ 24) : rf_k (fun i => rf_R t n i p) 48 * (p + 1) + p ≤ 49 := by
  have e : rf_k (fun i => rf_R t n i p) 48 = rf_k (fun i => rf_R t n i p) (49 - 2 * p) := rf_k_d (by omega) fun x h1 h2 h3 => by
    have := rf_R1 h3
    omega
  have h := rf_sp (fun i => rf_R t n i p) (p + 1) (by omega) (fun a b hab ha hb => rf_R4 ha hb hab) (49 - 2 * p) _ (Nat.le_refl _)
  rw [e]
  omega
/-- runs of period 1, and those of period 2 one place on -/
def rf_Q (t : Nat → Int32) (n k : Nat) : Bool := rf_R t n k 1 || (decide (0 < k) && rf_R t n (k - 1) 2)
theorem rf_Q_iff {t : Nat → Int32} {n k : Nat} : rf_Q t n k = true ↔ (rf_R t n k 1 = true ∨ (0 < k ∧ rf_R t n (k - 1) 2 = true)) := by
  unfold rf_Q
  rw [Bool.or_eq_true, Bool.and_eq_true, decide_eq_true_iff]
theorem rf_Q_sp {t : Nat → Int32} {n a b : Nat} (hab : a < b) (ha : rf_Q t n a = true) (hb : rf_Q t n b = true) : a + 2 ≤ b := by
  refine Decidable.byContradiction fun z => ?_
  have e : b = a + 1 := by omega
  subst e
  rcases rf_Q_iff.mp ha with h1 | ⟨h0, h1⟩
  · rcases rf_Q_iff.mp hb with g1 | ⟨g0, g1⟩
    · have := rf_R4 h1 g1 (by omega); omega
    · exact (rf_R6 g1).1 (rf_R7 h1)
  · rcases rf_Q_iff.mp hb with g1 | ⟨g0, g1⟩
    · have x := (rf_R6 h1).2.2
      rw [show a - 1 + 2 = a + 1 by omega, show a - 1 + 3 = a + 1 + 1 by omega] at x
      exact x (rf_R7 g1)
    · have := rf_R4 h1 g1 (by omega); omega
theorem rf_Q_d {t : Nat → Int32} {n k : Nat} (h : rf_R t n (k + 1) 1 = true) (g : rf_R t n k 2 = true) : False := (rf_R6 g).2.1 (rf_R7 h)
theorem rf_Q_n (t : Nat → Int32) (n : Nat) : ∀ m, rf_k (fun i => rf_R t n i 1) (m + 1) + rf_k (fun i => rf_R t n i 2) m = rf_k (rf_Q t n) (m + 1) := by
  intro m
  induction m with
  | zero =>
    have e : rf_Q t n 0 = rf_R t n 0 1 := by
      unfold rf_Q
      rw [decide_eq_false (by omega), Bool.false_and, Bool.or_false]
    show (0 + if rf_R t n 0 1 = true then 1 else 0) + 0 = (0 + if rf_Q t n 0 = true then 1 else 0)
    rw [e]; rfl
  | succ m ih =>
    by_cases a : rf_R t n (m + 1) 1 = true
    · have b : ¬ rf_R t n m 2 = true := fun g => rf_Q_d a g
      have q : rf_Q t n (m + 1) = true := rf_Q_iff.mpr (Or.inl a)
      rw [rf_k_t q, rf_k_t (P := fun i => rf_R t n i 1) a, rf_k_f (P := fun i => rf_R t n i 2) b]
      omega
    · by_cases b : rf_R t n m 2 = true
      · have q : rf_Q t n (m + 1) = true := rf_Q_iff.mpr (Or.inr ⟨by omega, b⟩)
        rw [rf_k_t q, rf_k_f (P := fun i => rf_R t n i 1) a, rf_k_t (P := fun i => rf_R t n i 2) b]
        omega
      · have q : ¬ rf_Q t n (m + 1) = true := fun z => by
          rcases rf_Q_iff.mp z with h | ⟨-, h⟩
          · exact a h
          · exact b h
        rw [rf_k_f q, rf_k_f (P := fun i => rf_R t n i 1) a, rf_k_f (P := fun i => rf_R t n i 2) b]
        omega
theorem rf_12 {t : Nat → Int32} {n : Nat} (hn : n ≤ 48) : rf_k (fun i => rf_R t n i 1) 48 + rf_k (fun i => rf_R t n i 2) 48 ≤ 24 := by
  have e1 : rf_k (fun i => rf_R t n i 1) 48 = rf_k (fun i => rf_R t n i 1) 47 := rf_k_d (by omega) fun x h1 h2 h3 => by
    have := rf_R1 h3
    omega
  have e2 : rf_k (fun i => rf_R t n i 2) 48 = rf_k (fun i => rf_R t n i 2) 46 := rf_k_d (by omega) fun x h1 h2 h3 => by
    have := rf_R1 h3
    omega
  have h := rf_sp (rf_Q t n) 2 (by omega) (fun a b hab ha hb => rf_Q_sp hab ha hb) 47 _ (Nat.le_refl _)
  have g : rf_k (fun i => rf_R t n i 1) 47 + rf_k (fun i => rf_R t n i 2) 46 = rf_k (rf_Q t n) 47 := rf_Q_n t n 46
  rw [e1, e2]
  omega
theorem rf_b48 (t : Nat → Int32) {n : Nat} (hn : n ≤ 48) : rf_n t n (24 * 48) ≤ 93 := by
  rw [rf_n_sum]
  have c := rf_12 (t := t) hn
  have h3 := rf_cp (t := t) hn 3 (by omega) (by omega)
  have h4 := rf_cp (t := t) hn 4 (by omega) (by omega)
  have h5 := rf_cp (t := t) hn 5 (by omega) (by omega)
  have h6 := rf_cp (t := t) hn 6 (by omega) (by omega)
  have h7 := rf_cp (t := t) hn 7 (by omega) (by omega)
  have h8 := rf_cp (t := t) hn 8 (by omega) (by omega)
  have h9 := rf_cp (t := t) hn 9 (by omega) (by omega)
  have h10 := rf_cp (t := t) hn 10 (by omega) (by omega)
  have h11 := rf_cp (t := t) hn 11 (by omega) (by omega)
  have h12 := rf_cp (t := t) hn 12 (by omega) (by omega)
  have h13 := rf_cp (t := t) hn 13 (by omega) (by omega)
  have h14 := rf_cp (t := t) hn 14 (by omega) (by omega)
  have h15 := rf_cp (t := t) hn 15 (by omega) (by omega)
  have h16 := rf_cp (t := t) hn 16 (by omega) (by omega)
  have h17 := rf_cp (t := t) hn 17 (by omega) (by omega)
  have h18 := rf_cp (t := t) hn 18 (by omega) (by omega)
  have h19 := rf_cp (t := t) hn 19 (by omega) (by omega)
  have h20 := rf_cp (t := t) hn 20 (by omega) (by omega)
  have h21 := rf_cp (t := t) hn 21 (by omega) (by omega)
  have h22 := rf_cp (t := t) hn 22 (by omega) (by omega)
  have h23 := rf_cp (t := t) hn 23 (by omega) (by omega)
  have h24 := rf_cp (t := t) hn 24 (by omega) (by omega)
  simp only [rf_u, Nat.reduceAdd]
  omega
theorem rf_b (t : Nat → Int32) {n s : Nat} (hn : n ≤ 48) (hs : s ≤ 24 * 48) : rf_n t n s ≤ 93 := Nat.le_trans (rf_n_m t n hs) (rf_b48 t hn)
end
section
/-! the component's own methods, each against its pure value -/
theorem rx_2 (i p : Nat) : nI i + 2 * nI p = nI (i + 2 * p) := by
  rw [show (2 : Int32) = nI 2 from rfl, pk_mul, nI_add]
theorem rx_good {n j : Nat} (hn : n ≤ 48) (hj : j < n) {t : Nat → Int32} {post : Int32 → Prop} (h : post 1) : wpX_isGood post (nI n, t) (nI j) :=
  br_f (nI_pos (by omega)) (br_f (nI_ge hj (by omega)) h)
theorem rx_sb22 {t : Nat → Int32} {n i j m : Nat} (hn : n ≤ 48) (hi : i + m ≤ n) (hj : j + m ≤ n) (post : Int32 → Prop) : ∀ d k : Nat, k + d = m → post (nI (k + rf_l t d (i + k) (j + k))) → ∀ f, d < f → wX_sharedBeginning_22 post (nI i) (nI j) (nI m) (nI n) t f (nI k) := by
  intro d
  induction d with
  | zero =>
    intro k hk hp f hf
    obtain ⟨f, rfl⟩ : ∃ g, f = g + 1 := ⟨f - 1, by omega⟩
    have e : k = m := by omega
    subst e
    exact br_t (nI_le (Nat.le_refl _) (by omega)) hp
  | succ d ih =>
    intro k hk hp f hf
    obtain ⟨f, rfl⟩ : ∃ g, f = g + 1 := ⟨f - 1, by omega⟩
    have e1 : (nI i + nI k).toNatClampNeg = i + k := pk_cl (i + k) (nI_add i k)
    have e2 : (nI j + nI k).toNatClampNeg = j + k := pk_cl (j + k) (nI_add j k)
    refine br_f (nI_ge (by omega) (by omega)) ⟨pk_in (i + k) 48 (by omega) (nI_add i k), pk_in (j + k) 48 (by omega) (nI_add j k), ?_⟩
    rw [e1, e2]
    by_cases c : t (i + k) = t (j + k)
    · refine br_t c (nm_r (nI_1 k) (ih (k + 1) (by omega) ?_ f (by omega)))
      have e : rf_l t (d + 1) (i + k) (j + k) = rf_l t d (i + k + 1) (j + k + 1) + 1 := if_pos c
      rw [e] at hp
      rw [show k + 1 + rf_l t d (i + (k + 1)) (j + (k + 1)) = k + (rf_l t d (i + k + 1) (j + k + 1) + 1) by
        rw [show i + (k + 1) = i + k + 1 by omega, show j + (k + 1) = j + k + 1 by omega]; omega]
      exact hp
    · refine br_f c ?_
      have e : rf_l t (d + 1) (i + k) (j + k) = 0 := if_neg c
      rw [e] at hp
      exact hp
theorem rx_sb {t : Nat → Int32} {n i j : Nat} (hn : n ≤ 48) (hij : i ≤ j) (hj : j ≤ n) {post : Int32 → Prop} (h : post (nI (rf_l t (n - j) i j))) : wpX_sharedBeginning post (nI n, t) (nI i) (nI j) := by
  refine br_t (nI_le hij (by omega)) (nm_r (pk_sub hj) ⟨n - j + 1, ?_⟩)
  refine rx_sb22 hn (by omega) (by omega) post (n - j) 0 (by omega) ?_ _ (by omega)
  rw [Nat.zero_add]
  exact h
theorem rx_sb' {t : Nat → Int32} {n i j : Nat} (hn : n ≤ 48) (hij : j < i) (hi : i ≤ n) {post : Int32 → Prop} (h : post (nI (rf_l t (n - i) i j))) : wpX_sharedBeginning post (nI n, t) (nI i) (nI j) := by
  refine br_f (nI_ge hij (by omega)) (nm_r (pk_sub hi) ⟨n - i + 1, ?_⟩)
  refine rx_sb22 hn (by omega) (by omega) post (n - i) 0 (by omega) ?_ _ (by omega)
  rw [Nat.zero_add]
  exact h
theorem rx_sq {t : Nat → Int32} {n i p : Nat} (hn : n ≤ 48) (hi : i ≤ 48) (hp : p ≤ 24) {post : Int32 → Prop} (h1 : i + 2 * p ≤ n → p ≤ rf_L t n i p → post 1) (h0 : ¬ (i + 2 * p ≤ n ∧ p ≤ rf_L t n i p) → post 0) : wpX_isSquare post (nI n, t) (nI i) (nI p) := by
  refine pk_lt n (i + 2 * p) (fun h => h0 fun z => by omega) (fun h => ?_) rfl (rx_2 i p) (by omega) (by omega)
  rw [nI_add]
  refine rx_sb hn (by omega) (by omega) ?_
  have hl := rf_l_le t (n - (i + p)) i (i + p)
  exact pk_lt (rf_l t (n - (i + p)) i (i + p)) p (fun z => h0 fun y => by have := y.2; unfold rf_L at this; omega) (fun z => h1 h z) rfl rfl (by omega) (by omega)
theorem rx_lp9 {t : Nat → Int32} {n i e : Nat} (hn : n ≤ 48) (hi : i + e ≤ n) (post : Int32 → Prop) : ∀ d p : Nat, p + d = e → post (nI (rf_s t i e d p)) → ∀ f, d < f → wX_leastPeriod_9 post (nI i) (nI e) (nI n) t f (nI p) := by
  intro d
  induction d with
  | zero =>
    intro p hp h f hf
    obtain ⟨f, rfl⟩ : ∃ g, f = g + 1 := ⟨f - 1, by omega⟩
    have e0 : p = e := by omega
    subst e0
    exact br_t (nI_le (Nat.le_refl _) (by omega)) h
  | succ d ih =>
    intro p hp h f hf
    obtain ⟨f, rfl⟩ : ∃ g, f = g + 1 := ⟨f - 1, by omega⟩
    refine br_f (nI_ge (by omega) (by omega)) ?_
    rw [nI_add]
    refine rx_sb hn (by omega) (by omega) ?_
    have hl := rf_l_le t (n - (i + p)) i (i + p)
    have hh : e - p ≤ rf_l t (n - (i + p)) i (i + p) ↔ rf_H t i p (e - p) := rf_h (by omega)
    refine pk_lt (rf_l t (n - (i + p)) i (i + p)) (e - p) (fun z => ?_) (fun z => ?_) rfl (pk_sub (by omega)) (by omega) (by omega)
    · refine nm_r (nI_1 p) (ih (p + 1) (by omega) ?_ f (by omega))
      rw [rf_s_f (fun y => by have := hh.mpr y; omega)] at h
      exact h
    · rw [rf_s_t (hh.mp z)] at h
      exact h
theorem rx_lp {t : Nat → Int32} {n i j e : Nat} (hn : n ≤ 48) (he : 1 ≤ e) (hj : j + 1 = i + e) (hi : i + e ≤ n) {post : Int32 → Prop} (h : post (nI (rf_P t i e))) : wpX_leastPeriod post (nI n, t) (nI i) (nI j) := by
  refine nm_r (e' := nI e) ?_ ⟨e, ?_⟩
  · rw [pk_sub (by omega), nI_1]
    exact congrArg nI (by omega)
  · exact rx_lp9 hn hi post (e - 1) 1 (by omega) h e (by omega)
theorem rx_last50 {t : Nat → Int32} {n i p : Nat} (hn : n ≤ 48) (hp : 1 ≤ p) (h1 : i + 2 * p ≤ n) (h2 : p ≤ rf_L t n i p) (h3 : ¬ (0 < i ∧ t (i - 1) = t (i - 1 + p))) {post : Int32 → Prop} (h : post (rf_v t n i p)) : wX_lastOfRun_50 post (nI i) (nI p) (nI n) t := by
  unfold wX_lastOfRun_50
  rw [nI_add]
  refine rx_sb hn (by omega) (by omega) ?_
  have hl := rf_L_le t n i p
  show ∀ x, x = nI (i + p) + nI (rf_L t n i p) - 1 → _
  refine nm_r (e' := nI (rf_e t n i p)) ?_ ?_
  · rw [nI_add, show (1 : Int32) = nI 1 from rfl, pk_sub (by omega)]; rfl
  · refine rx_lp (e := p + rf_L t n i p) hn (by omega) (by unfold rf_e; omega) (by omega) ?_
    have hx := rf_P_x t i (p + rf_L t n i p) (by omega)
    refine pk_eq (rf_P t i (p + rf_L t n i p)) p (fun z => ?_) (fun z => ?_) rfl rfl (by omega) (by omega)
    · rw [rf_v_t (rf_R_iff.mpr ⟨h1, h2, h3, z⟩)] at h
      exact h
    · rw [rf_v_f (fun y => z (rf_R_iff.mp y).2.2.2)] at h
      exact h
theorem rx_start {t : Nat → Int32} {n s : Nat} (hs : s < 2 ^ 31) {post : Int32 → Prop} (h : post (nI (s / 24))) : wpX_startOfSlot post (nI n, t) (nI s) := by
  refine ⟨by decide, ?_⟩
  rw [show (24 : Int32) = nI 24 from rfl, pk_div hs (by omega) (by omega)]
  exact h
theorem rx_period {t : Nat → Int32} {n s : Nat} (hs : s < 2 ^ 31) {post : Int32 → Prop} (h : post (nI (s % 24 + 1))) : wpX_periodOfSlot post (nI n, t) (nI s) := by
  refine ⟨by decide, ?_⟩
  rw [show (24 : Int32) = nI 24 from rfl, pk_rem hs (by omega) (by omega), nI_1]
  exact h
theorem rx_last {t : Nat → Int32} {n s : Nat} (hn : n ≤ 48) (hs : s < 24 * n) {post : Int32 → Prop} (h : post (rf_v t n (s / 24) (s % 24 + 1))) : wpX_lastOfRun post (nI n, t) (nI s) := by
  unfold wpX_lastOfRun
  dsimp only
  refine rx_start (by omega) ?_
  refine rx_period (by omega) ?_
  have hi : s / 24 < n := by omega
  have hp : s % 24 + 1 ≤ 24 := by omega
  have hp1 : 1 ≤ s % 24 + 1 := by omega
  generalize s / 24 = i at h hi
  generalize s % 24 + 1 = p at h hp hp1
  refine rx_sq hn (by omega) hp (fun h1 h2 => ?_) (fun z => ?_)
  · refine br_f (by decide) ?_
    refine pk_le i 0 (fun z => ?_) (fun z => ?_) rfl rfl (by omega) (by omega)
    · exact rx_last50 hn hp1 h1 h2 (fun y => by omega) h
    · have e1 : nI i - 1 = nI (i - 1) := by rw [show (1 : Int32) = nI 1 from rfl, pk_sub (by omega)]
      rw [e1, nI_add, nI_clamp (by omega), nI_clamp (by omega)]
      refine ⟨vp_in_nI (by omega) (by omega), vp_in_nI (by omega) (by omega), br_c (fun c => ?_) (fun c => ?_)⟩
      · rw [rf_v_f (fun y => (rf_R_iff.mp y).2.2.1 ⟨z, c⟩)] at h
        exact h
      · exact rx_last50 hn hp1 h1 h2 (fun y => c y.2) h
  · refine br_t rfl ?_
    rw [rf_v_f (fun y => z ⟨(rf_R_iff.mp y).1, (rf_R_iff.mp y).2.1⟩)] at h
    exact h
end
section
/-! the reference's own methods, each against its pure value -/
section
variable {t : Nat → Int32} {n : Nat} {fd : Int32} {cp fi la le : Nat → Int32}
theorem ry_good {j : Nat} (hn : n ≤ 48) (hj : j < n) {post : Int32 → Prop} (h : post 0) : wpY_bad post (nI n, fd, t, cp, fi, la, le) (nI j) :=
  br_f (nI_pos (by omega)) (br_f (nI_ge hj (by omega)) (br_t (nI_lt (b := 48) (by omega) (by omega)) h))
theorem ry_hp14 {i j e p : Nat} (he : j + 1 = i + e) (hi : i + e ≤ 48) (hp : p ≤ 48) (post : Int32 → Prop) (h1 : rf_H t i p (e - p) → post 1) (h0 : ¬ rf_H t i p (e - p) → post 0) : ∀ d a : Nat, a + d = e → (∀ k, k < a → t (i + k) = t (i + p + k)) → ∀ f, d < f → wY_hasPeriod_14 post (nI j) (nI p) (nI n) fd t cp fi la le f (nI (i + a)) := by
  intro d
  induction d with
  | zero =>
    intro a ha H f hf
    obtain ⟨f, rfl⟩ : ∃ g, f = g + 1 := ⟨f - 1, by omega⟩
    refine pk_lt j (i + a + p) (fun _ => h1 fun k hk => H k (by omega)) (fun z => ?_) rfl (nI_add _ _) (by omega) (by omega)
    omega
  | succ d ih =>
    intro a ha H f hf
    obtain ⟨f, rfl⟩ : ∃ g, f = g + 1 := ⟨f - 1, by omega⟩
    refine pk_lt j (i + a + p) (fun _ => h1 fun k hk => H k (by omega)) (fun z => ?_) rfl (nI_add _ _) (by omega) (by omega)
    refine pk_le 48 (i + a + p) (fun y => by omega) (fun y => ?_) rfl (nI_add _ _) (by omega) (by omega)
    rw [nI_add, nI_clamp (by omega), nI_clamp (by omega)]
    refine ⟨vp_in_nI (by omega) (by omega), vp_in_nI (by omega) (by omega), br_c (fun c => ?_) (fun c => ?_)⟩
    · refine nm_r (nI_1 (i + a)) ?_
      refine ih (a + 1) (by omega) (fun k hk => ?_) f (by omega)
      by_cases q : k = a
      · rw [q, c, show i + a + p = i + p + a by omega]
      · exact H k (by omega)
    · refine h0 fun y => c ?_
      rw [show i + a + p = i + p + a by omega]
      exact y a (by omega)
theorem ry_hp {i j e p : Nat} (he : j + 1 = i + e) (hi : i + e ≤ 48) (hp : p ≤ 48) {post : Int32 → Prop} (h1 : p ≤ e → rf_H t i p (e - p) → post 1) (h0 : ¬ (p ≤ e ∧ rf_H t i p (e - p)) → post 0) (he1 : 1 ≤ e) : wpY_hasPeriod post (nI n, fd, t, cp, fi, la, le) (nI i) (nI j) (nI p) := by
  refine pk_le p e (fun z => ⟨e + 1, ?_⟩) (fun z => h0 fun y => by omega) rfl ?_ (by omega) (by omega)
  · exact ry_hp14 he hi hp post (h1 z) (fun y => h0 fun w => y w.2) e 0 (by omega) (fun k hk => by omega) _ (by omega)
  · rw [pk_sub (by omega), nI_1]
    exact congrArg nI (by omega)
theorem ry_lp2 {i j e : Nat} (he : j + 1 = i + e) (hi : i + e ≤ 48) (he1 : 1 ≤ e) (post : Int32 → Prop) : ∀ d p : Nat, p + d = e → post (nI (rf_s t i e d p)) → ∀ f, d < f → wY_leastPeriod_2 post (nI i) (nI j) (nI n) fd t cp fi la le f (nI p) := by
  intro d
  induction d with
  | zero =>
    intro p hp h f hf
    obtain ⟨f, rfl⟩ : ∃ g, f = g + 1 := ⟨f - 1, by omega⟩
    refine pk_lt 48 p (fun z => by omega) (fun z => ?_) rfl rfl (by omega) (by omega)
    refine ry_hp he hi (by omega) (fun _ _ => br_f (by decide) h) (fun y => absurd ⟨by omega, fun k hk => by omega⟩ y) he1
  | succ d ih =>
    intro p hp h f hf
    obtain ⟨f, rfl⟩ : ∃ g, f = g + 1 := ⟨f - 1, by omega⟩
    refine pk_lt 48 p (fun z => by omega) (fun z => ?_) rfl rfl (by omega) (by omega)
    refine ry_hp he hi (by omega) (fun _ y => br_f (by decide) ?_) (fun y => br_t rfl (nm_r (nI_1 p) ?_)) he1
    · rw [rf_s_t y] at h
      exact h
    · rw [rf_s_f (fun w => y ⟨by omega, w⟩)] at h
      exact ih (p + 1) (by omega) h f (by omega)
theorem ry_lp {i j e : Nat} (he1 : 1 ≤ e) (he : j + 1 = i + e) (hi : i + e ≤ 48) {post : Int32 → Prop} (h : post (nI (rf_P t i e))) : wpY_leastPeriod post (nI n, fd, t, cp, fi, la, le) (nI i) (nI j) :=
  ⟨e, ry_lp2 he hi he1 post (e - 1) 1 (by omega) h e (by omega)⟩
theorem ry_run83 {i j p : Nat} (hn : n ≤ 48) (hp : 1 ≤ p) (h1 : i + 2 * p ≤ n) (h2 : p ≤ rf_L t n i p) (h3 : ¬ (0 < i ∧ t (i - 1) = t (i - 1 + p))) (hj : j = rf_e t n i p) {post : Int32 → Prop} (h : post (rf_v t n i p)) : wY_runFrom_83 post (nI i) (nI p) (nI j) (nI n) fd t cp fi la le := by
  unfold wY_runFrom_83
  have hl := rf_L_le t n i p
  subst hj
  refine ry_lp (e := p + rf_L t n i p) (by omega) (by unfold rf_e; omega) (by omega) ?_
  have hx := rf_P_x t i (p + rf_L t n i p) (by omega)
  refine pk_eq (rf_P t i (p + rf_L t n i p)) p (fun z => ?_) (fun z => ?_) rfl rfl (by omega) (by omega)
  · rw [rf_v_t (rf_R_iff.mpr ⟨h1, h2, h3, z⟩)] at h
    exact h
  · rw [rf_v_f (fun y => z (rf_R_iff.mp y).2.2.2)] at h
    exact h
theorem ry_run55 {i p : Nat} (hn : n ≤ 48) (hp : 1 ≤ p) (h1 : i + 2 * p ≤ n) (h2 : p ≤ rf_L t n i p) (h3 : ¬ (0 < i ∧ t (i - 1) = t (i - 1 + p))) {post : Int32 → Prop} (h : post (rf_v t n i p)) : ∀ d a : Nat, a + d = rf_L t n i p → ∀ j, j + 1 = i + p + a → ∀ f, d < f → wY_runFrom_55 post (nI i) (nI p) (nI n) fd t cp fi la le f (nI j) := by
  have hl := rf_L_le t n i p
  intro d
  induction d with
  | zero =>
    intro a ha j hj f hf
    obtain ⟨f, rfl⟩ : ∃ g, f = g + 1 := ⟨f - 1, by omega⟩
    have ej : j = rf_e t n i p := by unfold rf_e; omega
    refine pk_le n (j + 1) (fun z => ry_run83 hn hp h1 h2 h3 ej h) (fun z => ?_) rfl (nI_1 j) (by omega) (by omega)
    rw [nI_1]
    refine ry_hp (e := p + a + 1) (by omega) (by omega) (by omega) (fun y w => ?_) (fun _ => br_t rfl (ry_run83 hn hp h1 h2 h3 ej h)) (by omega)
    have hw : a + 1 ≤ rf_L t n i p := (rf_L_ge (by omega)).mpr (by rw [show p + a + 1 - p = a + 1 by omega] at w; exact w)
    omega
  | succ d ih =>
    intro a ha j hj f hf
    obtain ⟨f, rfl⟩ : ∃ g, f = g + 1 := ⟨f - 1, by omega⟩
    refine pk_le n (j + 1) (fun z => by omega) (fun z => ?_) rfl (nI_1 j) (by omega) (by omega)
    rw [nI_1]
    refine ry_hp (e := p + a + 1) (by omega) (by omega) (by omega) (fun y w => br_f (by decide) (nm_e (ih (a + 1) (by omega) (j + 1) (by omega) f (by omega)))) (fun y => absurd ⟨by omega, ?_⟩ y) (by omega)
    rw [show p + a + 1 - p = a + 1 by omega]
    exact (rf_L_ge (n := n) (by omega)).mp (by omega)
theorem ry_run {i p : Nat} (hn : n ≤ 48) (hi : i < n) (hp : 1 ≤ p) (hp2 : p ≤ 24) {post : Int32 → Prop} (h : post (rf_v t n i p)) : wpY_runFrom post (nI n, fd, t, cp, fi, la, le) (nI i) (nI p) := by
  have e0 : nI i + 2 * nI p - 1 = nI (i + 2 * p - 1) := by rw [rx_2, show (1 : Int32) = nI 1 from rfl, pk_sub (by omega)]
  refine nm_r e0 ?_
  refine pk_le n (i + 2 * p - 1) (fun z => ?_) (fun z => ?_) rfl rfl (by omega) (by omega)
  · rw [rf_v_f (fun y => by have := rf_R1 y; omega)] at h
    exact h
  · have hL : p ≤ rf_L t n i p ↔ rf_H t i p p := rf_L_ge (by omega)
    refine ry_hp (e := 2 * p) (by omega) (by omega) (by omega) (fun _ y => br_f (by decide) ?_) (fun y => br_t rfl ?_) (by omega)
    · rw [show 2 * p - p = p by omega] at y
      have h2 := hL.mpr y
      refine pk_le i 0 (fun w => ?_) (fun w => ?_) rfl rfl (by omega) (by omega)
      · exact ⟨_, ry_run55 hn hp (by omega) h2 (fun w => by omega) h (rf_L t n i p - p) p (by omega) _ (by omega) _ (Nat.lt_succ_self _)⟩
      · have e1 : nI i - 1 = nI (i - 1) := by rw [show (1 : Int32) = nI 1 from rfl, pk_sub (by omega)]
        rw [e1, nI_add, nI_clamp (by omega), nI_clamp (by omega)]
        refine ⟨vp_in_nI (by omega) (by omega), vp_in_nI (by omega) (by omega), br_c (fun c => ?_) (fun c => ?_)⟩
        · rw [rf_v_f (fun y => (rf_R_iff.mp y).2.2.1 ⟨w, c⟩)] at h
          exact h
        · exact ⟨_, ry_run55 hn hp (by omega) h2 (fun w => c w.2) h (rf_L t n i p - p) p (by omega) _ (by omega) _ (Nat.lt_succ_self _)⟩
    · rw [rf_v_f (fun w => y ⟨by omega, by rw [show 2 * p - p = p by omega]; exact rf_R2 w⟩)] at h
      exact h
end
end
section
/-! the reference's table of runs -/
/-- the table holds the runs of the slots ahead of s -/
def rf_T (t : Nat → Int32) (n s : Nat) (fi la le : Nat → Int32) : Prop := ∀ q, q < s → rf_S t n q = true → fi (rf_n t n q) = nI (q / 24) ∧ la (rf_n t n q) = nI (rf_e t n (q / 24) (q % 24 + 1)) ∧ le (rf_n t n q) = nI (q % 24 + 1)
theorem rf_T_f {t : Nat → Int32} {n s : Nat} {fi la le : Nat → Int32} (h : rf_T t n s fi la le) (z : ¬ rf_S t n s = true) : rf_T t n (s + 1) fi la le := by
  intro q hq g
  by_cases e : q = s
  · subst e; exact absurd g z
  · exact h q (by omega) g
theorem rf_T_t {t : Nat → Int32} {n s : Nat} {fi la le : Nat → Int32} (h : rf_T t n s fi la le) : rf_T t n (s + 1) (upd fi (rf_n t n s) (nI (s / 24))) (upd la (rf_n t n s) (nI (rf_e t n (s / 24) (s % 24 + 1)))) (upd le (rf_n t n s) (nI (s % 24 + 1))) := by
  intro q hq g
  by_cases e : q = s
  · subst e; exact ⟨pk_us, pk_us, pk_us⟩
  · have h1 : rf_n t n (q + 1) ≤ rf_n t n s := rf_n_m t n (by omega)
    have h2 := rf_n_t g
    have ne : rf_n t n q ≠ rf_n t n s := by omega
    rw [pk_un ne, pk_un ne, pk_un ne]
    exact h q (by omega) g
section
variable {t : Nat → Int32} {n : Nat} {cp : Nat → Int32}
theorem ry_list17 (hn : n ≤ 48) {i : Nat} (hi : i < n) (post : SY → Prop) (J : Int32 → Int32 → (Nat → Int32) → (Nat → Int32) → (Nat → Int32) → (Nat → Int32) → (Nat → Int32) → Prop) (hJ : ∀ fi la le, rf_T t n (24 * (i + 1)) fi la le → J (nI (i + 1)) (nI (rf_n t n (24 * (i + 1)))) t cp fi la le) : ∀ d q : Nat, q + d = 24 → ∀ fi la le, rf_T t n (24 * i + q) fi la le → ∀ f, d < f → wY_list_17 post J (nI i) (nI n) f (nI (q + 1)) (nI (rf_n t n (24 * i + q))) t cp fi la le := by
  intro d
  induction d with
  | zero =>
    intro q hq fi la le T f hf
    obtain ⟨f, rfl⟩ : ∃ g, f = g + 1 := ⟨f - 1, by omega⟩
    have e : q = 24 := by omega
    subst e
    refine br_t (nI_lt (a := 24) (by omega) (by omega)) (nm_r (nI_1 i) ?_)
    exact hJ fi la le T
  | succ d ih =>
    intro q hq fi la le T f hf
    obtain ⟨f, rfl⟩ : ∃ g, f = g + 1 := ⟨f - 1, by omega⟩
    have hb := rf_b t (s := 24 * i + q + 1) hn (by omega)
    have hb0 := rf_b t (s := 24 * i + q) hn (by omega)
    refine br_f (nI_nlt (b := q + 1) (a := 24) (by omega) (by omega)) ?_
    refine ry_run hn hi (by omega) (by omega) ?_
    have ei : (24 * i + q) / 24 = i := by omega
    have eq : (24 * i + q) % 24 = q := by omega
    have es : rf_S t n (24 * i + q) = rf_R t n i (q + 1) := by
      unfold rf_S
      rw [ei, eq]
    by_cases c : rf_R t n i (q + 1) = true
    · have c' := c
      rw [← es] at c'
      have en := rf_n_t c'
      have T' := rf_T_t T
      rw [ei, eq] at T'
      have hin : vp_in (nI (rf_n t n (24 * i + q))) 96 := vp_in_nI (by omega) (by omega)
      have hx := rf_e_in (by omega) c
      rw [rf_v_t c]
      refine br_f (nI_pos (by omega)) (br_f (nI_ge (b := 96) (by omega) (by omega)) ?_)
      rw [nI_clamp (by omega)]
      refine ⟨hin, nm_e ⟨hin, nm_e ⟨hin, nm_e (nm_r (nI_1 _) (nm_r (nI_1 _) ?_))⟩⟩⟩
      have g := ih (q + 1) (by omega) _ _ _ T' f (by omega)
      rw [show 24 * i + (q + 1) = 24 * i + q + 1 by omega, en] at g
      exact g
    · have c' := c
      rw [← es] at c'
      have en := rf_n_f c'
      have T' := rf_T_f T c'
      rw [rf_v_f c]
      refine br_t (by decide) (nm_r (nI_1 _) ?_)
      have g := ih (q + 1) (by omega) _ _ _ T' f (by omega)
      rw [show 24 * i + (q + 1) = 24 * i + q + 1 by omega, en] at g
      exact g
theorem ry_list7 (hn : n ≤ 48) (post : SY → Prop) (h : ∀ fi la le, rf_T t n (24 * n) fi la le → post (nI n, nI (rf_n t n (24 * n)), t, cp, fi, la, le)) : ∀ d i : Nat, i + d = n → ∀ fi la le, rf_T t n (24 * i) fi la le → ∀ f, d < f → wY_list_7 post (nI n) f (nI i) (nI (rf_n t n (24 * i))) t cp fi la le := by
  intro d
  induction d with
  | zero =>
    intro i hi fi la le T f hf
    obtain ⟨f, rfl⟩ : ∃ g, f = g + 1 := ⟨f - 1, by omega⟩
    have e : i = n := by omega
    subst e
    exact br_t (nI_le (Nat.le_refl _) (by omega)) (h fi la le T)
  | succ d ih =>
    intro i hi fi la le T f hf
    obtain ⟨f, rfl⟩ : ∃ g, f = g + 1 := ⟨f - 1, by omega⟩
    refine br_f (nI_ge (by omega) (by omega)) ⟨25, ?_⟩
    exact ry_list17 hn (by omega) post _ (fun fi' la' le' T' => ih (i + 1) (by omega) fi' la' le' T' f (by omega)) 24 0 (by omega) fi la le T 25 (by omega)
theorem ry_list {fd : Int32} {fi la le : Nat → Int32} (hn : n ≤ 48) {post : SY → Prop} (h : ∀ fi la le, rf_T t n (24 * n) fi la le → post (nI n, nI (rf_n t n (24 * n)), t, cp, fi, la, le)) : wpY_list post (nI n, fd, t, cp, fi, la, le) :=
  ⟨n + 1, ry_list7 hn post h n 0 (by omega) fi la le (fun q hq => by omega) (n + 1) (by omega)⟩
end
end
section
/-! the relation, and the methods that change the text -/
def i_Rel (_ : Nat) (u : SX) (v : SY) : Prop := ∃ (n : Nat) (t : Nat → Int32) (fd : Int32) (cp fi la le : Nat → Int32), n ≤ 48 ∧ u = (nI n, t) ∧ v = (nI n, fd, t, cp, fi, la, le)
theorem i_up {k : Nat} {u : SX} {v : SY} (h : i_Rel k u v) : i_Rel (k + 3) u v := h
theorem i_vc0 : wpX_init (fun u => wpY_init (fun v => i_Rel 0 u v)) := ⟨0, fun _ => 0, 0, fun _ => 0, fun _ => 0, fun _ => 0, fun _ => 0, by omega, rfl, rfl⟩
theorem rr_mk {k n : Nat} {t : Nat → Int32} {fd : Int32} {cp fi la le : Nat → Int32} (hn : n ≤ 48) : i_Rel k (nI n, t) (nI n, fd, t, cp, fi, la, le) := ⟨n, t, fd, cp, fi, la, le, hn, rfl, rfl⟩
theorem rr_sym (x : Int32) : x < 0 ∨ (¬ x < 0 ∧ (4 : Int32) ≤ x ∧ ¬ x ≤ 3) ∨ (¬ x < 0 ∧ ¬ (4 : Int32) ≤ x ∧ x ≤ 3) := by
  by_cases h : x < 0
  · exact Or.inl h
  · obtain ⟨j, hj, rfl⟩ := nI_of h
    by_cases c : j ≤ 3
    · exact Or.inr (Or.inr ⟨h, nI_ge (b := 4) (by omega) (by omega), nI_le (b := 3) c (by omega)⟩)
    · exact Or.inr (Or.inl ⟨h, nI_le (a := 4) (by omega) hj, nI_ge (a := 3) (by omega) hj⟩)
theorem rr_ix (x : Int32) {n : Nat} (hn : n ≤ 48) : (x < 0 ∨ nI n ≤ x) ∨ ∃ j : Nat, j < n ∧ x = nI j := by
  rcases pk_ix x (n := n) (by omega) with h | h | h
  · exact Or.inl (Or.inl h)
  · exact Or.inl (Or.inr h)
  · exact Or.inr h
theorem rx_bad {n : Nat} {t : Nat → Int32} {x : Int32} (h : x < 0 ∨ nI n ≤ x) {post : Int32 → Prop} (hp : post 0) : wpX_isGood post (nI n, t) x := by
  by_cases c : x < 0
  · exact br_t c hp
  · exact br_f c (br_t (h.resolve_left c) hp)
theorem ry_bad {n : Nat} {t : Nat → Int32} {fd : Int32} {cp fi la le : Nat → Int32} {x : Int32} (h : x < 0 ∨ nI n ≤ x) {post : Int32 → Prop} (hp : post 1) : wpY_bad post (nI n, fd, t, cp, fi, la, le) x := by
  by_cases c : x < 0
  · exact br_t c hp
  · exact br_f c (br_t (h.resolve_left c) hp)
theorem i_vc_push {k : Nat} {u : SX} {v : SY} (I : i_Rel k u v) (hk : k + 3 ≤ 1536) (v1 : Int32) : wpX_push (fun r u' => wpY_push (fun r' v' => r' = r ∧ i_Rel (k + 3) u' v') v v1) u v1 := by
  obtain ⟨n, t, fd, cp, fi, la, le, hn, rfl, rfl⟩ := I
  unfold wpX_push
  dsimp only
  rcases rr_sym v1 with h | ⟨h, h4, h3⟩ | ⟨h, h4, h3⟩
  · refine br_t h ?_
    refine br_t rfl ?_
    exact br_t h ⟨rfl, rr_mk hn⟩
  · refine br_f h ?_
    refine br_t h4 ?_
    refine br_t rfl ?_
    exact br_f h (br_f h3 ⟨rfl, rr_mk hn⟩)
  · refine br_f h ?_
    refine br_f h4 ?_
    refine br_f (by decide) ?_
    by_cases c : n < 48
    · have hl : nI n < 48 := nI_lt (b := 48) c (by omega)
      have hi : vp_in (nI n) 48 := vp_in_nI c (by omega)
      refine br_t hl ⟨hi, nm_e (nm_r (nI_1 n) ?_)⟩
      refine br_f h (br_t h3 (br_t hl ⟨hi, nm_e (nm_r (nI_1 n) ⟨rfl, rr_mk (by omega)⟩)⟩))
    · have hl : ¬ nI n < 48 := nI_nlt (b := 48) (by omega) (by omega)
      refine br_f hl ?_
      exact br_f h (br_t h3 (br_f hl ⟨rfl, rr_mk hn⟩))
theorem i_vc_pop {k : Nat} {u : SX} {v : SY} (I : i_Rel k u v) (hk : k + 3 ≤ 1536) (v1 : Int32) : wpX_pop (fun r u' => wpY_pop (fun r' v' => r' = r ∧ i_Rel (k + 3) u' v') v v1) u v1 := by
  obtain ⟨n, t, fd, cp, fi, la, le, hn, rfl, rfl⟩ := I
  by_cases h : v1 < 0
  · refine br_t h ?_
    exact br_t h ⟨rfl, rr_mk hn⟩
  · by_cases c : v1 ≤ nI n
    · obtain ⟨j, hj, rfl⟩ := nI_of h
      have hjn : j ≤ n := (nI_leI hj (by omega)).mp c
      refine br_f h (br_t c (nm_r (pk_sub hjn) ?_))
      exact br_f h (br_t c (nm_r (pk_sub hjn) ⟨rfl, rr_mk (by omega)⟩))
    · refine br_f h (br_f c ?_)
      exact br_f h (br_f c ⟨rfl, rr_mk hn⟩)
theorem rr_rep {n i c : Nat} {fd : Int32} {cp fi la le : Nat → Int32} (hi : i < n) (hc : n + c ≤ 48) : ∀ d k : Nat, k + d = c → ∀ t : Nat → Int32, ∃ t' : Nat → Int32, (∀ post : Int32 → SX → Prop, post (nI (n + c)) (nI (n + c), t') → ∀ f, d < f → wX_repeat_40 post (nI i) (nI c) (nI n) f (nI k) t) ∧ (∀ post : Int32 → SY → Prop, post (nI (n + c)) (nI (n + c), fd, t', cp, fi, la, le) → ∀ f, d < f → wY_repeat_46 post (nI i) (nI c) (nI n) (nI n) fd f (nI k) t cp fi la le) := by
  intro d
  induction d with
  | zero =>
    intro k hk t
    have e : k = c := by omega
    subst e
    refine ⟨t, fun post hp f hf => ?_, fun post hp f hf => ?_⟩
    · obtain ⟨f, rfl⟩ : ∃ g, f = g + 1 := ⟨f - 1, by omega⟩
      exact br_t (nI_le (Nat.le_refl _) (by omega)) (nm_r (nI_add n k) hp)
    · obtain ⟨f, rfl⟩ : ∃ g, f = g + 1 := ⟨f - 1, by omega⟩
      exact br_t (nI_le (Nat.le_refl _) (by omega)) (nm_r (nI_add n k) hp)
  | succ d ih =>
    intro k hk t
    obtain ⟨t', hX, hY⟩ := ih (k + 1) (by omega) (upd t (n + k) (t (i + k)))
    have e1 : (nI i + nI k).toNatClampNeg = i + k := pk_cl (i + k) (nI_add i k)
    have e2 : (nI n + nI k).toNatClampNeg = n + k := pk_cl (n + k) (nI_add n k)
    refine ⟨t', fun post hp f hf => ?_, fun post hp f hf => ?_⟩
    · obtain ⟨f, rfl⟩ : ∃ g, f = g + 1 := ⟨f - 1, by omega⟩
      refine br_f (nI_ge (by omega) (by omega)) ⟨pk_in (i + k) 48 (by omega) (nI_add i k), pk_in (n + k) 48 (by omega) (nI_add n k), ?_⟩
      rw [e1, e2]
      exact nm_e (nm_r (nI_1 k) (hX post hp f (by omega)))
    · obtain ⟨f, rfl⟩ : ∃ g, f = g + 1 := ⟨f - 1, by omega⟩
      refine br_f (nI_ge (by omega) (by omega)) ⟨pk_in (i + k) 48 (by omega) (nI_add i k), pk_in (n + k) 48 (by omega) (nI_add n k), ?_⟩
      rw [e1, e2]
      exact nm_e (nm_r (nI_1 k) (hY post hp f (by omega)))
theorem i_vc_repeat {k : Nat} {u : SX} {v : SY} (I : i_Rel k u v) (hk : k + 3 ≤ 1536) (v1 : Int32) (v2 : Int32) : wpX_repeat (fun r u' => wpY_repeat (fun r' v' => r' = r ∧ i_Rel (k + 3) u' v') v v1 v2) u v1 v2 := by
  obtain ⟨n, t, fd, cp, fi, la, le, hn, rfl, rfl⟩ := I
  unfold wpX_repeat wpY_repeat
  dsimp only
  rcases rr_ix v1 hn with h | ⟨i, hi, rfl⟩
  · refine rx_bad h ?_
    refine br_t rfl ?_
    refine ry_bad h ?_
    exact br_f (by decide) ⟨rfl, rr_mk hn⟩
  · refine rx_good hn hi ?_
    refine br_f (by decide) ?_
    by_cases c1 : v2 < 1
    · refine br_t c1 ?_
      refine ry_good hn hi ?_
      exact br_t rfl (br_t c1 ⟨rfl, rr_mk hn⟩)
    · by_cases c2 : v2 ≤ 48
      · have h0 : ¬ v2 < 0 := fun z => c1 (Int32.lt_trans z (by decide))
        obtain ⟨c, hc, rfl⟩ := nI_of h0
        have hc48 : c ≤ 48 := (nI_leI (b := 48) hc (by omega)).mp c2
        by_cases c3 : n + c ≤ 48
        · have c3' : nI n + nI c ≤ 48 := by rw [nI_add]; exact nI_le (b := 48) c3 (by omega)
          obtain ⟨t', hX, hY⟩ := rr_rep (fd := fd) (cp := cp) (fi := fi) (la := la) (le := le) hi c3 c 0 (by omega) t
          refine br_f c1 (br_t c2 (br_t c3' ⟨c + 1, ?_⟩))
          refine hX _ ?_ (c + 1) (by omega)
          refine ry_good hn hi ?_
          refine br_t rfl (br_f c1 (br_t c2 (br_t c3' ⟨c + 1, ?_⟩)))
          exact hY _ ⟨rfl, rr_mk c3⟩ (c + 1) (by omega)
        · have c3' : ¬ nI n + nI c ≤ 48 := by rw [nI_add]; exact nI_ge (a := 48) (by omega) (by omega)
          refine br_f c1 (br_t c2 (br_f c3' ?_))
          refine ry_good hn hi ?_
          exact br_t rfl (br_f c1 (br_t c2 (br_f c3' ⟨rfl, rr_mk hn⟩)))
      · refine br_f c1 (br_f c2 ?_)
        refine ry_good hn hi ?_
        exact br_t rfl (br_f c1 (br_f c2 ⟨rfl, rr_mk hn⟩))
theorem i_vc_set {k : Nat} {u : SX} {v : SY} (I : i_Rel k u v) (hk : k + 3 ≤ 1536) (v1 : Int32) (v2 : Int32) : wpX_set (fun r u' => wpY_set (fun r' v' => r' = r ∧ i_Rel (k + 3) u' v') v v1 v2) u v1 v2 := by
  obtain ⟨n, t, fd, cp, fi, la, le, hn, rfl, rfl⟩ := I
  unfold wpX_set wpY_set
  dsimp only
  rcases rr_ix v1 hn with h | ⟨i, hi, rfl⟩
  · refine rx_bad h ?_
    refine br_t rfl ?_
    refine ry_bad h ?_
    exact br_f (by decide) ⟨rfl, rr_mk hn⟩
  · have hin : vp_in (nI i) 48 := vp_in_nI (by omega) (by omega)
    refine rx_good hn hi ?_
    refine br_f (by decide) ?_
    rcases rr_sym v2 with h | ⟨h, h4, h3⟩ | ⟨h, h4, h3⟩
    · refine br_t h ?_
      refine br_t rfl ?_
      refine ry_good hn hi ?_
      exact br_t rfl (br_t h ⟨rfl, rr_mk hn⟩)
    · refine br_f h ?_
      refine br_t h4 ?_
      refine br_t rfl ?_
      refine ry_good hn hi ?_
      exact br_t rfl (br_f h (br_f h3 ⟨rfl, rr_mk hn⟩))
    · refine br_f h ?_
      refine br_f h4 ?_
      refine br_f (by decide) ⟨hin, nm_e ⟨hin, nm_e ?_⟩⟩
      refine ry_good hn hi ?_
      exact br_t rfl (br_f h (br_t h3 ⟨hin, nm_e ⟨hin, nm_e ⟨rfl, rr_mk hn⟩⟩⟩))
/-- the text turned round -/
def rr_v (t : Nat → Int32) (n : Nat) : Nat → Int32 := fun x => if x < n then t (n - 1 - x) else t x
def rr_x (t : Nat → Int32) (n l : Nat) : Nat → Int32 := fun x => if x < l ∨ (n - l ≤ x ∧ x < n) then t (n - 1 - x) else t x
def rr_c (t cp : Nat → Int32) (k : Nat) : Nat → Int32 := fun x => if x < k then t x else cp x
def rr_t (t c : Nat → Int32) (n k : Nat) : Nat → Int32 := fun x => if x < k then c (n - 1 - x) else t x
theorem rr_x_s {t : Nat → Int32} {n l : Nat} (h : l < n / 2) : upd (upd (rr_x t n l) l (rr_x t n l (n - 1 - l))) (n - 1 - l) (rr_x t n l l) = rr_x t n (l + 1) := by
  have e1 : rr_x t n l l = t l := if_neg (by omega)
  have e2 : rr_x t n l (n - 1 - l) = t (n - 1 - l) := if_neg (by omega)
  rw [e1, e2]
  funext x
  by_cases a : x = n - 1 - l
  · subst a
    rw [pk_us]
    have e : rr_x t n (l + 1) (n - 1 - l) = t (n - 1 - (n - 1 - l)) := if_pos (by omega)
    rw [e, show n - 1 - (n - 1 - l) = l by omega]
  · rw [pk_un a]
    by_cases b : x = l
    · subst b
      rw [pk_us]
      exact (if_pos (by omega) : rr_x t n (x + 1) x = t (n - 1 - x)).symm
    · rw [pk_un b]
      by_cases c : x < l ∨ (n - l ≤ x ∧ x < n)
      · exact (if_pos c : rr_x t n l x = _).trans (if_pos (by omega) : rr_x t n (l + 1) x = _).symm
      · exact (if_neg c : rr_x t n l x = _).trans (if_neg (by omega) : rr_x t n (l + 1) x = _).symm
theorem rr_x_0 {t : Nat → Int32} {n : Nat} : rr_x t n 0 = t := by
  funext x
  exact if_neg (by omega)
theorem rr_x_e {t : Nat → Int32} {n : Nat} : rr_x t n (n / 2) = rr_v t n := by
  funext x
  by_cases a : x < n / 2 ∨ (n - n / 2 ≤ x ∧ x < n)
  · exact (if_pos a : rr_x t n (n / 2) x = _).trans (if_pos (by omega) : rr_v t n x = _).symm
  · refine (if_neg a : rr_x t n (n / 2) x = _).trans ?_
    by_cases b : x < n
    · refine Eq.trans ?_ (if_pos b : rr_v t n x = _).symm
      rw [show n - 1 - x = x by omega]
    · exact (if_neg b : rr_v t n x = _).symm
theorem rr_c_s {t cp : Nat → Int32} {k : Nat} : upd (rr_c t cp k) k (t k) = rr_c t cp (k + 1) := by
  funext x
  by_cases a : x = k
  · subst a
    rw [pk_us]
    exact (if_pos (by omega) : rr_c t cp (x + 1) x = _).symm
  · rw [pk_un a]
    by_cases c : x < k
    · exact (if_pos c : rr_c t cp k x = _).trans (if_pos (by omega) : rr_c t cp (k + 1) x = _).symm
    · exact (if_neg c : rr_c t cp k x = _).trans (if_neg (by omega) : rr_c t cp (k + 1) x = _).symm
theorem rr_t_s {t c : Nat → Int32} {n k : Nat} : upd (rr_t t c n k) k (c (n - 1 - k)) = rr_t t c n (k + 1) := by
  funext x
  by_cases a : x = k
  · subst a
    rw [pk_us]
    exact (if_pos (by omega) : rr_t t c n (x + 1) x = _).symm
  · rw [pk_un a]
    by_cases b : x < k
    · exact (if_pos b : rr_t t c n k x = _).trans (if_pos (by omega) : rr_t t c n (k + 1) x = _).symm
    · exact (if_neg b : rr_t t c n k x = _).trans (if_neg (by omega) : rr_t t c n (k + 1) x = _).symm
theorem rr_t_e {t cp : Nat → Int32} {n : Nat} (hn : n ≤ 48) : rr_t t (rr_c t cp 48) n n = rr_v t n := by
  funext x
  by_cases a : x < n
  · refine (if_pos a : rr_t t (rr_c t cp 48) n n x = _).trans (Eq.trans ?_ (if_pos a : rr_v t n x = _).symm)
    exact if_pos (by omega)
  · exact (if_neg a : rr_t t (rr_c t cp 48) n n x = _).trans (if_neg a : rr_v t n x = _).symm
theorem rx_rev {t : Nat → Int32} {n : Nat} (hn : n ≤ 48) (post : Int32 → SX → Prop) (h : post (nI n) (nI n, rr_v t n)) : ∀ d l : Nat, l + d = n / 2 → ∀ f, d < f → wX_reverse_2 post (nI n) f (nI l) (rr_x t n l) := by
  have e2 : nI n / 2 = nI (n / 2) := pk_div (d := 2) (by omega) (by omega) (by omega)
  intro d
  induction d with
  | zero =>
    intro l hl f hf
    obtain ⟨f, rfl⟩ : ∃ g, f = g + 1 := ⟨f - 1, by omega⟩
    have e : l = n / 2 := by omega
    refine ⟨by decide, br_t ?_ ?_⟩
    · rw [e2]; exact nI_le (by omega) (by omega)
    · rw [e, rr_x_e]; exact h
  | succ d ih =>
    intro l hl f hf
    obtain ⟨f, rfl⟩ : ∃ g, f = g + 1 := ⟨f - 1, by omega⟩
    have e3 : nI n - 1 - nI l = nI (n - 1 - l) := by
      rw [show (1 : Int32) = nI 1 from rfl, pk_sub (by omega), pk_sub (by omega)]
    have i1 : vp_in (nI l) 48 := vp_in_nI (by omega) (by omega)
    have i2 : vp_in (nI (n - 1 - l)) 48 := vp_in_nI (by omega) (by omega)
    refine ⟨by decide, br_f ?_ (nm_r e3 ?_)⟩
    · rw [e2]; exact nI_ge (by omega) (by omega)
    · rw [nI_clamp (by omega), nI_clamp (by omega)]
      refine ⟨i1, nm_e ⟨i2, i1, nm_e ⟨i2, nm_e (nm_r (nI_1 l) ?_)⟩⟩⟩
      rw [rr_x_s (by omega)]
      exact ih (l + 1) (by omega) f (by omega)
theorem ry_rev28 {t cp fi la le : Nat → Int32} {fd : Int32} {n : Nat} (hn : n ≤ 48) (post : Int32 → SY → Prop) (h : post (nI n) (nI n, fd, rr_v t n, rr_c t cp 48, fi, la, le)) : ∀ d k : Nat, k + d = n → ∀ f, d < f → wY_reverse_28 post (nI n) fd f (nI k) (rr_t t (rr_c t cp 48) n k) (rr_c t cp 48) fi la le := by
  intro d
  induction d with
  | zero =>
    intro k hk f hf
    obtain ⟨f, rfl⟩ : ∃ g, f = g + 1 := ⟨f - 1, by omega⟩
    have e : k = n := by omega
    subst e
    rw [rr_t_e hn]
    exact br_t (nI_le (Nat.le_refl _) (by omega)) h
  | succ d ih =>
    intro k hk f hf
    obtain ⟨f, rfl⟩ : ∃ g, f = g + 1 := ⟨f - 1, by omega⟩
    have e3 : nI n - 1 - nI k = nI (n - 1 - k) := by
      rw [show (1 : Int32) = nI 1 from rfl, pk_sub (by omega), pk_sub (by omega)]
    refine br_f (nI_ge (by omega) (by omega)) (br_f (nI_ge (b := 48) (by omega) (by omega)) ?_)
    rw [e3, nI_clamp (by omega), nI_clamp (by omega)]
    refine ⟨vp_in_nI (by omega) (by omega), vp_in_nI (by omega) (by omega), nm_e (nm_r (nI_1 k) ?_)⟩
    rw [rr_t_s]
    exact ih (k + 1) (by omega) f (by omega)
theorem ry_rev2 {t cp fi la le : Nat → Int32} {fd : Int32} {n : Nat} (hn : n ≤ 48) (post : Int32 → SY → Prop) (h : post (nI n) (nI n, fd, rr_v t n, rr_c t cp 48, fi, la, le)) : ∀ d k : Nat, k + d = 48 → ∀ f, d < f → wY_reverse_2 post (nI n) fd f (nI k) t (rr_c t cp k) fi la le := by
  intro d
  induction d with
  | zero =>
    intro k hk f hf
    obtain ⟨f, rfl⟩ : ∃ g, f = g + 1 := ⟨f - 1, by omega⟩
    have e : k = 48 := by omega
    subst e
    refine br_t (nI_le (a := 48) (Nat.le_refl _) (by omega)) ⟨n + 1, ?_⟩
    have g := ry_rev28 (t := t) (cp := cp) (fi := fi) (la := la) (le := le) (fd := fd) hn post h n 0 (by omega) (n + 1) (by omega)
    have e0 : rr_t t (rr_c t cp 48) n 0 = t := by
      funext x
      exact if_neg (by omega)
    rw [e0] at g
    exact g
  | succ d ih =>
    intro k hk f hf
    obtain ⟨f, rfl⟩ : ∃ g, f = g + 1 := ⟨f - 1, by omega⟩
    have i1 : vp_in (nI k) 48 := vp_in_nI (by omega) (by omega)
    refine br_f (nI_ge (b := 48) (by omega) (by omega)) ⟨i1, i1, ?_⟩
    rw [nI_clamp (by omega)]
    refine nm_e (nm_r (nI_1 k) ?_)
    rw [rr_c_s]
    exact ih (k + 1) (by omega) f (by omega)
theorem i_vc_reverse {k : Nat} {u : SX} {v : SY} (I : i_Rel k u v) (hk : k + 3 ≤ 1536) : wpX_reverse (fun r u' => wpY_reverse (fun r' v' => r' = r ∧ i_Rel (k + 3) u' v') v) u := by
  obtain ⟨n, t, fd, cp, fi, la, le, hn, rfl, rfl⟩ := I
  refine ⟨n / 2 + 1, ?_⟩
  have g := rx_rev (t := t) hn (fun r u' => wpY_reverse (fun r' v' => r' = r ∧ i_Rel (k + 3) u' v') (nI n, fd, t, cp, fi, la, le)) ?_ (n / 2) 0 (by omega) (n / 2 + 1) (by omega)
  · rw [rr_x_0] at g
    exact g
  · refine ⟨49, ?_⟩
    have e0 : rr_c t cp 0 = cp := by
      funext x
      exact if_neg (by omega)
    have g := ry_rev2 (t := t) (cp := cp) (fi := fi) (la := la) (le := le) (fd := fd) hn (fun r' v' => r' = nI n ∧ i_Rel (k + 3) (nI n, rr_v t n) v') ⟨rfl, rr_mk hn⟩ 48 0 (by omega) 49 (by omega)
    rw [e0] at g
    exact g
theorem i_vc_length {k : Nat} {u : SX} {v : SY} (I : i_Rel k u v) (hk : k + 3 ≤ 1536) : wpX_length (fun r => wpY_length (fun r' => r' = r ∧ i_Rel (k + 3) u v) v) u := by
  obtain ⟨n, t, fd, cp, fi, la, le, hn, rfl, rfl⟩ := I
  exact ⟨rfl, rr_mk hn⟩
theorem i_vc_symbol {k : Nat} {u : SX} {v : SY} (I : i_Rel k u v) (hk : k + 3 ≤ 1536) (v1 : Int32) : wpX_symbol (fun r => wpY_symbol (fun r' => r' = r ∧ i_Rel (k + 3) u v) v v1) u v1 := by
  obtain ⟨n, t, fd, cp, fi, la, le, hn, rfl, rfl⟩ := I
  unfold wpX_symbol wpY_symbol
  dsimp only
  rcases rr_ix v1 hn with h | ⟨i, hi, rfl⟩
  · refine rx_bad h ?_
    refine br_t rfl ?_
    refine ry_bad h ?_
    exact br_f (by decide) ⟨rfl, rr_mk hn⟩
  · have hin : vp_in (nI i) 48 := vp_in_nI (by omega) (by omega)
    refine rx_good hn hi ?_
    refine br_f (by decide) ⟨hin, ?_⟩
    refine ry_good hn hi ?_
    exact br_t rfl ⟨hin, rfl, rr_mk hn⟩
end
section
/-! pieces, squares, agreement, order -/
theorem ry_sh2 {t cp fi la le : Nat → Int32} {fd : Int32} {n i j m : Nat} (hn : n ≤ 48) (hm : (i + m = n ∧ j + m ≤ n) ∨ (j + m = n ∧ i + m ≤ n)) (post : Int32 → Prop) : ∀ d k : Nat, k + d = m → post (nI (k + rf_l t d (i + k) (j + k))) → ∀ f, d < f → wY_shared_2 post (nI i) (nI j) (nI n) fd t cp fi la le f (nI k) := by
  intro d
  induction d with
  | zero =>
    intro k hk hp f hf
    obtain ⟨f, rfl⟩ : ∃ g, f = g + 1 := ⟨f - 1, by omega⟩
    refine pk_le n (i + k) (fun _ => hp) (fun z => ?_) rfl (nI_add i k) (by omega) (by omega)
    refine pk_le n (j + k) (fun _ => hp) (fun z => ?_) rfl (nI_add j k) (by omega) (by omega)
    omega
  | succ d ih =>
    intro k hk hp f hf
    obtain ⟨f, rfl⟩ : ∃ g, f = g + 1 := ⟨f - 1, by omega⟩
    have e1 : (nI i + nI k).toNatClampNeg = i + k := pk_cl (i + k) (nI_add i k)
    have e2 : (nI j + nI k).toNatClampNeg = j + k := pk_cl (j + k) (nI_add j k)
    refine pk_le n (i + k) (fun z => by omega) (fun z => ?_) rfl (nI_add i k) (by omega) (by omega)
    refine pk_le n (j + k) (fun z => by omega) (fun z => ?_) rfl (nI_add j k) (by omega) (by omega)
    refine ⟨pk_in (i + k) 48 (by omega) (nI_add i k), pk_in (j + k) 48 (by omega) (nI_add j k), ?_⟩
    rw [e1, e2]
    by_cases c : t (i + k) = t (j + k)
    · refine br_t c (nm_r (nI_1 k) (ih (k + 1) (by omega) ?_ f (by omega)))
      have e : rf_l t (d + 1) (i + k) (j + k) = rf_l t d (i + k + 1) (j + k + 1) + 1 := if_pos c
      rw [e] at hp
      rw [show k + 1 + rf_l t d (i + (k + 1)) (j + (k + 1)) = k + (rf_l t d (i + k + 1) (j + k + 1) + 1) by
        rw [show i + (k + 1) = i + k + 1 by omega, show j + (k + 1) = j + k + 1 by omega]; omega]
      exact hp
    · refine br_f c ?_
      have e : rf_l t (d + 1) (i + k) (j + k) = 0 := if_neg c
      rw [e] at hp
      exact hp
theorem ry_sh {t cp fi la le : Nat → Int32} {fd : Int32} {n i j m : Nat} (hn : n ≤ 48) (hm : (i + m = n ∧ j + m ≤ n) ∨ (j + m = n ∧ i + m ≤ n)) {post : Int32 → Prop} (h : post (nI (rf_l t m i j))) : wpY_shared post (nI n, fd, t, cp, fi, la, le) (nI i) (nI j) := by
  refine ⟨m + 1, ?_⟩
  refine ry_sh2 hn hm post m 0 (by omega) ?_ (m + 1) (by omega)
  rw [Nat.zero_add]
  exact h
theorem i_vc_common {k : Nat} {u : SX} {v : SY} (I : i_Rel k u v) (hk : k + 3 ≤ 1536) (v1 : Int32) (v2 : Int32) : wpX_common (fun r => wpY_common (fun r' => r' = r ∧ i_Rel (k + 3) u v) v v1 v2) u v1 v2 := by
  obtain ⟨n, t, fd, cp, fi, la, le, hn, rfl, rfl⟩ := I
  unfold wpX_common wpY_common
  dsimp only
  rcases rr_ix v1 hn with h | ⟨i, hi, rfl⟩
  · refine rx_bad h ?_
    refine br_t rfl ?_
    refine ry_bad h ?_
    exact br_f (by decide) ⟨rfl, rr_mk hn⟩
  · refine rx_good hn hi ?_
    refine br_f (by decide) ?_
    rcases rr_ix v2 hn with h | ⟨j, hj, rfl⟩
    · refine rx_bad h ?_
      refine br_t rfl ?_
      refine ry_good hn hi ?_
      refine br_t rfl ?_
      refine ry_bad h ?_
      exact br_f (by decide) ⟨rfl, rr_mk hn⟩
    · refine rx_good hn hj ?_
      refine br_f (by decide) ?_
      by_cases c : i ≤ j
      · refine rx_sb hn c (by omega) ?_
        refine ry_good hn hi ?_
        refine br_t rfl ?_
        refine ry_good hn hj ?_
        refine br_t rfl ?_
        exact ry_sh (m := n - j) hn (by omega) ⟨rfl, rr_mk hn⟩
      · refine rx_sb' hn (by omega) (by omega) ?_
        refine ry_good hn hi ?_
        refine br_t rfl ?_
        refine ry_good hn hj ?_
        refine br_t rfl ?_
        exact ry_sh (m := n - i) hn (by omega) ⟨rfl, rr_mk hn⟩
theorem i_vc_periodOf {k : Nat} {u : SX} {v : SY} (I : i_Rel k u v) (hk : k + 3 ≤ 1536) (v1 : Int32) (v2 : Int32) : wpX_periodOf (fun r => wpY_periodOf (fun r' => r' = r ∧ i_Rel (k + 3) u v) v v1 v2) u v1 v2 := by
  obtain ⟨n, t, fd, cp, fi, la, le, hn, rfl, rfl⟩ := I
  unfold wpX_periodOf wpY_periodOf
  dsimp only
  rcases rr_ix v1 hn with h | ⟨i, hi, rfl⟩
  · refine rx_bad h ?_
    refine br_t rfl ?_
    refine ry_bad h ?_
    exact br_f (by decide) ⟨rfl, rr_mk hn⟩
  · refine rx_good hn hi ?_
    refine br_f (by decide) ?_
    rcases rr_ix v2 hn with h | ⟨j, hj, rfl⟩
    · refine rx_bad h ?_
      refine br_t rfl ?_
      refine ry_good hn hi ?_
      refine br_t rfl ?_
      refine ry_bad h ?_
      exact br_f (by decide) ⟨rfl, rr_mk hn⟩
    · refine rx_good hn hj ?_
      refine br_f (by decide) ?_
      by_cases c : i ≤ j
      · have c' : nI i ≤ nI j := nI_le c (by omega)
        refine br_t c' ?_
        refine rx_lp (e := j + 1 - i) hn (by omega) (by omega) (by omega) ?_
        by_cases z : nI j - nI i + 1 < 2 * nI (rf_P t i (j + 1 - i))
        · refine br_t z ?_
          refine ry_good hn hi ?_
          refine br_t rfl ?_
          refine ry_good hn hj ?_
          refine br_t rfl (br_t c' ?_)
          refine ry_lp (e := j + 1 - i) (by omega) (by omega) (by omega) ?_
          exact br_t z ⟨rfl, rr_mk hn⟩
        · refine br_f z ?_
          refine ry_good hn hi ?_
          refine br_t rfl ?_
          refine ry_good hn hj ?_
          refine br_t rfl (br_t c' ?_)
          refine ry_lp (e := j + 1 - i) (by omega) (by omega) (by omega) ?_
          exact br_f z ⟨rfl, rr_mk hn⟩
      · have c' : ¬ nI i ≤ nI j := nI_ge (by omega) (by omega)
        refine br_f c' ?_
        refine ry_good hn hi ?_
        refine br_t rfl ?_
        refine ry_good hn hj ?_
        exact br_t rfl (br_f c' ⟨rfl, rr_mk hn⟩)
theorem rr_next {t cp fi la le : Nat → Int32} {fd : Int32} {n i : Nat} (hn : n ≤ 48) (hi : i < n) : ∀ d k : Nat, k + d = n → i < k → ∃ r : Int32, (∀ post : Int32 → Prop, post r → ∀ f, d < f → wX_nextSmaller_14 post (nI i) (nI n) t f (nI k)) ∧ (∀ post : Int32 → Prop, post r → ∀ f, d < f → wY_nextSmaller_14 post (nI i) (nI n) fd t cp fi la le f (nI k)) := by
  intro d
  induction d with
  | zero =>
    intro k hk hik
    have h : nI n ≤ nI k := nI_le (by omega) (by omega)
    refine ⟨nI n, fun post hp f hf => ?_, fun post hp f hf => ?_⟩
    · obtain ⟨f, rfl⟩ : ∃ g, f = g + 1 := ⟨f - 1, by omega⟩
      exact br_t h hp
    · obtain ⟨f, rfl⟩ : ∃ g, f = g + 1 := ⟨f - 1, by omega⟩
      exact br_t h hp
  | succ d ih =>
    intro k hk hik
    have h : ¬ nI n ≤ nI k := nI_ge (by omega) (by omega)
    obtain ⟨r, hX, hY⟩ := ih (k + 1) (by omega) (by omega)
    have hl := rf_l_le t (n - k) i k
    have em : (i + (n - k) = n ∧ k + (n - k) ≤ n) ∨ (k + (n - k) = n ∧ i + (n - k) ≤ n) := by omega
    by_cases c : k + rf_l t (n - k) i k = n
    · refine ⟨nI k, fun post hp f hf => ?_, fun post hp f hf => ?_⟩
      · obtain ⟨f, rfl⟩ : ∃ g, f = g + 1 := ⟨f - 1, by omega⟩
        refine br_f h ?_
        unfold wpX_laterComesBefore
        dsimp only
        refine rx_sb hn (by omega) (by omega) ?_
        refine br_t (by rw [nI_add]; exact nI_le (by omega) (by omega)) ?_
        exact br_f (by decide) hp
      · obtain ⟨f, rfl⟩ : ∃ g, f = g + 1 := ⟨f - 1, by omega⟩
        refine br_f h ?_
        refine ry_sh (m := n - k) hn em ?_
        exact br_t (by rw [nI_add, c]) hp
    · have e1 : (nI k + nI (rf_l t (n - k) i k)).toNatClampNeg = k + rf_l t (n - k) i k := pk_cl _ (nI_add _ _)
      have e2 : (nI i + nI (rf_l t (n - k) i k)).toNatClampNeg = i + rf_l t (n - k) i k := pk_cl _ (nI_add _ _)
      have i1 : vp_in (nI k + nI (rf_l t (n - k) i k)) 48 := pk_in (k + rf_l t (n - k) i k) 48 (by omega) (nI_add _ _)
      have i2 : vp_in (nI i + nI (rf_l t (n - k) i k)) 48 := pk_in (i + rf_l t (n - k) i k) 48 (by omega) (nI_add _ _)
      have nX : ¬ nI n ≤ nI k + nI (rf_l t (n - k) i k) := by rw [nI_add]; exact nI_ge (by omega) (by omega)
      have nY : ¬ nI k + nI (rf_l t (n - k) i k) = nI n := by rw [nI_add, nI_eq (by omega) (by omega)]; exact c
      by_cases z : t (i + rf_l t (n - k) i k) ≤ t (k + rf_l t (n - k) i k)
      · refine ⟨r, fun post hp f hf => ?_, fun post hp f hf => ?_⟩
        · obtain ⟨f, rfl⟩ : ∃ g, f = g + 1 := ⟨f - 1, by omega⟩
          refine br_f h ?_
          unfold wpX_laterComesBefore
          dsimp only
          refine rx_sb hn (by omega) (by omega) ?_
          refine br_f nX ⟨i1, i2, ?_⟩
          rw [e1, e2]
          refine br_t z ?_
          exact br_t rfl (nm_r (nI_1 k) (hX post hp f (by omega)))
        · obtain ⟨f, rfl⟩ : ∃ g, f = g + 1 := ⟨f - 1, by omega⟩
          refine br_f h ?_
          refine ry_sh (m := n - k) hn em ?_
          refine br_f nY ⟨i1, i2, ?_⟩
          rw [e1, e2]
          exact br_t z (nm_r (nI_1 k) (hY post hp f (by omega)))
      · refine ⟨nI k, fun post hp f hf => ?_, fun post hp f hf => ?_⟩
        · obtain ⟨f, rfl⟩ : ∃ g, f = g + 1 := ⟨f - 1, by omega⟩
          refine br_f h ?_
          unfold wpX_laterComesBefore
          dsimp only
          refine rx_sb hn (by omega) (by omega) ?_
          refine br_f nX ⟨i1, i2, ?_⟩
          rw [e1, e2]
          refine br_f z ?_
          exact br_f (by decide) hp
        · obtain ⟨f, rfl⟩ : ∃ g, f = g + 1 := ⟨f - 1, by omega⟩
          refine br_f h ?_
          refine ry_sh (m := n - k) hn em ?_
          refine br_f nY ⟨i1, i2, ?_⟩
          rw [e1, e2]
          exact br_f z hp
theorem i_vc_nextSmaller {k : Nat} {u : SX} {v : SY} (I : i_Rel k u v) (hk : k + 3 ≤ 1536) (v1 : Int32) : wpX_nextSmaller (fun r => wpY_nextSmaller (fun r' => r' = r ∧ i_Rel (k + 3) u v) v v1) u v1 := by
  obtain ⟨n, t, fd, cp, fi, la, le, hn, rfl, rfl⟩ := I
  unfold wpX_nextSmaller wpY_nextSmaller
  dsimp only
  rcases rr_ix v1 hn with h | ⟨i, hi, rfl⟩
  · refine rx_bad h ?_
    refine br_t rfl ?_
    refine ry_bad h ?_
    exact br_f (by decide) ⟨rfl, rr_mk hn⟩
  · obtain ⟨r, hX, hY⟩ := rr_next (t := t) (cp := cp) (fi := fi) (la := la) (le := le) (fd := fd) hn hi (n - (i + 1)) (i + 1) (by omega) (by omega)
    refine rx_good hn hi ?_
    refine br_f (by decide) (nm_r (nI_1 i) ⟨n, ?_⟩)
    refine hX _ ?_ n (by omega)
    refine ry_good hn hi ?_
    refine br_t rfl (nm_r (nI_1 i) ⟨n, ?_⟩)
    exact hY _ ⟨rfl, rr_mk hn⟩ n (by omega)
/-- beyond the text nothing is counted any more -/
theorem rx_sqf_x {t : Nat → Int32} {n i : Nat} (hn : n ≤ 48) (hi : i < n) (c : Int32) (post : Int32 → Prop) (h : post c) : ∀ d p : Nat, p + d = 25 → n < i + 2 * p → ∀ f, d < f → wX_squaresFrom_14 post (nI i) (nI n) t f c (nI p) := by
  intro d
  induction d with
  | zero =>
    intro p hp hx f hf
    obtain ⟨f, rfl⟩ : ∃ g, f = g + 1 := ⟨f - 1, by omega⟩
    exact br_t (nI_lt (a := 24) (by omega) (by omega)) h
  | succ d ih =>
    intro p hp hx f hf
    obtain ⟨f, rfl⟩ : ∃ g, f = g + 1 := ⟨f - 1, by omega⟩
    refine br_f (nI_nlt (a := 24) (by omega) (by omega)) ?_
    refine rx_sq hn (by omega) (by omega) (fun z => by omega) (fun _ => ?_)
    exact br_t rfl (nm_r (nI_1 p) (ih (p + 1) (by omega) (by omega) f (by omega)))
theorem rr_sqf {t cp fi la le : Nat → Int32} {fd : Int32} {n i : Nat} (hn : n ≤ 48) (hi : i < n) : ∀ d p : Nat, p + d = 25 → 1 ≤ p → ∀ c : Int32, ∃ r : Int32, (∀ post : Int32 → Prop, post r → ∀ f, d < f → wX_squaresFrom_14 post (nI i) (nI n) t f c (nI p)) ∧ (∀ post : Int32 → Prop, post r → ∀ f, d < f → wY_squaresFrom_14 post (nI i) (nI n) fd t cp fi la le f c (nI p)) := by
  intro d
  induction d with
  | zero =>
    intro p hp hp1 c
    refine ⟨c, fun post h f hf => rx_sqf_x hn hi c post h 0 p hp (by omega) f hf, fun post h f hf => ?_⟩
    obtain ⟨f, rfl⟩ : ∃ g, f = g + 1 := ⟨f - 1, by omega⟩
    exact br_t (by rw [rx_2]; exact nI_lt (by omega) (by omega)) h
  | succ d ih =>
    intro p hp hp1 c
    by_cases z : n < i + 2 * p
    · refine ⟨c, fun post h f hf => rx_sqf_x hn hi c post h (d + 1) p hp z f hf, fun post h f hf => ?_⟩
      obtain ⟨f, rfl⟩ : ∃ g, f = g + 1 := ⟨f - 1, by omega⟩
      exact br_t (by rw [rx_2]; exact nI_lt (by omega) (by omega)) h
    · have n1 : ¬ (24 : Int32) < nI p := nI_nlt (a := 24) (by omega) (by omega)
      have n2 : ¬ nI n < nI i + 2 * nI p := by rw [rx_2]; exact nI_nlt (by omega) (by omega)
      have e0 : nI i + 2 * nI p - 1 = nI (i + 2 * p - 1) := by rw [rx_2, show (1 : Int32) = nI 1 from rfl, pk_sub (by omega)]
      have hx := rf_P_x t i (2 * p) (by omega)
      by_cases q : rf_P t i (2 * p) = p
      · obtain ⟨r, hX, hY⟩ := ih (p + 1) (by omega) (by omega) (c + 1)
        have hq : p ≤ rf_L t n i p := (rf_L_ge (by omega)).mpr (by
          have := hx.2.2.1
          rw [q, show 2 * p - p = p by omega] at this
          exact this)
        refine ⟨r, fun post h f hf => ?_, fun post h f hf => ?_⟩
        · obtain ⟨f, rfl⟩ : ∃ g, f = g + 1 := ⟨f - 1, by omega⟩
          refine br_f n1 ?_
          refine rx_sq hn (by omega) (by omega) (fun _ _ => ?_) (fun w => absurd ⟨by omega, hq⟩ w)
          refine br_f (by decide) ?_
          rw [e0]
          refine rx_lp (e := 2 * p) hn (by omega) (by omega) (by omega) ?_
          exact br_t (by rw [q]) (nm_e (nm_r (nI_1 p) (hX post h f (by omega))))
        · obtain ⟨f, rfl⟩ : ∃ g, f = g + 1 := ⟨f - 1, by omega⟩
          refine br_f n2 ?_
          rw [e0]
          refine ry_lp (e := 2 * p) (by omega) (by omega) (by omega) ?_
          exact br_t (by rw [q]) (nm_e (nm_r (nI_1 p) (hY post h f (by omega))))
      · obtain ⟨r, hX, hY⟩ := ih (p + 1) (by omega) (by omega) c
        have q' : ¬ nI (rf_P t i (2 * p)) = nI p := by rw [nI_eq (by omega) (by omega)]; exact q
        refine ⟨r, fun post h f hf => ?_, fun post h f hf => ?_⟩
        · obtain ⟨f, rfl⟩ : ∃ g, f = g + 1 := ⟨f - 1, by omega⟩
          refine br_f n1 ?_
          refine rx_sq hn (by omega) (by omega) (fun _ _ => ?_) (fun w => ?_)
          · refine br_f (by decide) ?_
            rw [e0]
            refine rx_lp (e := 2 * p) hn (by omega) (by omega) (by omega) ?_
            exact br_f q' (nm_r (nI_1 p) (hX post h f (by omega)))
          · exact br_t rfl (nm_r (nI_1 p) (hX post h f (by omega)))
        · obtain ⟨f, rfl⟩ : ∃ g, f = g + 1 := ⟨f - 1, by omega⟩
          refine br_f n2 ?_
          rw [e0]
          refine ry_lp (e := 2 * p) (by omega) (by omega) (by omega) ?_
          exact br_f q' (nm_r (nI_1 p) (hY post h f (by omega)))
theorem i_vc_squaresFrom {k : Nat} {u : SX} {v : SY} (I : i_Rel k u v) (hk : k + 3 ≤ 1536) (v1 : Int32) : wpX_squaresFrom (fun r => wpY_squaresFrom (fun r' => r' = r ∧ i_Rel (k + 3) u v) v v1) u v1 := by
  obtain ⟨n, t, fd, cp, fi, la, le, hn, rfl, rfl⟩ := I
  unfold wpX_squaresFrom wpY_squaresFrom
  dsimp only
  rcases rr_ix v1 hn with h | ⟨i, hi, rfl⟩
  · refine rx_bad h ?_
    refine br_t rfl ?_
    refine ry_bad h ?_
    exact br_f (by decide) ⟨rfl, rr_mk hn⟩
  · obtain ⟨r, hX, hY⟩ := rr_sqf (t := t) (cp := cp) (fi := fi) (la := la) (le := le) (fd := fd) hn hi 24 1 (by omega) (by omega) 0
    refine rx_good hn hi ?_
    refine br_f (by decide) ⟨25, ?_⟩
    refine hX _ ?_ 25 (by omega)
    refine ry_good hn hi ?_
    refine br_t rfl ⟨25, ?_⟩
    exact hY _ ⟨rfl, rr_mk hn⟩ 25 (by omega)
theorem rx_sqs_x {t : Nat → Int32} {n i : Nat} (hn : n ≤ 48) (hi : i < n) (c : Int32) (post : Int32 → Prop) (J : Int32 → Int32 → Prop) (h : J c (nI (i + 1))) : ∀ d p : Nat, p + d = 25 → n < i + 2 * p → ∀ f, d < f → wX_squares_14 post J (nI i) (nI n) t f c (nI p) := by
  intro d
  induction d with
  | zero =>
    intro p hp hx f hf
    obtain ⟨f, rfl⟩ : ∃ g, f = g + 1 := ⟨f - 1, by omega⟩
    exact br_t (nI_lt (a := 24) (by omega) (by omega)) (nm_r (nI_1 i) h)
  | succ d ih =>
    intro p hp hx f hf
    obtain ⟨f, rfl⟩ : ∃ g, f = g + 1 := ⟨f - 1, by omega⟩
    refine br_f (nI_nlt (a := 24) (by omega) (by omega)) ?_
    refine rx_sq hn (by omega) (by omega) (fun z => by omega) (fun _ => ?_)
    exact br_t rfl (nm_r (nI_1 p) (ih (p + 1) (by omega) (by omega) f (by omega)))
theorem rr_sqs {t cp fi la le : Nat → Int32} {fd : Int32} {n i : Nat} (hn : n ≤ 48) (hi : i < n) : ∀ d p : Nat, p + d = 25 → 1 ≤ p → ∀ c : Int32, ∃ r : Int32, (∀ (post : Int32 → Prop) (J : Int32 → Int32 → Prop), J r (nI (i + 1)) → ∀ f, d < f → wX_squares_14 post J (nI i) (nI n) t f c (nI p)) ∧ (∀ (post : Int32 → Prop) (J : Int32 → Int32 → Prop), J r (nI (i + 1)) → ∀ f, d < f → wY_squares_14 post J (nI i) (nI n) fd t cp fi la le f c (nI p)) := by
  intro d
  induction d with
  | zero =>
    intro p hp hp1 c
    refine ⟨c, fun post J h f hf => rx_sqs_x hn hi c post J h 0 p hp (by omega) f hf, fun post J h f hf => ?_⟩
    obtain ⟨f, rfl⟩ : ∃ g, f = g + 1 := ⟨f - 1, by omega⟩
    exact br_t (by rw [rx_2]; exact nI_lt (by omega) (by omega)) (nm_r (nI_1 i) h)
  | succ d ih =>
    intro p hp hp1 c
    by_cases z : n < i + 2 * p
    · refine ⟨c, fun post J h f hf => rx_sqs_x hn hi c post J h (d + 1) p hp z f hf, fun post J h f hf => ?_⟩
      obtain ⟨f, rfl⟩ : ∃ g, f = g + 1 := ⟨f - 1, by omega⟩
      exact br_t (by rw [rx_2]; exact nI_lt (by omega) (by omega)) (nm_r (nI_1 i) h)
    · have n1 : ¬ (24 : Int32) < nI p := nI_nlt (a := 24) (by omega) (by omega)
      have n2 : ¬ nI n < nI i + 2 * nI p := by rw [rx_2]; exact nI_nlt (by omega) (by omega)
      have e0 : nI i + 2 * nI p - 1 = nI (i + 2 * p - 1) := by rw [rx_2, show (1 : Int32) = nI 1 from rfl, pk_sub (by omega)]
      have hL : p ≤ rf_L t n i p ↔ rf_H t i p p := rf_L_ge (by omega)
      by_cases q : rf_H t i p p
      · obtain ⟨r, hX, hY⟩ := ih (p + 1) (by omega) (by omega) (c + 1)
        refine ⟨r, fun post J h f hf => ?_, fun post J h f hf => ?_⟩
        · obtain ⟨f, rfl⟩ : ∃ g, f = g + 1 := ⟨f - 1, by omega⟩
          refine br_f n1 ?_
          refine rx_sq hn (by omega) (by omega) (fun _ _ => ?_) (fun w => absurd ⟨by omega, hL.mpr q⟩ w)
          exact br_f (by decide) (nm_e (nm_r (nI_1 p) (hX post J h f (by omega))))
        · obtain ⟨f, rfl⟩ : ∃ g, f = g + 1 := ⟨f - 1, by omega⟩
          refine br_f n2 ?_
          rw [e0]
          refine ry_hp (e := 2 * p) (by omega) (by omega) (by omega) (fun _ _ => ?_) (fun w => absurd ⟨by omega, ?_⟩ w) (by omega)
          · exact br_f (by decide) (nm_e (nm_r (nI_1 p) (hY post J h f (by omega))))
          · rw [show 2 * p - p = p by omega]; exact q
      · obtain ⟨r, hX, hY⟩ := ih (p + 1) (by omega) (by omega) c
        refine ⟨r, fun post J h f hf => ?_, fun post J h f hf => ?_⟩
        · obtain ⟨f, rfl⟩ : ∃ g, f = g + 1 := ⟨f - 1, by omega⟩
          refine br_f n1 ?_
          refine rx_sq hn (by omega) (by omega) (fun _ w => absurd (hL.mp w) q) (fun w => ?_)
          exact br_t rfl (nm_r (nI_1 p) (hX post J h f (by omega)))
        · obtain ⟨f, rfl⟩ : ∃ g, f = g + 1 := ⟨f - 1, by omega⟩
          refine br_f n2 ?_
          rw [e0]
          refine ry_hp (e := 2 * p) (by omega) (by omega) (by omega) (fun _ w => absurd (by rw [show 2 * p - p = p by omega] at w; exact w) q) (fun w => ?_) (by omega)
          exact br_t rfl (nm_r (nI_1 p) (hY post J h f (by omega)))
theorem rr_sq4 {t cp fi la le : Nat → Int32} {fd : Int32} {n : Nat} (hn : n ≤ 48) : ∀ d i : Nat, i + d = n → ∀ c : Int32, ∃ r : Int32, (∀ post : Int32 → Prop, post r → ∀ f, d < f → wX_squares_4 post (nI n) t f c (nI i)) ∧ (∀ post : Int32 → Prop, post r → ∀ f, d < f → wY_squares_4 post (nI n) fd t cp fi la le f c (nI i)) := by
  intro d
  induction d with
  | zero =>
    intro i hi c
    have h : nI n ≤ nI i := nI_le (by omega) (by omega)
    refine ⟨c, fun post hp f hf => ?_, fun post hp f hf => ?_⟩
    · obtain ⟨f, rfl⟩ : ∃ g, f = g + 1 := ⟨f - 1, by omega⟩
      exact br_t h hp
    · obtain ⟨f, rfl⟩ : ∃ g, f = g + 1 := ⟨f - 1, by omega⟩
      exact br_t h hp
  | succ d ih =>
    intro i hi c
    have h : ¬ nI n ≤ nI i := nI_ge (by omega) (by omega)
    obtain ⟨c', hX, hY⟩ := rr_sqs (t := t) (cp := cp) (fi := fi) (la := la) (le := le) (fd := fd) hn (i := i) (by omega) 24 1 (by omega) (by omega) c
    obtain ⟨r, gX, gY⟩ := ih (i + 1) (by omega) c'
    refine ⟨r, fun post hp f hf => ?_, fun post hp f hf => ?_⟩
    · obtain ⟨f, rfl⟩ : ∃ g, f = g + 1 := ⟨f - 1, by omega⟩
      exact br_f h ⟨25, hX post _ (gX post hp f (by omega)) 25 (by omega)⟩
    · obtain ⟨f, rfl⟩ : ∃ g, f = g + 1 := ⟨f - 1, by omega⟩
      exact br_f h ⟨25, hY post _ (gY post hp f (by omega)) 25 (by omega)⟩
theorem i_vc_squares {k : Nat} {u : SX} {v : SY} (I : i_Rel k u v) (hk : k + 3 ≤ 1536) : wpX_squares (fun r => wpY_squares (fun r' => r' = r ∧ i_Rel (k + 3) u v) v) u := by
  obtain ⟨n, t, fd, cp, fi, la, le, hn, rfl, rfl⟩ := I
  obtain ⟨r, hX, hY⟩ := rr_sq4 (t := t) (cp := cp) (fi := fi) (la := la) (le := le) (fd := fd) hn n 0 (by omega) 0
  refine ⟨n + 1, hX _ ?_ (n + 1) (by omega)⟩
  exact ⟨n + 1, hY _ ⟨rfl, rr_mk hn⟩ (n + 1) (by omega)⟩
end
section
/-! what is asked of the runs -/
theorem rx_24 (n : Nat) : nI n * 24 = nI (24 * n) := by
  rw [show (24 : Int32) = nI 24 from rfl, pk_mul, Nat.mul_comm]
theorem rf_k_ex {P : Nat → Bool} : ∀ m j : Nat, j < rf_k P m → ∃ s, s < m ∧ P s = true ∧ rf_k P s = j := by
  intro m
  induction m with
  | zero =>
    intro j hj
    have : j < 0 := hj
    omega
  | succ m ih =>
    intro j hj
    by_cases c : P m = true
    · rw [rf_k_t c] at hj
      by_cases e : j = rf_k P m
      · exact ⟨m, by omega, c, e.symm⟩
      · obtain ⟨s, h1, h2, h3⟩ := ih j (by omega)
        exact ⟨s, by omega, h2, h3⟩
    · rw [rf_k_f c] at hj
      obtain ⟨s, h1, h2, h3⟩ := ih j hj
      exact ⟨s, by omega, h2, h3⟩
theorem rf_lt {t : Nat → Int32} {n s m : Nat} (hs : s < m) (h : rf_S t n s = true) : rf_n t n s < rf_n t n m := by
  have h1 := rf_n_t h
  have h2 : rf_n t n (s + 1) ≤ rf_n t n m := rf_n_m t n (by omega)
  omega
theorem rx_runs {t : Nat → Int32} {n : Nat} (hn : n ≤ 48) (post : Int32 → Prop) (h : post (nI (rf_n t n (24 * n)))) : ∀ d s : Nat, s + d = 24 * n → ∀ f, d < f → wX_runs_4 post (nI n) t f (nI (rf_n t n s)) (nI s) := by
  intro d
  induction d with
  | zero =>
    intro s hs f hf
    obtain ⟨f, rfl⟩ : ∃ g, f = g + 1 := ⟨f - 1, by omega⟩
    have e : s = 24 * n := by omega
    refine br_t (by rw [rx_24]; exact nI_le (by omega) (by omega)) ?_
    rw [e]
    exact h
  | succ d ih =>
    intro s hs f hf
    obtain ⟨f, rfl⟩ : ∃ g, f = g + 1 := ⟨f - 1, by omega⟩
    refine br_f (by rw [rx_24]; exact nI_ge (by omega) (by omega)) ?_
    refine rx_last hn (by omega) ?_
    have g := ih (s + 1) (by omega) f (by omega)
    by_cases c : rf_S t n s = true
    · have hx := rf_e_in (by omega) c
      rw [rf_v_t c]
      rw [rf_n_t c] at g
      exact br_f (nI_pos (by omega)) (nm_r (nI_1 _) (nm_r (nI_1 _) g))
    · rw [rf_v_f c]
      rw [rf_n_f c] at g
      exact br_t (by decide) (nm_r (nI_1 _) g)
theorem i_vc_runs {k : Nat} {u : SX} {v : SY} (I : i_Rel k u v) (hk : k + 3 ≤ 1536) : wpX_runs (fun r => wpY_runs (fun r' v' => r' = r ∧ i_Rel (k + 3) u v') v) u := by
  obtain ⟨n, t, fd, cp, fi, la, le, hn, rfl, rfl⟩ := I
  refine ⟨24 * n + 1, ?_⟩
  refine rx_runs hn _ ?_ (24 * n) 0 (by omega) (24 * n + 1) (by omega)
  unfold wpY_runs
  dsimp only
  refine ry_list hn fun fi' la' le' T => ?_
  exact ⟨rfl, rr_mk hn⟩
theorem rx_slot4 {t : Nat → Int32} {n : Nat} {r : Int32} (hn : n ≤ 48) (post : Int32 → Prop) (h1 : ∀ s, s < 24 * n → rf_S t n s = true → r = nI (rf_n t n s) → post (nI s)) (h0 : (∀ s, s < 24 * n → rf_S t n s = true → ¬ r = nI (rf_n t n s)) → post (-1)) : ∀ d s : Nat, s + d = 24 * n → (∀ q, q < s → rf_S t n q = true → ¬ r = nI (rf_n t n q)) → ∀ f, d < f → wX_slotOfRun_4 post r (nI n) t f (nI (rf_n t n s)) (nI s) := by
  intro d
  induction d with
  | zero =>
    intro s hs H f hf
    obtain ⟨f, rfl⟩ : ∃ g, f = g + 1 := ⟨f - 1, by omega⟩
    exact br_t (by rw [rx_24]; exact nI_le (by omega) (by omega)) (h0 fun q hq => H q (by omega))
  | succ d ih =>
    intro s hs H f hf
    obtain ⟨f, rfl⟩ : ∃ g, f = g + 1 := ⟨f - 1, by omega⟩
    refine br_f (by rw [rx_24]; exact nI_ge (by omega) (by omega)) ?_
    refine rx_last hn (by omega) ?_
    by_cases c : rf_S t n s = true
    · have hx := rf_e_in (by omega) c
      rw [rf_v_t c]
      refine br_f (nI_pos (by omega)) ?_
      by_cases z : nI (rf_n t n s) = r
      · exact br_t z (h1 s (by omega) c z.symm)
      · have g := ih (s + 1) (by omega) (fun q hq gq => by
          by_cases e : q = s
          · subst e; exact fun y => z y.symm
          · exact H q (by omega) gq) f (by omega)
        rw [rf_n_t c] at g
        exact br_f z (nm_r (nI_1 _) (nm_r (nI_1 _) g))
    · have g := ih (s + 1) (by omega) (fun q hq gq => by
          by_cases e : q = s
          · subst e; exact absurd gq c
          · exact H q (by omega) gq) f (by omega)
      rw [rf_v_f c]
      rw [rf_n_f c] at g
      exact br_t (by decide) (nm_r (nI_1 _) g)
theorem rx_slot {t : Nat → Int32} {n : Nat} {r : Int32} (hn : n ≤ 48) {post : Int32 → Prop} (h1 : ∀ s, s < 24 * n → rf_S t n s = true → r = nI (rf_n t n s) → post (nI s)) (h0 : (∀ s, s < 24 * n → rf_S t n s = true → ¬ r = nI (rf_n t n s)) → post (-1)) : wpX_slotOfRun post (nI n, t) r :=
  ⟨24 * n + 1, rx_slot4 hn post h1 h0 (24 * n) 0 (by omega) (fun q hq => by omega) (24 * n + 1) (by omega)⟩
theorem rf_none {t : Nat → Int32} {n : Nat} {r : Int32} (hn : n ≤ 48) (h : ∀ s, s < 24 * n → rf_S t n s = true → ¬ r = nI (rf_n t n s)) (h0 : ¬ r < 0) : ¬ r < nI (rf_n t n (24 * n)) := by
  intro z
  obtain ⟨j, hj, rfl⟩ := nI_of h0
  have hb := rf_b t (s := 24 * n) hn (by omega)
  have hl : j < rf_n t n (24 * n) := (nI_ltI hj (by omega)).mp z
  obtain ⟨s, h1, h2, h3⟩ := rf_k_ex _ _ hl
  exact h s h1 h2 (congrArg nI h3.symm)
theorem i_vc_start {k : Nat} {u : SX} {v : SY} (I : i_Rel k u v) (hk : k + 3 ≤ 1536) (v1 : Int32) : wpX_start (fun r => wpY_start (fun r' v' => r' = r ∧ i_Rel (k + 3) u v') v v1) u v1 := by
  obtain ⟨n, t, fd, cp, fi, la, le, hn, rfl, rfl⟩ := I
  have hb := rf_b t (s := 24 * n) hn (by omega)
  unfold wpX_start wpY_start
  dsimp only
  refine rx_slot hn (fun s hs R e => ?_) (fun H => ?_)
  · subst e
    have hl := rf_lt hs R
    refine br_t (nI_pos' (by omega)) ?_
    refine rx_start (by omega) ?_
    refine ry_list hn fun fi' la' le' T => ?_
    obtain ⟨t1, t2, t3⟩ := T s hs R
    refine br_f (nI_pos (by omega)) (br_t (nI_lt hl (by omega)) ⟨vp_in_nI (by omega) (by omega), ?_, rr_mk hn⟩)
    rw [nI_clamp (by omega)]
    exact t1
  · refine br_f (by decide) ?_
    refine ry_list hn fun fi' la' le' T => ?_
    by_cases h0 : v1 < 0
    · exact br_t h0 ⟨rfl, rr_mk hn⟩
    · exact br_f h0 (br_f (rf_none hn H h0) ⟨rfl, rr_mk hn⟩)
theorem i_vc_end {k : Nat} {u : SX} {v : SY} (I : i_Rel k u v) (hk : k + 3 ≤ 1536) (v1 : Int32) : wpX_end (fun r => wpY_end (fun r' v' => r' = r ∧ i_Rel (k + 3) u v') v v1) u v1 := by
  obtain ⟨n, t, fd, cp, fi, la, le, hn, rfl, rfl⟩ := I
  have hb := rf_b t (s := 24 * n) hn (by omega)
  unfold wpX_end wpY_end
  dsimp only
  refine rx_slot hn (fun s hs R e => ?_) (fun H => ?_)
  · subst e
    have hl := rf_lt hs R
    refine br_t (nI_pos' (by omega)) ?_
    refine rx_last hn hs ?_
    rw [rf_v_t R]
    refine ry_list hn fun fi' la' le' T => ?_
    obtain ⟨t1, t2, t3⟩ := T s hs R
    refine br_f (nI_pos (by omega)) (br_t (nI_lt hl (by omega)) ⟨vp_in_nI (by omega) (by omega), ?_, rr_mk hn⟩)
    rw [nI_clamp (by omega)]
    exact t2
  · refine br_f (by decide) ?_
    refine ry_list hn fun fi' la' le' T => ?_
    by_cases h0 : v1 < 0
    · exact br_t h0 ⟨rfl, rr_mk hn⟩
    · exact br_f h0 (br_f (rf_none hn H h0) ⟨rfl, rr_mk hn⟩)
theorem i_vc_period {k : Nat} {u : SX} {v : SY} (I : i_Rel k u v) (hk : k + 3 ≤ 1536) (v1 : Int32) : wpX_period (fun r => wpY_period (fun r' v' => r' = r ∧ i_Rel (k + 3) u v') v v1) u v1 := by
  obtain ⟨n, t, fd, cp, fi, la, le, hn, rfl, rfl⟩ := I
  have hb := rf_b t (s := 24 * n) hn (by omega)
  unfold wpX_period wpY_period
  dsimp only
  refine rx_slot hn (fun s hs R e => ?_) (fun H => ?_)
  · subst e
    have hl := rf_lt hs R
    refine br_t (nI_pos' (by omega)) ?_
    refine rx_period (by omega) ?_
    refine ry_list hn fun fi' la' le' T => ?_
    obtain ⟨t1, t2, t3⟩ := T s hs R
    refine br_f (nI_pos (by omega)) (br_t (nI_lt hl (by omega)) ⟨vp_in_nI (by omega) (by omega), ?_, rr_mk hn⟩)
    rw [nI_clamp (by omega)]
    exact t3
  · refine br_f (by decide) ?_
    refine ry_list hn fun fi' la' le' T => ?_
    by_cases h0 : v1 < 0
    · exact br_t h0 ⟨rfl, rr_mk hn⟩
    · exact br_f h0 (br_f (rf_none hn H h0) ⟨rfl, rr_mk hn⟩)
theorem rr_at {t cp : Nat → Int32} {n i : Nat} (hn : n ≤ 48) (hi : i < n) : ∀ d s : Nat, s + d = 24 * n → ∀ c : Int32, ∃ r : Int32, (∀ post : Int32 → Prop, post r → ∀ f, d < f → wX_runsAt_14 post (nI i) (nI n) t f c (nI s)) ∧ (∀ fi la le, rf_T t n (24 * n) fi la le → ∀ post : Int32 → SY → Prop, post r (nI n, nI (rf_n t n (24 * n)), t, cp, fi, la, le) → ∀ f, d < f → wY_runsAt_18 post (nI i) (nI n) (nI (rf_n t n (24 * n))) t cp fi la le f c (nI (rf_n t n s))) := by
  have hb := rf_b t (s := 24 * n) hn (by omega)
  intro d
  induction d with
  | zero =>
    intro s hs c
    have e : s = 24 * n := by omega
    refine ⟨c, fun post hp f hf => ?_, fun fi la le T post hp f hf => ?_⟩
    · obtain ⟨f, rfl⟩ : ∃ g, f = g + 1 := ⟨f - 1, by omega⟩
      exact br_t (by rw [rx_24]; exact nI_le (by omega) (by omega)) hp
    · obtain ⟨f, rfl⟩ : ∃ g, f = g + 1 := ⟨f - 1, by omega⟩
      rw [e]
      exact br_t (nI_le (Nat.le_refl _) (by omega)) hp
  | succ d ih =>
    intro s hs c
    have nx : ¬ nI n * 24 ≤ nI s := by rw [rx_24]; exact nI_ge (by omega) (by omega)
    by_cases R : rf_S t n s = true
    · have hx := rf_e_in (by omega) R
      have hl := rf_lt (t := t) (n := n) (s := s) (m := 24 * n) (by omega) R
      have n1 : ¬ nI (rf_n t n (24 * n)) ≤ nI (rf_n t n s) := nI_ge hl (by omega)
      have n2 : ¬ (96 : Int32) ≤ nI (rf_n t n s) := nI_ge (b := 96) (by omega) (by omega)
      have hin : vp_in (nI (rf_n t n s)) 96 := vp_in_nI (by omega) (by omega)
      have ec : (nI (rf_n t n s)).toNatClampNeg = rf_n t n s := nI_clamp (by omega)
      by_cases a : i < s / 24
      · obtain ⟨r, hX, hY⟩ := ih (s + 1) (by omega) c
        rw [rf_n_t R] at hY
        have a' : nI i < nI (s / 24) := nI_lt a (by omega)
        refine ⟨r, fun post hp f hf => ?_, fun fi la le T post hp f hf => ?_⟩
        · obtain ⟨f, rfl⟩ : ∃ g, f = g + 1 := ⟨f - 1, by omega⟩
          refine br_f nx ?_
          refine rx_start (by omega) ?_
          exact br_t a' (nm_r (nI_1 _) (hX post hp f (by omega)))
        · obtain ⟨f, rfl⟩ : ∃ g, f = g + 1 := ⟨f - 1, by omega⟩
          obtain ⟨t1, t2, t3⟩ := T s (by omega) R
          refine br_f n1 (br_f n2 ⟨hin, ?_⟩)
          rw [ec, t1]
          exact br_t a' (nm_r (nI_1 _) (hY fi la le T post hp f (by omega)))
      · have a' : ¬ nI i < nI (s / 24) := nI_nlt (by omega) (by omega)
        by_cases b : rf_e t n (s / 24) (s % 24 + 1) < i
        · obtain ⟨r, hX, hY⟩ := ih (s + 1) (by omega) c
          rw [rf_n_t R] at hY
          have b' : nI (rf_e t n (s / 24) (s % 24 + 1)) < nI i := nI_lt b (by omega)
          refine ⟨r, fun post hp f hf => ?_, fun fi la le T post hp f hf => ?_⟩
          · obtain ⟨f, rfl⟩ : ∃ g, f = g + 1 := ⟨f - 1, by omega⟩
            refine br_f nx ?_
            refine rx_start (by omega) ?_
            refine br_f a' ?_
            refine rx_last hn (by omega) ?_
            rw [rf_v_t R]
            exact br_t b' (nm_r (nI_1 _) (hX post hp f (by omega)))
          · obtain ⟨f, rfl⟩ : ∃ g, f = g + 1 := ⟨f - 1, by omega⟩
            obtain ⟨t1, t2, t3⟩ := T s (by omega) R
            refine br_f n1 (br_f n2 ⟨hin, ?_⟩)
            rw [ec, t1, t2]
            exact br_f a' ⟨hin, br_t b' (nm_r (nI_1 _) (hY fi la le T post hp f (by omega)))⟩
        · obtain ⟨r, hX, hY⟩ := ih (s + 1) (by omega) (c + 1)
          rw [rf_n_t R] at hY
          have b' : ¬ nI (rf_e t n (s / 24) (s % 24 + 1)) < nI i := nI_nlt (by omega) (by omega)
          refine ⟨r, fun post hp f hf => ?_, fun fi la le T post hp f hf => ?_⟩
          · obtain ⟨f, rfl⟩ : ∃ g, f = g + 1 := ⟨f - 1, by omega⟩
            refine br_f nx ?_
            refine rx_start (by omega) ?_
            refine br_f a' ?_
            refine rx_last hn (by omega) ?_
            rw [rf_v_t R]
            exact br_f b' (nm_e (nm_r (nI_1 _) (hX post hp f (by omega))))
          · obtain ⟨f, rfl⟩ : ∃ g, f = g + 1 := ⟨f - 1, by omega⟩
            obtain ⟨t1, t2, t3⟩ := T s (by omega) R
            refine br_f n1 (br_f n2 ⟨hin, ?_⟩)
            rw [ec, t1, t2]
            exact br_f a' ⟨hin, br_f b' (nm_e (nm_r (nI_1 _) (hY fi la le T post hp f (by omega))))⟩
    · obtain ⟨r, hX, hY⟩ := ih (s + 1) (by omega) c
      rw [rf_n_f R] at hY
      refine ⟨r, fun post hp f hf => ?_, fun fi la le T post hp f hf => hY fi la le T post hp f (by omega)⟩
      obtain ⟨f, rfl⟩ : ∃ g, f = g + 1 := ⟨f - 1, by omega⟩
      refine br_f nx ?_
      refine rx_start (by omega) ?_
      refine br_c (fun _ => nm_r (nI_1 _) (hX post hp f (by omega))) (fun _ => ?_)
      refine rx_last hn (by omega) ?_
      rw [rf_v_f R]
      refine br_t ?_ (nm_r (nI_1 _) (hX post hp f (by omega)))
      exact Int32.lt_of_lt_of_le (by decide) (nI_pos' (by omega))
theorem i_vc_runsAt {k : Nat} {u : SX} {v : SY} (I : i_Rel k u v) (hk : k + 3 ≤ 1536) (v1 : Int32) : wpX_runsAt (fun r => wpY_runsAt (fun r' v' => r' = r ∧ i_Rel (k + 3) u v') v v1) u v1 := by
  obtain ⟨n, t, fd, cp, fi, la, le, hn, rfl, rfl⟩ := I
  unfold wpX_runsAt wpY_runsAt
  dsimp only
  rcases rr_ix v1 hn with h | ⟨i, hi, rfl⟩
  · refine rx_bad h ?_
    refine br_t rfl ?_
    refine ry_bad h ?_
    exact br_f (by decide) ⟨rfl, rr_mk hn⟩
  · obtain ⟨r, hX, hY⟩ := rr_at (t := t) (cp := cp) hn hi (24 * n) 0 (by omega) 0
    refine rx_good hn hi ?_
    refine br_f (by decide) ⟨24 * n + 1, ?_⟩
    refine hX _ ?_ (24 * n + 1) (by omega)
    refine ry_good hn hi ?_
    refine br_t rfl ?_
    refine ry_list hn fun fi' la' le' T => ?_
    exact ⟨24 * n + 1, hY fi' la' le' T _ ⟨rfl, rr_mk hn⟩ (24 * n + 1) (by omega)⟩
/-- a run's length, nought where there is none -/
def rf_z (t : Nat → Int32) (n s : Nat) : Nat := if rf_S t n s = true then rf_e t n (s / 24) (s % 24 + 1) + 1 - s / 24 else 0
theorem rx_len {t : Nat → Int32} {n s : Nat} (hn : n ≤ 48) (hs : s < 24 * n) {post : Int32 → Prop} (h : post (nI (rf_z t n s))) : wpX_lengthOfRun post (nI n, t) (nI s) := by
  unfold wpX_lengthOfRun
  dsimp only
  refine rx_last hn hs ?_
  by_cases R : rf_S t n s = true
  · have hx := rf_e_in (by omega) R
    have ez : rf_z t n s = rf_e t n (s / 24) (s % 24 + 1) + 1 - s / 24 := if_pos R
    rw [ez] at h
    rw [rf_v_t R]
    refine br_t (nI_pos' (by omega)) ?_
    refine rx_start (by omega) ?_
    rw [pk_sub (by omega), nI_1, show rf_e t n (s / 24) (s % 24 + 1) - s / 24 + 1 = rf_e t n (s / 24) (s % 24 + 1) + 1 - s / 24 by omega]
    exact h
  · have ez : rf_z t n s = 0 := if_neg R
    rw [ez] at h
    rw [rf_v_f R]
    exact br_f (by decide) h
theorem rf_z_le {t : Nat → Int32} {n s : Nat} (hn : n ≤ 48) : rf_z t n s ≤ 48 := by
  unfold rf_z
  split
  · next R =>
    have hx := rf_e_in (by omega) R
    omega
  · omega
theorem rr_lg {t cp : Nat → Int32} {n : Nat} (hn : n ≤ 48) : ∀ d s : Nat, s + d = 24 * n → ∀ c : Nat, c ≤ 48 → ∃ r : Int32, (∀ post : Int32 → Prop, post r → ∀ f, d < f → wX_longest_4 post (nI n) t f (nI c) (nI s)) ∧ (∀ fi la le, rf_T t n (24 * n) fi la le → ∀ post : Int32 → SY → Prop, post r (nI n, nI (rf_n t n (24 * n)), t, cp, fi, la, le) → ∀ f, d < f → wY_longest_8 post (nI n) (nI (rf_n t n (24 * n))) t cp fi la le f (nI c) (nI (rf_n t n s))) := by
  have hb := rf_b t (s := 24 * n) hn (by omega)
  intro d
  induction d with
  | zero =>
    intro s hs c hc
    have e : s = 24 * n := by omega
    refine ⟨nI c, fun post hp f hf => ?_, fun fi la le T post hp f hf => ?_⟩
    · obtain ⟨f, rfl⟩ : ∃ g, f = g + 1 := ⟨f - 1, by omega⟩
      exact br_t (by rw [rx_24]; exact nI_le (by omega) (by omega)) hp
    · obtain ⟨f, rfl⟩ : ∃ g, f = g + 1 := ⟨f - 1, by omega⟩
      rw [e]
      exact br_t (nI_le (Nat.le_refl _) (by omega)) hp
  | succ d ih =>
    intro s hs c hc
    have nx : ¬ nI n * 24 ≤ nI s := by rw [rx_24]; exact nI_ge (by omega) (by omega)
    have hz := rf_z_le (t := t) (s := s) hn
    by_cases R : rf_S t n s = true
    · have hx := rf_e_in (by omega) R
      have hl := rf_lt (t := t) (n := n) (s := s) (m := 24 * n) (by omega) R
      have n1 : ¬ nI (rf_n t n (24 * n)) ≤ nI (rf_n t n s) := nI_ge hl (by omega)
      have n2 : ¬ (96 : Int32) ≤ nI (rf_n t n s) := nI_ge (b := 96) (by omega) (by omega)
      have hin : vp_in (nI (rf_n t n s)) 96 := vp_in_nI (by omega) (by omega)
      have ec : (nI (rf_n t n s)).toNatClampNeg = rf_n t n s := nI_clamp (by omega)
      have ez : nI (rf_e t n (s / 24) (s % 24 + 1)) - nI (s / 24) + 1 = nI (rf_z t n s) := by
        have ez : rf_z t n s = rf_e t n (s / 24) (s % 24 + 1) + 1 - s / 24 := if_pos R
        rw [ez, pk_sub (by omega), nI_1]
        exact congrArg nI (by omega)
      by_cases a : rf_z t n s ≤ c
      · have a' : nI (rf_z t n s) ≤ nI c := nI_le a (by omega)
        obtain ⟨r, hX, hY⟩ := ih (s + 1) (by omega) c hc
        rw [rf_n_t R] at hY
        refine ⟨r, fun post hp f hf => ?_, fun fi la le T post hp f hf => ?_⟩
        · obtain ⟨f, rfl⟩ : ∃ g, f = g + 1 := ⟨f - 1, by omega⟩
          refine br_f nx ?_
          refine rx_len hn (by omega) ?_
          exact br_t a' (nm_r (nI_1 _) (hX post hp f (by omega)))
        · obtain ⟨f, rfl⟩ : ∃ g, f = g + 1 := ⟨f - 1, by omega⟩
          obtain ⟨t1, t2, t3⟩ := T s (by omega) R
          refine br_f n1 (br_f n2 ⟨hin, hin, ?_⟩)
          rw [ec, t1, t2]
          exact nm_r ez (br_t a' (nm_r (nI_1 _) (hY fi la le T post hp f (by omega))))
      · have a' : ¬ nI (rf_z t n s) ≤ nI c := nI_ge (by omega) (by omega)
        obtain ⟨r, hX, hY⟩ := ih (s + 1) (by omega) (rf_z t n s) hz
        rw [rf_n_t R] at hY
        refine ⟨r, fun post hp f hf => ?_, fun fi la le T post hp f hf => ?_⟩
        · obtain ⟨f, rfl⟩ : ∃ g, f = g + 1 := ⟨f - 1, by omega⟩
          refine br_f nx ?_
          refine rx_len hn (by omega) ?_
          exact br_f a' (nm_r (nI_1 _) (hX post hp f (by omega)))
        · obtain ⟨f, rfl⟩ : ∃ g, f = g + 1 := ⟨f - 1, by omega⟩
          obtain ⟨t1, t2, t3⟩ := T s (by omega) R
          refine br_f n1 (br_f n2 ⟨hin, hin, ?_⟩)
          rw [ec, t1, t2]
          exact nm_r ez (br_f a' (nm_r (nI_1 _) (hY fi la le T post hp f (by omega))))
    · have ez : rf_z t n s = 0 := if_neg R
      obtain ⟨r, hX, hY⟩ := ih (s + 1) (by omega) c hc
      rw [rf_n_f R] at hY
      refine ⟨r, fun post hp f hf => ?_, fun fi la le T post hp f hf => hY fi la le T post hp f (by omega)⟩
      obtain ⟨f, rfl⟩ : ∃ g, f = g + 1 := ⟨f - 1, by omega⟩
      refine br_f nx ?_
      refine rx_len hn (by omega) ?_
      exact br_t (nI_le (by omega) (by omega)) (nm_r (nI_1 _) (hX post hp f (by omega)))
theorem i_vc_longest {k : Nat} {u : SX} {v : SY} (I : i_Rel k u v) (hk : k + 3 ≤ 1536) : wpX_longest (fun r => wpY_longest (fun r' v' => r' = r ∧ i_Rel (k + 3) u v') v) u := by
  obtain ⟨n, t, fd, cp, fi, la, le, hn, rfl, rfl⟩ := I
  obtain ⟨r, hX, hY⟩ := rr_lg (t := t) (cp := cp) hn (24 * n) 0 (by omega) 0 (by omega)
  refine ⟨24 * n + 1, ?_⟩
  refine hX _ ?_ (24 * n + 1) (by omega)
  unfold wpY_longest
  dsimp only
  refine ry_list hn fun fi' la' le' T => ?_
  exact ⟨24 * n + 1, hY fi' la' le' T _ ⟨rfl, rr_mk hn⟩ (24 * n + 1) (by omega)⟩
theorem rr_pw {t cp : Nat → Int32} {n : Nat} (hn : n ≤ 48) : ∀ d s : Nat, s + d = 24 * n → ∀ c : Nat, c ≤ 48 → ∃ r : Int32, (∀ post : Int32 → Prop, post r → ∀ f, d < f → wX_power_4 post (nI n) t f (nI c) (nI s)) ∧ (∀ fi la le, rf_T t n (24 * n) fi la le → ∀ post : Int32 → SY → Prop, post r (nI n, nI (rf_n t n (24 * n)), t, cp, fi, la, le) → ∀ f, d < f → wY_power_8 post (nI n) (nI (rf_n t n (24 * n))) t cp fi la le f (nI c) (nI (rf_n t n s))) := by
  have hb := rf_b t (s := 24 * n) hn (by omega)
  intro d
  induction d with
  | zero =>
    intro s hs c hc
    have e : s = 24 * n := by omega
    refine ⟨nI c, fun post hp f hf => ?_, fun fi la le T post hp f hf => ?_⟩
    · obtain ⟨f, rfl⟩ : ∃ g, f = g + 1 := ⟨f - 1, by omega⟩
      exact br_t (by rw [rx_24]; exact nI_le (by omega) (by omega)) hp
    · obtain ⟨f, rfl⟩ : ∃ g, f = g + 1 := ⟨f - 1, by omega⟩
      rw [e]
      exact br_t (nI_le (Nat.le_refl _) (by omega)) hp
  | succ d ih =>
    intro s hs c hc
    have nx : ¬ nI n * 24 ≤ nI s := by rw [rx_24]; exact nI_ge (by omega) (by omega)
    have hz := rf_z_le (t := t) (s := s) hn
    have hq : rf_z t n s / (s % 24 + 1) ≤ rf_z t n s := Nat.div_le_self _ _
    have p0 : ¬ nI (s % 24 + 1) = 0 := nI_ne0 (by omega) (by omega)
    have ed : nI (rf_z t n s) / nI (s % 24 + 1) = nI (rf_z t n s / (s % 24 + 1)) := pk_div (by omega) (by omega) (by omega)
    by_cases R : rf_S t n s = true
    · have hx := rf_e_in (by omega) R
      have hl := rf_lt (t := t) (n := n) (s := s) (m := 24 * n) (by omega) R
      have n1 : ¬ nI (rf_n t n (24 * n)) ≤ nI (rf_n t n s) := nI_ge hl (by omega)
      have n2 : ¬ (96 : Int32) ≤ nI (rf_n t n s) := nI_ge (b := 96) (by omega) (by omega)
      have hin : vp_in (nI (rf_n t n s)) 96 := vp_in_nI (by omega) (by omega)
      have ec : (nI (rf_n t n s)).toNatClampNeg = rf_n t n s := nI_clamp (by omega)
      have p1 : (1 : Int32) ≤ nI (s % 24 + 1) := nI_le (a := 1) (by omega) (by omega)
      have ez : nI (rf_e t n (s / 24) (s % 24 + 1)) - nI (s / 24) + 1 = nI (rf_z t n s) := by
        have ez : rf_z t n s = rf_e t n (s / 24) (s % 24 + 1) + 1 - s / 24 := if_pos R
        rw [ez, pk_sub (by omega), nI_1]
        exact congrArg nI (by omega)
      by_cases a : rf_z t n s / (s % 24 + 1) ≤ c
      · have a' : nI (rf_z t n s / (s % 24 + 1)) ≤ nI c := nI_le a (by omega)
        obtain ⟨r, hX, hY⟩ := ih (s + 1) (by omega) c hc
        rw [rf_n_t R] at hY
        refine ⟨r, fun post hp f hf => ?_, fun fi la le T post hp f hf => ?_⟩
        · obtain ⟨f, rfl⟩ : ∃ g, f = g + 1 := ⟨f - 1, by omega⟩
          refine br_f nx ?_
          refine rx_len hn (by omega) ?_
          refine rx_period (by omega) ?_
          exact ⟨p0, nm_r ed (br_t a' (nm_r (nI_1 _) (hX post hp f (by omega))))⟩
        · obtain ⟨f, rfl⟩ : ∃ g, f = g + 1 := ⟨f - 1, by omega⟩
          obtain ⟨t1, t2, t3⟩ := T s (by omega) R
          refine br_f n1 (br_f n2 ⟨hin, ?_⟩)
          rw [ec, t3]
          refine br_t p1 ⟨hin, ?_⟩
          unfold wY_power_42
          rw [ec, t1, t2, ez]
          exact ⟨hin, hin, p0, nm_r ed (br_t a' (nm_r (nI_1 _) (hY fi la le T post hp f (by omega))))⟩
      · have a' : ¬ nI (rf_z t n s / (s % 24 + 1)) ≤ nI c := nI_ge (by omega) (by omega)
        obtain ⟨r, hX, hY⟩ := ih (s + 1) (by omega) (rf_z t n s / (s % 24 + 1)) (by omega)
        rw [rf_n_t R] at hY
        refine ⟨r, fun post hp f hf => ?_, fun fi la le T post hp f hf => ?_⟩
        · obtain ⟨f, rfl⟩ : ∃ g, f = g + 1 := ⟨f - 1, by omega⟩
          refine br_f nx ?_
          refine rx_len hn (by omega) ?_
          refine rx_period (by omega) ?_
          exact ⟨p0, nm_r ed (br_f a' (nm_r (nI_1 _) (hX post hp f (by omega))))⟩
        · obtain ⟨f, rfl⟩ : ∃ g, f = g + 1 := ⟨f - 1, by omega⟩
          obtain ⟨t1, t2, t3⟩ := T s (by omega) R
          refine br_f n1 (br_f n2 ⟨hin, ?_⟩)
          rw [ec, t3]
          refine br_t p1 ⟨hin, ?_⟩
          unfold wY_power_42
          rw [ec, t1, t2, ez]
          exact ⟨hin, hin, p0, nm_r ed (br_f a' (nm_r (nI_1 _) (hY fi la le T post hp f (by omega))))⟩
    · have ez : rf_z t n s = 0 := if_neg R
      obtain ⟨r, hX, hY⟩ := ih (s + 1) (by omega) c hc
      rw [rf_n_f R] at hY
      refine ⟨r, fun post hp f hf => ?_, fun fi la le T post hp f hf => hY fi la le T post hp f (by omega)⟩
      obtain ⟨f, rfl⟩ : ∃ g, f = g + 1 := ⟨f - 1, by omega⟩
      refine br_f nx ?_
      refine rx_len hn (by omega) ?_
      refine rx_period (by omega) ?_
      exact ⟨p0, nm_r ed (br_t (nI_le (by omega) (by omega)) (nm_r (nI_1 _) (hX post hp f (by omega))))⟩
theorem i_vc_power {k : Nat} {u : SX} {v : SY} (I : i_Rel k u v) (hk : k + 3 ≤ 1536) : wpX_power (fun r => wpY_power (fun r' v' => r' = r ∧ i_Rel (k + 3) u v') v) u := by
  obtain ⟨n, t, fd, cp, fi, la, le, hn, rfl, rfl⟩ := I
  obtain ⟨r, hX, hY⟩ := rr_pw (t := t) (cp := cp) hn (24 * n) 0 (by omega) 0 (by omega)
  refine ⟨24 * n + 1, ?_⟩
  refine hX _ ?_ (24 * n + 1) (by omega)
  unfold wpY_power
  dsimp only
  refine ry_list hn fun fi' la' le' T => ?_
  exact ⟨24 * n + 1, hY fi' la' le' T _ ⟨rfl, rr_mk hn⟩ (24 * n + 1) (by omega)⟩
end
