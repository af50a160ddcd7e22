/-! the component's own methods, each against its pure value -/
theorem rx_2 (i p : Nat) : nI i + 2 * nI p = nI (i + 2 * p) := by
  rw [show (2 : Int32) = nI 2 from rfl, pk_mul, nI_add]
theorem rx_good {n j : Nat} (hn : n ≤ 48) (hj : j < n) {t : Nat → Int32} {post : Int32 → Prop} (h : post 1) : wpX_isGood post (nI n, t) (nI j) :=
  br_f (nI_pos (by omega)) (br_f (nI_ge hj (by omega)) h)
theorem rx_sb22 {t : Nat → Int32} {n i j m : Nat} (hn : n ≤ 48) (hi : i + m ≤ n) (hj : j + m ≤ n) (post : Int32 → Prop) : ∀ d k : Nat, k + d = m → post (nI (k + rf_l t d (i + k) (j + k))) → ∀ f, d < f → wX_sharedBeginning_22 post (nI i) (nI j) (nI m) (nI n) t f (nI k) := by
  intro d
  induction d with
  | zero =>
    intro k hk hp f hf
    obtain ⟨f, rfl⟩ : ∃ g, f = g + 1 := ⟨f - 1, by omega⟩
    have e : k = m := by omega
    subst e
    exact br_t (nI_le (Nat.le_refl _) (by omega)) hp
  | succ d ih =>
    intro k hk hp f hf
    obtain ⟨f, rfl⟩ : ∃ g, f = g + 1 := ⟨f - 1, by omega⟩
    have e1 : (nI i + nI k).toNatClampNeg = i + k := pk_cl (i + k) (nI_add i k)
    have e2 : (nI j + nI k).toNatClampNeg = j + k := pk_cl (j + k) (nI_add j k)
    refine br_f (nI_ge (by omega) (by omega)) ⟨pk_in (i + k) 48 (by omega) (nI_add i k), pk_in (j + k) 48 (by omega) (nI_add j k), ?_⟩
    rw [e1, e2]
    by_cases c : t (i + k) = t (j + k)
    · refine br_t c (nm_r (nI_1 k) (ih (k + 1) (by omega) ?_ f (by omega)))
      have e : rf_l t (d + 1) (i + k) (j + k) = rf_l t d (i + k + 1) (j + k + 1) + 1 := if_pos c
      rw [e] at hp
      rw [show k + 1 + rf_l t d (i + (k + 1)) (j + (k + 1)) = k + (rf_l t d (i + k + 1) (j + k + 1) + 1) by
        rw [show i + (k + 1) = i + k + 1 by omega, show j + (k + 1) = j + k + 1 by omega]; omega]
      exact hp
    · refine br_f c ?_
      have e : rf_l t (d + 1) (i + k) (j + k) = 0 := if_neg c
      rw [e] at hp
      exact hp
theorem rx_sb {t : Nat → Int32} {n i j : Nat} (hn : n ≤ 48) (hij : i ≤ j) (hj : j ≤ n) {post : Int32 → Prop} (h : post (nI (rf_l t (n - j) i j))) : wpX_sharedBeginning post (nI n, t) (nI i) (nI j) := by
  refine br_t (nI_le hij (by omega)) (nm_r (pk_sub hj) ⟨n - j + 1, ?_⟩)
  refine rx_sb22 hn (by omega) (by omega) post (n - j) 0 (by omega) ?_ _ (by omega)
  rw [Nat.zero_add]
  exact h
theorem rx_sb' {t : Nat → Int32} {n i j : Nat} (hn : n ≤ 48) (hij : j < i) (hi : i ≤ n) {post : Int32 → Prop} (h : post (nI (rf_l t (n - i) i j))) : wpX_sharedBeginning post (nI n, t) (nI i) (nI j) := by
  refine br_f (nI_ge hij (by omega)) (nm_r (pk_sub hi) ⟨n - i + 1, ?_⟩)
  refine rx_sb22 hn (by omega) (by omega) post (n - i) 0 (by omega) ?_ _ (by omega)
  rw [Nat.zero_add]
  exact h
theorem rx_sq {t : Nat → Int32} {n i p : Nat} (hn : n ≤ 48) (hi : i ≤ 48) (hp : p ≤ 24) {post : Int32 → Prop} (h1 : i + 2 * p ≤ n → p ≤ rf_L t n i p → post 1) (h0 : ¬ (i + 2 * p ≤ n ∧ p ≤ rf_L t n i p) → post 0) : wpX_isSquare post (nI n, t) (nI i) (nI p) := by
  refine pk_lt n (i + 2 * p) (fun h => h0 fun z => by omega) (fun h => ?_) rfl (rx_2 i p) (by omega) (by omega)
  rw [nI_add]
  refine rx_sb hn (by omega) (by omega) ?_
  have hl := rf_l_le t (n - (i + p)) i (i + p)
  exact pk_lt (rf_l t (n - (i + p)) i (i + p)) p (fun z => h0 fun y => by have := y.2; unfold rf_L at this; omega) (fun z => h1 h z) rfl rfl (by omega) (by omega)
theorem rx_lp9 {t : Nat → Int32} {n i e : Nat} (hn : n ≤ 48) (hi : i + e ≤ n) (post : Int32 → Prop) : ∀ d p : Nat, p + d = e → post (nI (rf_s t i e d p)) → ∀ f, d < f → wX_leastPeriod_9 post (nI i) (nI e) (nI n) t f (nI p) := by
  intro d
  induction d with
  | zero =>
    intro p hp h f hf
    obtain ⟨f, rfl⟩ : ∃ g, f = g + 1 := ⟨f - 1, by omega⟩
    have e0 : p = e := by omega
    subst e0
    exact br_t (nI_le (Nat.le_refl _) (by omega)) h
  | succ d ih =>
    intro p hp h f hf
    obtain ⟨f, rfl⟩ : ∃ g, f = g + 1 := ⟨f - 1, by omega⟩
    refine br_f (nI_ge (by omega) (by omega)) ?_
    rw [nI_add]
    refine rx_sb hn (by omega) (by omega) ?_
    have hl := rf_l_le t (n - (i + p)) i (i + p)
    have hh : e - p ≤ rf_l t (n - (i + p)) i (i + p) ↔ rf_H t i p (e - p) := rf_h (by omega)
    refine pk_lt (rf_l t (n - (i + p)) i (i + p)) (e - p) (fun z => ?_) (fun z => ?_) rfl (pk_sub (by omega)) (by omega) (by omega)
    · refine nm_r (nI_1 p) (ih (p + 1) (by omega) ?_ f (by omega))
      rw [rf_s_f (fun y => by have := hh.mpr y; omega)] at h
      exact h
    · rw [rf_s_t (hh.mp z)] at h
      exact h
theorem rx_lp {t : Nat → Int32} {n i j e : Nat} (hn : n ≤ 48) (he : 1 ≤ e) (hj : j + 1 = i + e) (hi : i + e ≤ n) {post : Int32 → Prop} (h : post (nI (rf_P t i e))) : wpX_leastPeriod post (nI n, t) (nI i) (nI j) := by
  refine nm_r (e' := nI e) ?_ ⟨e, ?_⟩
  · rw [pk_sub (by omega), nI_1]
    exact congrArg nI (by omega)
  · exact rx_lp9 hn hi post (e - 1) 1 (by omega) h e (by omega)
theorem rx_last50 {t : Nat → Int32} {n i p : Nat} (hn : n ≤ 48) (hp : 1 ≤ p) (h1 : i + 2 * p ≤ n) (h2 : p ≤ rf_L t n i p) (h3 : ¬ (0 < i ∧ t (i - 1) = t (i - 1 + p))) {post : Int32 → Prop} (h : post (rf_v t n i p)) : wX_lastOfRun_50 post (nI i) (nI p) (nI n) t := by
  unfold wX_lastOfRun_50
  rw [nI_add]
  refine rx_sb hn (by omega) (by omega) ?_
  have hl := rf_L_le t n i p
  show ∀ x, x = nI (i + p) + nI (rf_L t n i p) - 1 → _
  refine nm_r (e' := nI (rf_e t n i p)) ?_ ?_
  · rw [nI_add, show (1 : Int32) = nI 1 from rfl, pk_sub (by omega)]; rfl
  · refine rx_lp (e := p + rf_L t n i p) hn (by omega) (by unfold rf_e; omega) (by omega) ?_
    have hx := rf_P_x t i (p + rf_L t n i p) (by omega)
    refine pk_eq (rf_P t i (p + rf_L t n i p)) p (fun z => ?_) (fun z => ?_) rfl rfl (by omega) (by omega)
    · rw [rf_v_t (rf_R_iff.mpr ⟨h1, h2, h3, z⟩)] at h
      exact h
    · rw [rf_v_f (fun y => z (rf_R_iff.mp y).2.2.2)] at h
      exact h
theorem rx_start {t : Nat → Int32} {n s : Nat} (hs : s < 2 ^ 31) {post : Int32 → Prop} (h : post (nI (s / 24))) : wpX_startOfSlot post (nI n, t) (nI s) := by
  refine ⟨by decide, ?_⟩
  rw [show (24 : Int32) = nI 24 from rfl, pk_div hs (by omega) (by omega)]
  exact h
theorem rx_period {t : Nat → Int32} {n s : Nat} (hs : s < 2 ^ 31) {post : Int32 → Prop} (h : post (nI (s % 24 + 1))) : wpX_periodOfSlot post (nI n, t) (nI s) := by
  refine ⟨by decide, ?_⟩
  rw [show (24 : Int32) = nI 24 from rfl, pk_rem hs (by omega) (by omega), nI_1]
  exact h
theorem rx_last {t : Nat → Int32} {n s : Nat} (hn : n ≤ 48) (hs : s < 24 * n) {post : Int32 → Prop} (h : post (rf_v t n (s / 24) (s % 24 + 1))) : wpX_lastOfRun post (nI n, t) (nI s) := by
  unfold wpX_lastOfRun
  dsimp only
  refine rx_start (by omega) ?_
  refine rx_period (by omega) ?_
  have hi : s / 24 < n := by omega
  have hp : s % 24 + 1 ≤ 24 := by omega
  have hp1 : 1 ≤ s % 24 + 1 := by omega
  generalize s / 24 = i at h hi
  generalize s % 24 + 1 = p at h hp hp1
  refine rx_sq hn (by omega) hp (fun h1 h2 => ?_) (fun z => ?_)
  · refine br_f (by decide) ?_
    refine pk_le i 0 (fun z => ?_) (fun z => ?_) rfl rfl (by omega) (by omega)
    · exact rx_last50 hn hp1 h1 h2 (fun y => by omega) h
    · have e1 : nI i - 1 = nI (i - 1) := by rw [show (1 : Int32) = nI 1 from rfl, pk_sub (by omega)]
      rw [e1, nI_add, nI_clamp (by omega), nI_clamp (by omega)]
      refine ⟨vp_in_nI (by omega) (by omega), vp_in_nI (by omega) (by omega), br_c (fun c => ?_) (fun c => ?_)⟩
      · rw [rf_v_f (fun y => (rf_R_iff.mp y).2.2.1 ⟨z, c⟩)] at h
        exact h
      · exact rx_last50 hn hp1 h1 h2 (fun y => c y.2) h
  · refine br_t rfl ?_
    rw [rf_v_f (fun y => z ⟨(rf_R_iff.mp y).1, (rf_R_iff.mp y).2.1⟩)] at h
    exact h
