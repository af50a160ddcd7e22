/-! the reference's own methods, each against its pure value -/
section
variable {t : Nat → Int32} {n : Nat} {fd : Int32} {cp fi la le : Nat → Int32}
theorem ry_good {j : Nat} (hn : n ≤ 48) (hj : j < n) {post : Int32 → Prop} (h : post 0) : wpY_bad post (nI n, fd, t, cp, fi, la, le) (nI j) :=
  br_f (nI_pos (by omega)) (br_f (nI_ge hj (by omega)) (br_t (nI_lt (b := 48) (by omega) (by omega)) h))
theorem ry_hp14 {i j e p : Nat} (he : j + 1 = i + e) (hi : i + e ≤ 48) (hp : p ≤ 48) (post : Int32 → Prop) (h1 : rf_H t i p (e - p) → post 1) (h0 : ¬ rf_H t i p (e - p) → post 0) : ∀ d a : Nat, a + d = e → (∀ k, k < a → t (i + k) = t (i + p + k)) → ∀ f, d < f → wY_hasPeriod_14 post (nI j) (nI p) (nI n) fd t cp fi la le f (nI (i + a)) := by
  intro d
  induction d with
  | zero =>
    intro a ha H f hf
    obtain ⟨f, rfl⟩ : ∃ g, f = g + 1 := ⟨f - 1, by omega⟩
    refine pk_lt j (i + a + p) (fun _ => h1 fun k hk => H k (by omega)) (fun z => ?_) rfl (nI_add _ _) (by omega) (by omega)
    omega
  | succ d ih =>
    intro a ha H f hf
    obtain ⟨f, rfl⟩ : ∃ g, f = g + 1 := ⟨f - 1, by omega⟩
    refine pk_lt j (i + a + p) (fun _ => h1 fun k hk => H k (by omega)) (fun z => ?_) rfl (nI_add _ _) (by omega) (by omega)
    refine pk_le 48 (i + a + p) (fun y => by omega) (fun y => ?_) rfl (nI_add _ _) (by omega) (by omega)
    rw [nI_add, nI_clamp (by omega), nI_clamp (by omega)]
    refine ⟨vp_in_nI (by omega) (by omega), vp_in_nI (by omega) (by omega), br_c (fun c => ?_) (fun c => ?_)⟩
    · refine nm_r (nI_1 (i + a)) ?_
      refine ih (a + 1) (by omega) (fun k hk => ?_) f (by omega)
      by_cases q : k = a
      · rw [q, c, show i + a + p = i + p + a by omega]
      · exact H k (by omega)
    · refine h0 fun y => c ?_
      rw [show i + a + p = i + p + a by omega]
      exact y a (by omega)
theorem ry_hp {i j e p : Nat} (he : j + 1 = i + e) (hi : i + e ≤ 48) (hp : p ≤ 48) {post : Int32 → Prop} (h1 : p ≤ e → rf_H t i p (e - p) → post 1) (h0 : ¬ (p ≤ e ∧ rf_H t i p (e - p)) → post 0) (he1 : 1 ≤ e) : wpY_hasPeriod post (nI n, fd, t, cp, fi, la, le) (nI i) (nI j) (nI p) := by
  refine pk_le p e (fun z => ⟨e + 1, ?_⟩) (fun z => h0 fun y => by omega) rfl ?_ (by omega) (by omega)
  · exact ry_hp14 he hi hp post (h1 z) (fun y => h0 fun w => y w.2) e 0 (by omega) (fun k hk => by omega) _ (by omega)
  · rw [pk_sub (by omega), nI_1]
    exact congrArg nI (by omega)
theorem ry_lp2 {i j e : Nat} (he : j + 1 = i + e) (hi : i + e ≤ 48) (he1 : 1 ≤ e) (post : Int32 → Prop) : ∀ d p : Nat, p + d = e → post (nI (rf_s t i e d p)) → ∀ f, d < f → wY_leastPeriod_2 post (nI i) (nI j) (nI n) fd t cp fi la le f (nI p) := by
  intro d
  induction d with
  | zero =>
    intro p hp h f hf
    obtain ⟨f, rfl⟩ : ∃ g, f = g + 1 := ⟨f - 1, by omega⟩
    refine pk_lt 48 p (fun z => by omega) (fun z => ?_) rfl rfl (by omega) (by omega)
    refine ry_hp he hi (by omega) (fun _ _ => br_f (by decide) h) (fun y => absurd ⟨by omega, fun k hk => by omega⟩ y) he1
  | succ d ih =>
    intro p hp h f hf
    obtain ⟨f, rfl⟩ : ∃ g, f = g + 1 := ⟨f - 1, by omega⟩
    refine pk_lt 48 p (fun z => by omega) (fun z => ?_) rfl rfl (by omega) (by omega)
    refine ry_hp he hi (by omega) (fun _ y => br_f (by decide) ?_) (fun y => br_t rfl (nm_r (nI_1 p) ?_)) he1
    · rw [rf_s_t y] at h
      exact h
    · rw [rf_s_f (fun w => y ⟨by omega, w⟩)] at h
      exact ih (p + 1) (by omega) h f (by omega)
theorem ry_lp {i j e : Nat} (he1 : 1 ≤ e) (he : j + 1 = i + e) (hi : i + e ≤ 48) {post : Int32 → Prop} (h : post (nI (rf_P t i e))) : wpY_leastPeriod post (nI n, fd, t, cp, fi, la, le) (nI i) (nI j) :=
  ⟨e, ry_lp2 he hi he1 post (e - 1) 1 (by omega) h e (by omega)⟩
theorem ry_run83 {i j p : Nat} (hn : n ≤ 48) (hp : 1 ≤ p) (h1 : i + 2 * p ≤ n) (h2 : p ≤ rf_L t n i p) (h3 : ¬ (0 < i ∧ t (i - 1) = t (i - 1 + p))) (hj : j = rf_e t n i p) {post : Int32 → Prop} (h : post (rf_v t n i p)) : wY_runFrom_83 post (nI i) (nI p) (nI j) (nI n) fd t cp fi la le := by
  unfold wY_runFrom_83
  have hl := rf_L_le t n i p
  subst hj
  refine ry_lp (e := p + rf_L t n i p) (by omega) (by unfold rf_e; omega) (by omega) ?_
  have hx := rf_P_x t i (p + rf_L t n i p) (by omega)
  refine pk_eq (rf_P t i (p + rf_L t n i p)) p (fun z => ?_) (fun z => ?_) rfl rfl (by omega) (by omega)
  · rw [rf_v_t (rf_R_iff.mpr ⟨h1, h2, h3, z⟩)] at h
    exact h
  · rw [rf_v_f (fun y => z (rf_R_iff.mp y).2.2.2)] at h
    exact h
theorem ry_run55 {i p : Nat} (hn : n ≤ 48) (hp : 1 ≤ p) (h1 : i + 2 * p ≤ n) (h2 : p ≤ rf_L t n i p) (h3 : ¬ (0 < i ∧ t (i - 1) = t (i - 1 + p))) {post : Int32 → Prop} (h : post (rf_v t n i p)) : ∀ d a : Nat, a + d = rf_L t n i p → ∀ j, j + 1 = i + p + a → ∀ f, d < f → wY_runFrom_55 post (nI i) (nI p) (nI n) fd t cp fi la le f (nI j) := by
  have hl := rf_L_le t n i p
  intro d
  induction d with
  | zero =>
    intro a ha j hj f hf
    obtain ⟨f, rfl⟩ : ∃ g, f = g + 1 := ⟨f - 1, by omega⟩
    have ej : j = rf_e t n i p := by unfold rf_e; omega
    refine pk_le n (j + 1) (fun z => ry_run83 hn hp h1 h2 h3 ej h) (fun z => ?_) rfl (nI_1 j) (by omega) (by omega)
    rw [nI_1]
    refine ry_hp (e := p + a + 1) (by omega) (by omega) (by omega) (fun y w => ?_) (fun _ => br_t rfl (ry_run83 hn hp h1 h2 h3 ej h)) (by omega)
    have hw : a + 1 ≤ rf_L t n i p := (rf_L_ge (by omega)).mpr (by rw [show p + a + 1 - p = a + 1 by omega] at w; exact w)
    omega
  | succ d ih =>
    intro a ha j hj f hf
    obtain ⟨f, rfl⟩ : ∃ g, f = g + 1 := ⟨f - 1, by omega⟩
    refine pk_le n (j + 1) (fun z => by omega) (fun z => ?_) rfl (nI_1 j) (by omega) (by omega)
    rw [nI_1]
    refine ry_hp (e := p + a + 1) (by omega) (by omega) (by omega) (fun y w => br_f (by decide) (nm_e (ih (a + 1) (by omega) (j + 1) (by omega) f (by omega)))) (fun y => absurd ⟨by omega, ?_⟩ y) (by omega)
    rw [show p + a + 1 - p = a + 1 by omega]
    exact (rf_L_ge (n := n) (by omega)).mp (by omega)
theorem ry_run {i p : Nat} (hn : n ≤ 48) (hi : i < n) (hp : 1 ≤ p) (hp2 : p ≤ 24) {post : Int32 → Prop} (h : post (rf_v t n i p)) : wpY_runFrom post (nI n, fd, t, cp, fi, la, le) (nI i) (nI p) := by
  have e0 : nI i + 2 * nI p - 1 = nI (i + 2 * p - 1) := by rw [rx_2, show (1 : Int32) = nI 1 from rfl, pk_sub (by omega)]
  refine nm_r e0 ?_
  refine pk_le n (i + 2 * p - 1) (fun z => ?_) (fun z => ?_) rfl rfl (by omega) (by omega)
  · rw [rf_v_f (fun y => by have := rf_R1 y; omega)] at h
    exact h
  · have hL : p ≤ rf_L t n i p ↔ rf_H t i p p := rf_L_ge (by omega)
    refine ry_hp (e := 2 * p) (by omega) (by omega) (by omega) (fun _ y => br_f (by decide) ?_) (fun y => br_t rfl ?_) (by omega)
    · rw [show 2 * p - p = p by omega] at y
      have h2 := hL.mpr y
      refine pk_le i 0 (fun w => ?_) (fun w => ?_) rfl rfl (by omega) (by omega)
      · exact ⟨_, ry_run55 hn hp (by omega) h2 (fun w => by omega) h (rf_L t n i p - p) p (by omega) _ (by omega) _ (Nat.lt_succ_self _)⟩
      · have e1 : nI i - 1 = nI (i - 1) := by rw [show (1 : Int32) = nI 1 from rfl, pk_sub (by omega)]
        rw [e1, nI_add, nI_clamp (by omega), nI_clamp (by omega)]
        refine ⟨vp_in_nI (by omega) (by omega), vp_in_nI (by omega) (by omega), br_c (fun c => ?_) (fun c => ?_)⟩
        · rw [rf_v_f (fun y => (rf_R_iff.mp y).2.2.1 ⟨w, c⟩)] at h
          exact h
        · exact ⟨_, ry_run55 hn hp (by omega) h2 (fun w => c w.2) h (rf_L t n i p - p) p (by omega) _ (by omega) _ (Nat.lt_succ_self _)⟩
    · rw [rf_v_f (fun w => y ⟨by omega, by rw [show 2 * p - p = p by omega]; exact rf_R2 w⟩)] at h
      exact h
end
