/-! what is asked of the runs -/
theorem rx_24 (n : Nat) : nI n * 24 = nI (24 * n) := by
  rw [show (24 : Int32) = nI 24 from rfl, pk_mul, Nat.mul_comm]
theorem rf_k_ex {P : Nat → Bool} : ∀ m j : Nat, j < rf_k P m → ∃ s, s < m ∧ P s = true ∧ rf_k P s = j := by
  intro m
  induction m with
  | zero =>
    intro j hj
    have : j < 0 := hj
    omega
  | succ m ih =>
    intro j hj
    by_cases c : P m = true
    · rw [rf_k_t c] at hj
      by_cases e : j = rf_k P m
      · exact ⟨m, by omega, c, e.symm⟩
      · obtain ⟨s, h1, h2, h3⟩ := ih j (by omega)
        exact ⟨s, by omega, h2, h3⟩
    · rw [rf_k_f c] at hj
      obtain ⟨s, h1, h2, h3⟩ := ih j hj
      exact ⟨s, by omega, h2, h3⟩
theorem rf_lt {t : Nat → Int32} {n s m : Nat} (hs : s < m) (h : rf_S t n s = true) : rf_n t n s < rf_n t n m := by
  have h1 := rf_n_t h
  have h2 : rf_n t n (s + 1) ≤ rf_n t n m := rf_n_m t n (by omega)
  omega
theorem rx_runs {t : Nat → Int32} {n : Nat} (hn : n ≤ 48) (post : Int32 → Prop) (h : post (nI (rf_n t n (24 * n)))) : ∀ d s : Nat, s + d = 24 * n → ∀ f, d < f → wX_runs_4 post (nI n) t f (nI (rf_n t n s)) (nI s) := by
  intro d
  induction d with
  | zero =>
    intro s hs f hf
    obtain ⟨f, rfl⟩ : ∃ g, f = g + 1 := ⟨f - 1, by omega⟩
    have e : s = 24 * n := by omega
    refine br_t (by rw [rx_24]; exact nI_le (by omega) (by omega)) ?_
    rw [e]
    exact h
  | succ d ih =>
    intro s hs f hf
    obtain ⟨f, rfl⟩ : ∃ g, f = g + 1 := ⟨f - 1, by omega⟩
    refine br_f (by rw [rx_24]; exact nI_ge (by omega) (by omega)) ?_
    refine rx_last hn (by omega) ?_
    have g := ih (s + 1) (by omega) f (by omega)
    by_cases c : rf_S t n s = true
    · have hx := rf_e_in (by omega) c
      rw [rf_v_t c]
      rw [rf_n_t c] at g
      exact br_f (nI_pos (by omega)) (nm_r (nI_1 _) (nm_r (nI_1 _) g))
    · rw [rf_v_f c]
      rw [rf_n_f c] at g
      exact br_t (by decide) (nm_r (nI_1 _) g)
theorem i_vc_runs {k : Nat} {u : SX} {v : SY} (I : i_Rel k u v) (hk : k + 3 ≤ 1536) : wpX_runs (fun r => wpY_runs (fun r' v' => r' = r ∧ i_Rel (k + 3) u v') v) u := by
  obtain ⟨n, t, fd, cp, fi, la, le, hn, rfl, rfl⟩ := I
  refine ⟨24 * n + 1, ?_⟩
  refine rx_runs hn _ ?_ (24 * n) 0 (by omega) (24 * n + 1) (by omega)
  unfold wpY_runs
  dsimp only
  refine ry_list hn fun fi' la' le' T => ?_
  exact ⟨rfl, rr_mk hn⟩
theorem rx_slot4 {t : Nat → Int32} {n : Nat} {r : Int32} (hn : n ≤ 48) (post : Int32 → Prop) (h1 : ∀ s, s < 24 * n → rf_S t n s = true → r = nI (rf_n t n s) → post (nI s)) (h0 : (∀ s, s < 24 * n → rf_S t n s = true → ¬ r = nI (rf_n t n s)) → post (-1)) : ∀ d s : Nat, s + d = 24 * n → (∀ q, q < s → rf_S t n q = true → ¬ r = nI (rf_n t n q)) → ∀ f, d < f → wX_slotOfRun_4 post r (nI n) t f (nI (rf_n t n s)) (nI s) := by
  intro d
  induction d with
  | zero =>
    intro s hs H f hf
    obtain ⟨f, rfl⟩ : ∃ g, f = g + 1 := ⟨f - 1, by omega⟩
    exact br_t (by rw [rx_24]; exact nI_le (by omega) (by omega)) (h0 fun q hq => H q (by omega))
  | succ d ih =>
    intro s hs H f hf
    obtain ⟨f, rfl⟩ : ∃ g, f = g + 1 := ⟨f - 1, by omega⟩
    refine br_f (by rw [rx_24]; exact nI_ge (by omega) (by omega)) ?_
    refine rx_last hn (by omega) ?_
    by_cases c : rf_S t n s = true
    · have hx := rf_e_in (by omega) c
      rw [rf_v_t c]
      refine br_f (nI_pos (by omega)) ?_
      by_cases z : nI (rf_n t n s) = r
      · exact br_t z (h1 s (by omega) c z.symm)
      · have g := ih (s + 1) (by omega) (fun q hq gq => by
          by_cases e : q = s
          · subst e; exact fun y => z y.symm
          · exact H q (by omega) gq) f (by omega)
        rw [rf_n_t c] at g
        exact br_f z (nm_r (nI_1 _) (nm_r (nI_1 _) g))
    · have g := ih (s + 1) (by omega) (fun q hq gq => by
          by_cases e : q = s
          · subst e; exact absurd gq c
          · exact H q (by omega) gq) f (by omega)
      rw [rf_v_f c]
      rw [rf_n_f c] at g
      exact br_t (by decide) (nm_r (nI_1 _) g)
theorem rx_slot {t : Nat → Int32} {n : Nat} {r : Int32} (hn : n ≤ 48) {post : Int32 → Prop} (h1 : ∀ s, s < 24 * n → rf_S t n s = true → r = nI (rf_n t n s) → post (nI s)) (h0 : (∀ s, s < 24 * n → rf_S t n s = true → ¬ r = nI (rf_n t n s)) → post (-1)) : wpX_slotOfRun post (nI n, t) r :=
  ⟨24 * n + 1, rx_slot4 hn post h1 h0 (24 * n) 0 (by omega) (fun q hq => by omega) (24 * n + 1) (by omega)⟩
theorem rf_none {t : Nat → Int32} {n : Nat} {r : Int32} (hn : n ≤ 48) (h : ∀ s, s < 24 * n → rf_S t n s = true → ¬ r = nI (rf_n t n s)) (h0 : ¬ r < 0) : ¬ r < nI (rf_n t n (24 * n)) := by
  intro z
  obtain ⟨j, hj, rfl⟩ := nI_of h0
  have hb := rf_b t (s := 24 * n) hn (by omega)
  have hl : j < rf_n t n (24 * n) := (nI_ltI hj (by omega)).mp z
  obtain ⟨s, h1, h2, h3⟩ := rf_k_ex _ _ hl
  exact h s h1 h2 (congrArg nI h3.symm)
theorem i_vc_start {k : Nat} {u : SX} {v : SY} (I : i_Rel k u v) (hk : k + 3 ≤ 1536) (v1 : Int32) : wpX_start (fun r => wpY_start (fun r' v' => r' = r ∧ i_Rel (k + 3) u v') v v1) u v1 := by
  obtain ⟨n, t, fd, cp, fi, la, le, hn, rfl, rfl⟩ := I
  have hb := rf_b t (s := 24 * n) hn (by omega)
  unfold wpX_start wpY_start
  dsimp only
  refine rx_slot hn (fun s hs R e => ?_) (fun H => ?_)
  · subst e
    have hl := rf_lt hs R
    refine br_t (nI_pos' (by omega)) ?_
    refine rx_start (by omega) ?_
    refine ry_list hn fun fi' la' le' T => ?_
    obtain ⟨t1, t2, t3⟩ := T s hs R
    refine br_f (nI_pos (by omega)) (br_t (nI_lt hl (by omega)) ⟨vp_in_nI (by omega) (by omega), ?_, rr_mk hn⟩)
    rw [nI_clamp (by omega)]
    exact t1
  · refine br_f (by decide) ?_
    refine ry_list hn fun fi' la' le' T => ?_
    by_cases h0 : v1 < 0
    · exact br_t h0 ⟨rfl, rr_mk hn⟩
    · exact br_f h0 (br_f (rf_none hn H h0) ⟨rfl, rr_mk hn⟩)
theorem i_vc_end {k : Nat} {u : SX} {v : SY} (I : i_Rel k u v) (hk : k + 3 ≤ 1536) (v1 : Int32) : wpX_end (fun r => wpY_end (fun r' v' => r' = r ∧ i_Rel (k + 3) u v') v v1) u v1 := by
  obtain ⟨n, t, fd, cp, fi, la, le, hn, rfl, rfl⟩ := I
  have hb := rf_b t (s := 24 * n) hn (by omega)
  unfold wpX_end wpY_end
  dsimp only
  refine rx_slot hn (fun s hs R e => ?_) (fun H => ?_)
  · subst e
    have hl := rf_lt hs R
    refine br_t (nI_pos' (by omega)) ?_
    refine rx_last hn hs ?_
    rw [rf_v_t R]
    refine ry_list hn fun fi' la' le' T => ?_
    obtain ⟨t1, t2, t3⟩ := T s hs R
    refine br_f (nI_pos (by omega)) (br_t (nI_lt hl (by omega)) ⟨vp_in_nI (by omega) (by omega), ?_, rr_mk hn⟩)
    rw [nI_clamp (by omega)]
    exact t2
  · refine br_f (by decide) ?_
    refine ry_list hn fun fi' la' le' T => ?_
    by_cases h0 : v1 < 0
    · exact br_t h0 ⟨rfl, rr_mk hn⟩
    · exact br_f h0 (br_f (rf_none hn H h0) ⟨rfl, rr_mk hn⟩)
theorem i_vc_period {k : Nat} {u : SX} {v : SY} (I : i_Rel k u v) (hk : k + 3 ≤ 1536) (v1 : Int32) : wpX_period (fun r => wpY_period (fun r' v' => r' = r ∧ i_Rel (k + 3) u v') v v1) u v1 := by
  obtain ⟨n, t, fd, cp, fi, la, le, hn, rfl, rfl⟩ := I
  have hb := rf_b t (s := 24 * n) hn (by omega)
  unfold wpX_period wpY_period
  dsimp only
  refine rx_slot hn (fun s hs R e => ?_) (fun H => ?_)
  · subst e
    have hl := rf_lt hs R
    refine br_t (nI_pos' (by omega)) ?_
    refine rx_period (by omega) ?_
    refine ry_list hn fun fi' la' le' T => ?_
    obtain ⟨t1, t2, t3⟩ := T s hs R
    refine br_f (nI_pos (by omega)) (br_t (nI_lt hl (by omega)) ⟨vp_in_nI (by omega) (by omega), ?_, rr_mk hn⟩)
    rw [nI_clamp (by omega)]
    exact t3
  · refine br_f (by decide) ?_
    refine ry_list hn fun fi' la' le' T => ?_
    by_cases h0 : v1 < 0
    · exact br_t h0 ⟨rfl, rr_mk hn⟩
    · exact br_f h0 (br_f (rf_none hn H h0) ⟨rfl, rr_mk hn⟩)
theorem rr_at {t cp : Nat → Int32} {n i : Nat} (hn : n ≤ 48) (hi : i < n) : ∀ d s : Nat, s + d = 24 * n → ∀ c : Int32, ∃ r : Int32, (∀ post : Int32 → Prop, post r → ∀ f, d < f → wX_runsAt_14 post (nI i) (nI n) t f c (nI s)) ∧ (∀ fi la le, rf_T t n (24 * n) fi la le → ∀ post : Int32 → SY → Prop, post r (nI n, nI (rf_n t n (24 * n)), t, cp, fi, la, le) → ∀ f, d < f → wY_runsAt_18 post (nI i) (nI n) (nI (rf_n t n (24 * n))) t cp fi la le f c (nI (rf_n t n s))) := by
  have hb := rf_b t (s := 24 * n) hn (by omega)
  intro d
  induction d with
  | zero =>
    intro s hs c
    have e : s = 24 * n := by omega
    refine ⟨c, fun post hp f hf => ?_, fun fi la le T post hp f hf => ?_⟩
    · obtain ⟨f, rfl⟩ : ∃ g, f = g + 1 := ⟨f - 1, by omega⟩
      exact br_t (by rw [rx_24]; exact nI_le (by omega) (by omega)) hp
    · obtain ⟨f, rfl⟩ : ∃ g, f = g + 1 := ⟨f - 1, by omega⟩
      rw [e]
      exact br_t (nI_le (Nat.le_refl _) (by omega)) hp
  | succ d ih =>
    intro s hs c
    have nx : ¬ nI n * 24 ≤ nI s := by rw [rx_24]; exact nI_ge (by omega) (by omega)
    by_cases R : rf_S t n s = true
    · have hx := rf_e_in (by omega) R
      have hl := rf_lt (t := t) (n := n) (s := s) (m := 24 * n) (by omega) R
      have n1 : ¬ nI (rf_n t n (24 * n)) ≤ nI (rf_n t n s) := nI_ge hl (by omega)
      have n2 : ¬ (96 : Int32) ≤ nI (rf_n t n s) := nI_ge (b := 96) (by omega) (by omega)
      have hin : vp_in (nI (rf_n t n s)) 96 := vp_in_nI (by omega) (by omega)
      have ec : (nI (rf_n t n s)).toNatClampNeg = rf_n t n s := nI_clamp (by omega)
      by_cases a : i < s / 24
      · obtain ⟨r, hX, hY⟩ := ih (s + 1) (by omega) c
        rw [rf_n_t R] at hY
        have a' : nI i < nI (s / 24) := nI_lt a (by omega)
        refine ⟨r, fun post hp f hf => ?_, fun fi la le T post hp f hf => ?_⟩
        · obtain ⟨f, rfl⟩ : ∃ g, f = g + 1 := ⟨f - 1, by omega⟩
          refine br_f nx ?_
          refine rx_start (by omega) ?_
          exact br_t a' (nm_r (nI_1 _) (hX post hp f (by omega)))
        · obtain ⟨f, rfl⟩ : ∃ g, f = g + 1 := ⟨f - 1, by omega⟩
          obtain ⟨t1, t2, t3⟩ := T s (by omega) R
          refine br_f n1 (br_f n2 ⟨hin, ?_⟩)
          rw [ec, t1]
          exact br_t a' (nm_r (nI_1 _) (hY fi la le T post hp f (by omega)))
      · have a' : ¬ nI i < nI (s / 24) := nI_nlt (by omega) (by omega)
        by_cases b : rf_e t n (s / 24) (s % 24 + 1) < i
        · obtain ⟨r, hX, hY⟩ := ih (s + 1) (by omega) c
          rw [rf_n_t R] at hY
          have b' : nI (rf_e t n (s / 24) (s % 24 + 1)) < nI i := nI_lt b (by omega)
          refine ⟨r, fun post hp f hf => ?_, fun fi la le T post hp f hf => ?_⟩
          · obtain ⟨f, rfl⟩ : ∃ g, f = g + 1 := ⟨f - 1, by omega⟩
            refine br_f nx ?_
            refine rx_start (by omega) ?_
            refine br_f a' ?_
            refine rx_last hn (by omega) ?_
            rw [rf_v_t R]
            exact br_t b' (nm_r (nI_1 _) (hX post hp f (by omega)))
          · obtain ⟨f, rfl⟩ : ∃ g, f = g + 1 := ⟨f - 1, by omega⟩
            obtain ⟨t1, t2, t3⟩ := T s (by omega) R
            refine br_f n1 (br_f n2 ⟨hin, ?_⟩)
            rw [ec, t1, t2]
            exact br_f a' ⟨hin, br_t b' (nm_r (nI_1 _) (hY fi la le T post hp f (by omega)))⟩
        · obtain ⟨r, hX, hY⟩ := ih (s + 1) (by omega) (c + 1)
          rw [rf_n_t R] at hY
          have b' : ¬ nI (rf_e t n (s / 24) (s % 24 + 1)) < nI i := nI_nlt (by omega) (by omega)
          refine ⟨r, fun post hp f hf => ?_, fun fi la le T post hp f hf => ?_⟩
          · obtain ⟨f, rfl⟩ : ∃ g, f = g + 1 := ⟨f - 1, by omega⟩
            refine br_f nx ?_
            refine rx_start (by omega) ?_
            refine br_f a' ?_
            refine rx_last hn (by omega) ?_
            rw [rf_v_t R]
            exact br_f b' (nm_e (nm_r (nI_1 _) (hX post hp f (by omega))))
          · obtain ⟨f, rfl⟩ : ∃ g, f = g + 1 := ⟨f - 1, by omega⟩
            obtain ⟨t1, t2, t3⟩ := T s (by omega) R
            refine br_f n1 (br_f n2 ⟨hin, ?_⟩)
            rw [ec, t1, t2]
            exact br_f a' ⟨hin, br_f b' (nm_e (nm_r (nI_1 _) (hY fi la le T post hp f (by omega))))⟩
    · obtain ⟨r, hX, hY⟩ := ih (s + 1) (by omega) c
      rw [rf_n_f R] at hY
      refine ⟨r, fun post hp f hf => ?_, fun fi la le T post hp f hf => hY fi la le T post hp f (by omega)⟩
      obtain ⟨f, rfl⟩ : ∃ g, f = g + 1 := ⟨f - 1, by omega⟩
      refine br_f nx ?_
      refine rx_start (by omega) ?_
      refine br_c (fun _ => nm_r (nI_1 _) (hX post hp f (by omega))) (fun _ => ?_)
      refine rx_last hn (by omega) ?_
      rw [rf_v_f R]
      refine br_t ?_ (nm_r (nI_1 _) (hX post hp f (by omega)))
      exact Int32.lt_of_lt_of_le (by decide) (nI_pos' (by omega))
theorem i_vc_runsAt {k : Nat} {u : SX} {v : SY} (I : i_Rel k u v) (hk : k + 3 ≤ 1536) (v1 : Int32) : wpX_runsAt (fun r => wpY_runsAt (fun r' v' => r' = r ∧ i_Rel (k + 3) u v') v v1) u v1 := by
  obtain ⟨n, t, fd, cp, fi, la, le, hn, rfl, rfl⟩ := I
  unfold wpX_runsAt wpY_runsAt
  dsimp only
  rcases rr_ix v1 hn with h | ⟨i, hi, rfl⟩
  · refine rx_bad h ?_
    refine br_t rfl ?_
    refine ry_bad h ?_
    exact br_f (by decide) ⟨rfl, rr_mk hn⟩
  · obtain ⟨r, hX, hY⟩ := rr_at (t := t) (cp := cp) hn hi (24 * n) 0 (by omega) 0
    refine rx_good hn hi ?_
    refine br_f (by decide) ⟨24 * n + 1, ?_⟩
    refine hX _ ?_ (24 * n + 1) (by omega)
    refine ry_good hn hi ?_
    refine br_t rfl ?_
    refine ry_list hn fun fi' la' le' T => ?_
    exact ⟨24 * n + 1, hY fi' la' le' T _ ⟨rfl, rr_mk hn⟩ (24 * n + 1) (by omega)⟩
/-- a run's length, nought where there is none -/
def rf_z (t : Nat → Int32) (n s : Nat) : Nat := if rf_S t n s = true then rf_e t n (s / 24) (s % 24 + 1) + 1 - s / 24 else 0
theorem rx_len {t : Nat → Int32} {n s : Nat} (hn : n ≤ 48) (hs : s < 24 * n) {post : Int32 → Prop} (h : post (nI (rf_z t n s))) : wpX_lengthOfRun post (nI n, t) (nI s) := by
  unfold wpX_lengthOfRun
  dsimp only
  refine rx_last hn hs ?_
  by_cases R : rf_S t n s = true
  · have hx := rf_e_in (by omega) R
    have ez : rf_z t n s = rf_e t n (s / 24) (s % 24 + 1) + 1 - s / 24 := if_pos R
    rw [ez] at h
    rw [rf_v_t R]
    refine br_t (nI_pos' (by omega)) ?_
    refine rx_start (by omega) ?_
    rw [pk_sub (by omega), nI_1, show rf_e t n (s / 24) (s % 24 + 1) - s / 24 + 1 = rf_e t n (s / 24) (s % 24 + 1) + 1 - s / 24 by omega]
    exact h
  · have ez : rf_z t n s = 0 := if_neg R
    rw [ez] at h
    rw [rf_v_f R]
    exact br_f (by decide) h
theorem rf_z_le {t : Nat → Int32} {n s : Nat} (hn : n ≤ 48) : rf_z t n s ≤ 48 := by
  unfold rf_z
  split
  · next R =>
    have hx := rf_e_in (by omega) R
    omega
  · omega
theorem rr_lg {t cp : Nat → Int32} {n : Nat} (hn : n ≤ 48) : ∀ d s : Nat, s + d = 24 * n → ∀ c : Nat, c ≤ 48 → ∃ r : Int32, (∀ post : Int32 → Prop, post r → ∀ f, d < f → wX_longest_4 post (nI n) t f (nI c) (nI s)) ∧ (∀ fi la le, rf_T t n (24 * n) fi la le → ∀ post : Int32 → SY → Prop, post r (nI n, nI (rf_n t n (24 * n)), t, cp, fi, la, le) → ∀ f, d < f → wY_longest_8 post (nI n) (nI (rf_n t n (24 * n))) t cp fi la le f (nI c) (nI (rf_n t n s))) := by
  have hb := rf_b t (s := 24 * n) hn (by omega)
  intro d
  induction d with
  | zero =>
    intro s hs c hc
    have e : s = 24 * n := by omega
    refine ⟨nI c, fun post hp f hf => ?_, fun fi la le T post hp f hf => ?_⟩
    · obtain ⟨f, rfl⟩ : ∃ g, f = g + 1 := ⟨f - 1, by omega⟩
      exact br_t (by rw [rx_24]; exact nI_le (by omega) (by omega)) hp
    · obtain ⟨f, rfl⟩ : ∃ g, f = g + 1 := ⟨f - 1, by omega⟩
      rw [e]
      exact br_t (nI_le (Nat.le_refl _) (by omega)) hp
  | succ d ih =>
    intro s hs c hc
    have nx : ¬ nI n * 24 ≤ nI s := by rw [rx_24]; exact nI_ge (by omega) (by omega)
    have hz := rf_z_le (t := t) (s := s) hn
    by_cases R : rf_S t n s = true
    · have hx := rf_e_in (by omega) R
      have hl := rf_lt (t := t) (n := n) (s := s) (m := 24 * n) (by omega) R
      have n1 : ¬ nI (rf_n t n (24 * n)) ≤ nI (rf_n t n s) := nI_ge hl (by omega)
      have n2 : ¬ (96 : Int32) ≤ nI (rf_n t n s) := nI_ge (b := 96) (by omega) (by omega)
      have hin : vp_in (nI (rf_n t n s)) 96 := vp_in_nI (by omega) (by omega)
      have ec : (nI (rf_n t n s)).toNatClampNeg = rf_n t n s := nI_clamp (by omega)
      have ez : nI (rf_e t n (s / 24) (s % 24 + 1)) - nI (s / 24) + 1 = nI (rf_z t n s) := by
        have ez : rf_z t n s = rf_e t n (s / 24) (s % 24 + 1) + 1 - s / 24 := if_pos R
        rw [ez, pk_sub (by omega), nI_1]
        exact congrArg nI (by omega)
      by_cases a : rf_z t n s ≤ c
      · have a' : nI (rf_z t n s) ≤ nI c := nI_le a (by omega)
        obtain ⟨r, hX, hY⟩ := ih (s + 1) (by omega) c hc
        rw [rf_n_t R] at hY
        refine ⟨r, fun post hp f hf => ?_, fun fi la le T post hp f hf => ?_⟩
        · obtain ⟨f, rfl⟩ : ∃ g, f = g + 1 := ⟨f - 1, by omega⟩
          refine br_f nx ?_
          refine rx_len hn (by omega) ?_
          exact br_t a' (nm_r (nI_1 _) (hX post hp f (by omega)))
        · obtain ⟨f, rfl⟩ : ∃ g, f = g + 1 := ⟨f - 1, by omega⟩
          obtain ⟨t1, t2, t3⟩ := T s (by omega) R
          refine br_f n1 (br_f n2 ⟨hin, hin, ?_⟩)
          rw [ec, t1, t2]
          exact nm_r ez (br_t a' (nm_r (nI_1 _) (hY fi la le T post hp f (by omega))))
      · have a' : ¬ nI (rf_z t n s) ≤ nI c := nI_ge (by omega) (by omega)
        obtain ⟨r, hX, hY⟩ := ih (s + 1) (by omega) (rf_z t n s) hz
        rw [rf_n_t R] at hY
        refine ⟨r, fun post hp f hf => ?_, fun fi la le T post hp f hf => ?_⟩
        · obtain ⟨f, rfl⟩ : ∃ g, f = g + 1 := ⟨f - 1, by omega⟩
          refine br_f nx ?_
          refine rx_len hn (by omega) ?_
          exact br_f a' (nm_r (nI_1 _) (hX post hp f (by omega)))
        · obtain ⟨f, rfl⟩ : ∃ g, f = g + 1 := ⟨f - 1, by omega⟩
          obtain ⟨t1, t2, t3⟩ := T s (by omega) R
          refine br_f n1 (br_f n2 ⟨hin, hin, ?_⟩)
          rw [ec, t1, t2]
          exact nm_r ez (br_f a' (nm_r (nI_1 _) (hY fi la le T post hp f (by omega))))
    · have ez : rf_z t n s = 0 := if_neg R
      obtain ⟨r, hX, hY⟩ := ih (s + 1) (by omega) c hc
      rw [rf_n_f R] at hY
      refine ⟨r, fun post hp f hf => ?_, fun fi la le T post hp f hf => hY fi la le T post hp f (by omega)⟩
      obtain ⟨f, rfl⟩ : ∃ g, f = g + 1 := ⟨f - 1, by omega⟩
      refine br_f nx ?_
      refine rx_len hn (by omega) ?_
      exact br_t (nI_le (by omega) (by omega)) (nm_r (nI_1 _) (hX post hp f (by omega)))
theorem i_vc_longest {k : Nat} {u : SX} {v : SY} (I : i_Rel k u v) (hk : k + 3 ≤ 1536) : wpX_longest (fun r => wpY_longest (fun r' v' => r' = r ∧ i_Rel (k + 3) u v') v) u := by
  obtain ⟨n, t, fd, cp, fi, la, le, hn, rfl, rfl⟩ := I
  obtain ⟨r, hX, hY⟩ := rr_lg (t := t) (cp := cp) hn (24 * n) 0 (by omega) 0 (by omega)
  refine ⟨24 * n + 1, ?_⟩
  refine hX _ ?_ (24 * n + 1) (by omega)
  unfold wpY_longest
  dsimp only
  refine ry_list hn fun fi' la' le' T => ?_
  exact ⟨24 * n + 1, hY fi' la' le' T _ ⟨rfl, rr_mk hn⟩ (24 * n + 1) (by omega)⟩
theorem rr_pw {t cp : Nat → Int32} {n : Nat} (hn : n ≤ 48) : ∀ d s : Nat, s + d = 24 * n → ∀ c : Nat, c ≤ 48 → ∃ r : Int32, (∀ post : Int32 → Prop, post r → ∀ f, d < f → wX_power_4 post (nI n) t f (nI c) (nI s)) ∧ (∀ fi la le, rf_T t n (24 * n) fi la le → ∀ post : Int32 → SY → Prop, post r (nI n, nI (rf_n t n (24 * n)), t, cp, fi, la, le) → ∀ f, d < f → wY_power_8 post (nI n) (nI (rf_n t n (24 * n))) t cp fi la le f (nI c) (nI (rf_n t n s))) := by
  have hb := rf_b t (s := 24 * n) hn (by omega)
  intro d
  induction d with
  | zero =>
    intro s hs c hc
    have e : s = 24 * n := by omega
    refine ⟨nI c, fun post hp f hf => ?_, fun fi la le T post hp f hf => ?_⟩
    · obtain ⟨f, rfl⟩ : ∃ g, f = g + 1 := ⟨f - 1, by omega⟩
      exact br_t (by rw [rx_24]; exact nI_le (by omega) (by omega)) hp
    · obtain ⟨f, rfl⟩ : ∃ g, f = g + 1 := ⟨f - 1, by omega⟩
      rw [e]
      exact br_t (nI_le (Nat.le_refl _) (by omega)) hp
  | succ d ih =>
    intro s hs c hc
    have nx : ¬ nI n * 24 ≤ nI s := by rw [rx_24]; exact nI_ge (by omega) (by omega)
    have hz := rf_z_le (t := t) (s := s) hn
    have hq : rf_z t n s / (s % 24 + 1) ≤ rf_z t n s := Nat.div_le_self _ _
    have p0 : ¬ nI (s % 24 + 1) = 0 := nI_ne0 (by omega) (by omega)
    have ed : nI (rf_z t n s) / nI (s % 24 + 1) = nI (rf_z t n s / (s % 24 + 1)) := pk_div (by omega) (by omega) (by omega)
    by_cases R : rf_S t n s = true
    · have hx := rf_e_in (by omega) R
      have hl := rf_lt (t := t) (n := n) (s := s) (m := 24 * n) (by omega) R
      have n1 : ¬ nI (rf_n t n (24 * n)) ≤ nI (rf_n t n s) := nI_ge hl (by omega)
      have n2 : ¬ (96 : Int32) ≤ nI (rf_n t n s) := nI_ge (b := 96) (by omega) (by omega)
      have hin : vp_in (nI (rf_n t n s)) 96 := vp_in_nI (by omega) (by omega)
      have ec : (nI (rf_n t n s)).toNatClampNeg = rf_n t n s := nI_clamp (by omega)
      have p1 : (1 : Int32) ≤ nI (s % 24 + 1) := nI_le (a := 1) (by omega) (by omega)
      have ez : nI (rf_e t n (s / 24) (s % 24 + 1)) - nI (s / 24) + 1 = nI (rf_z t n s) := by
        have ez : rf_z t n s = rf_e t n (s / 24) (s % 24 + 1) + 1 - s / 24 := if_pos R
        rw [ez, pk_sub (by omega), nI_1]
        exact congrArg nI (by omega)
      by_cases a : rf_z t n s / (s % 24 + 1) ≤ c
      · have a' : nI (rf_z t n s / (s % 24 + 1)) ≤ nI c := nI_le a (by omega)
        obtain ⟨r, hX, hY⟩ := ih (s + 1) (by omega) c hc
        rw [rf_n_t R] at hY
        refine ⟨r, fun post hp f hf => ?_, fun fi la le T post hp f hf => ?_⟩
        · obtain ⟨f, rfl⟩ : ∃ g, f = g + 1 := ⟨f - 1, by omega⟩
          refine br_f nx ?_
          refine rx_len hn (by omega) ?_
          refine rx_period (by omega) ?_
          exact ⟨p0, nm_r ed (br_t a' (nm_r (nI_1 _) (hX post hp f (by omega))))⟩
        · obtain ⟨f, rfl⟩ : ∃ g, f = g + 1 := ⟨f - 1, by omega⟩
          obtain ⟨t1, t2, t3⟩ := T s (by omega) R
          refine br_f n1 (br_f n2 ⟨hin, ?_⟩)
          rw [ec, t3]
          refine br_t p1 ⟨hin, ?_⟩
          unfold wY_power_42
          rw [ec, t1, t2, ez]
          exact ⟨hin, hin, p0, nm_r ed (br_t a' (nm_r (nI_1 _) (hY fi la le T post hp f (by omega))))⟩
      · have a' : ¬ nI (rf_z t n s / (s % 24 + 1)) ≤ nI c := nI_ge (by omega) (by omega)
        obtain ⟨r, hX, hY⟩ := ih (s + 1) (by omega) (rf_z t n s / (s % 24 + 1)) (by omega)
        rw [rf_n_t R] at hY
        refine ⟨r, fun post hp f hf => ?_, fun fi la le T post hp f hf => ?_⟩
        · obtain ⟨f, rfl⟩ : ∃ g, f = g + 1 := ⟨f - 1, by omega⟩
          refine br_f nx ?_
          refine rx_len hn (by omega) ?_
          refine rx_period (by omega) ?_
          exact ⟨p0, nm_r ed (br_f a' (nm_r (nI_1 _) (hX post hp f (by omega))))⟩
        · obtain ⟨f, rfl⟩ : ∃ g, f = g + 1 := ⟨f - 1, by omega⟩
          obtain ⟨t1, t2, t3⟩ := T s (by omega) R
          refine br_f n1 (br_f n2 ⟨hin, ?_⟩)
          rw [ec, t3]
          refine br_t p1 ⟨hin, ?_⟩
          unfold wY_power_42
          rw [ec, t1, t2, ez]
          exact ⟨hin, hin, p0, nm_r ed (br_f a' (nm_r (nI_1 _) (hY fi la le T post hp f (by omega))))⟩
    · have ez : rf_z t n s = 0 := if_neg R
      obtain ⟨r, hX, hY⟩ := ih (s + 1) (by omega) c hc
      rw [rf_n_f R] at hY
      refine ⟨r, fun post hp f hf => ?_, fun fi la le T post hp f hf => hY fi la le T post hp f (by omega)⟩
      obtain ⟨f, rfl⟩ : ∃ g, f = g + 1 := ⟨f - 1, by omega⟩
      refine br_f nx ?_
      refine rx_len hn (by omega) ?_
      refine rx_period (by omega) ?_
      exact ⟨p0, nm_r ed (br_t (nI_le (by omega) (by omega)) (nm_r (nI_1 _) (hX post hp f (by omega))))⟩
theorem i_vc_power {k : Nat} {u : SX} {v : SY} (I : i_Rel k u v) (hk : k + 3 ≤ 1536) : wpX_power (fun r => wpY_power (fun r' v' => r' = r ∧ i_Rel (k + 3) u v') v) u := by
  obtain ⟨n, t, fd, cp, fi, la, le, hn, rfl, rfl⟩ := I
  obtain ⟨r, hX, hY⟩ := rr_pw (t := t) (cp := cp) hn (24 * n) 0 (by omega) 0 (by omega)
  refine ⟨24 * n + 1, ?_⟩
  refine hX _ ?_ (24 * n + 1) (by omega)
  unfold wpY_power
  dsimp only
  refine ry_list hn fun fi' la' le' T => ?_
  exact ⟨24 * n + 1, hY fi' la' le' T _ ⟨rfl, rr_mk hn⟩ (24 * n + 1) (by omega)⟩
