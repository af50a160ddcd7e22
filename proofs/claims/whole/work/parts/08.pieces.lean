/-! pieces, squares, agreement, order -/
theorem ry_sh2 {t cp fi la le : Nat → Int32} {fd : Int32} {n i j m : Nat} (hn : n ≤ 48) (hm : (i + m = n ∧ j + m ≤ n) ∨ (j + m = n ∧ i + m ≤ n)) (post : Int32 → Prop) : ∀ d k : Nat, k + d = m → post (nI (k + rf_l t d (i + k) (j + k))) → ∀ f, d < f → wY_shared_2 post (nI i) (nI j) (nI n) fd t cp fi la le f (nI k) := by
  intro d
  induction d with
  | zero =>
    intro k hk hp f hf
    obtain ⟨f, rfl⟩ : ∃ g, f = g + 1 := ⟨f - 1, by omega⟩
    refine pk_le n (i + k) (fun _ => hp) (fun z => ?_) rfl (nI_add i k) (by omega) (by omega)
    refine pk_le n (j + k) (fun _ => hp) (fun z => ?_) rfl (nI_add j k) (by omega) (by omega)
    omega
  | succ d ih =>
    intro k hk hp f hf
    obtain ⟨f, rfl⟩ : ∃ g, f = g + 1 := ⟨f - 1, by omega⟩
    have e1 : (nI i + nI k).toNatClampNeg = i + k := pk_cl (i + k) (nI_add i k)
    have e2 : (nI j + nI k).toNatClampNeg = j + k := pk_cl (j + k) (nI_add j k)
    refine pk_le n (i + k) (fun z => by omega) (fun z => ?_) rfl (nI_add i k) (by omega) (by omega)
    refine pk_le n (j + k) (fun z => by omega) (fun z => ?_) rfl (nI_add j k) (by omega) (by omega)
    refine ⟨pk_in (i + k) 48 (by omega) (nI_add i k), pk_in (j + k) 48 (by omega) (nI_add j k), ?_⟩
    rw [e1, e2]
    by_cases c : t (i + k) = t (j + k)
    · refine br_t c (nm_r (nI_1 k) (ih (k + 1) (by omega) ?_ f (by omega)))
      have e : rf_l t (d + 1) (i + k) (j + k) = rf_l t d (i + k + 1) (j + k + 1) + 1 := if_pos c
      rw [e] at hp
      rw [show k + 1 + rf_l t d (i + (k + 1)) (j + (k + 1)) = k + (rf_l t d (i + k + 1) (j + k + 1) + 1) by
        rw [show i + (k + 1) = i + k + 1 by omega, show j + (k + 1) = j + k + 1 by omega]; omega]
      exact hp
    · refine br_f c ?_
      have e : rf_l t (d + 1) (i + k) (j + k) = 0 := if_neg c
      rw [e] at hp
      exact hp
theorem ry_sh {t cp fi la le : Nat → Int32} {fd : Int32} {n i j m : Nat} (hn : n ≤ 48) (hm : (i + m = n ∧ j + m ≤ n) ∨ (j + m = n ∧ i + m ≤ n)) {post : Int32 → Prop} (h : post (nI (rf_l t m i j))) : wpY_shared post (nI n, fd, t, cp, fi, la, le) (nI i) (nI j) := by
  refine ⟨m + 1, ?_⟩
  refine ry_sh2 hn hm post m 0 (by omega) ?_ (m + 1) (by omega)
  rw [Nat.zero_add]
  exact h
theorem i_vc_common {k : Nat} {u : SX} {v : SY} (I : i_Rel k u v) (hk : k + 3 ≤ 1536) (v1 : Int32) (v2 : Int32) : wpX_common (fun r => wpY_common (fun r' => r' = r ∧ i_Rel (k + 3) u v) v v1 v2) u v1 v2 := by
  obtain ⟨n, t, fd, cp, fi, la, le, hn, rfl, rfl⟩ := I
  unfold wpX_common wpY_common
  dsimp only
  rcases rr_ix v1 hn with h | ⟨i, hi, rfl⟩
  · refine rx_bad h ?_
    refine br_t rfl ?_
    refine ry_bad h ?_
    exact br_f (by decide) ⟨rfl, rr_mk hn⟩
  · refine rx_good hn hi ?_
    refine br_f (by decide) ?_
    rcases rr_ix v2 hn with h | ⟨j, hj, rfl⟩
    · refine rx_bad h ?_
      refine br_t rfl ?_
      refine ry_good hn hi ?_
      refine br_t rfl ?_
      refine ry_bad h ?_
      exact br_f (by decide) ⟨rfl, rr_mk hn⟩
    · refine rx_good hn hj ?_
      refine br_f (by decide) ?_
      by_cases c : i ≤ j
      · refine rx_sb hn c (by omega) ?_
        refine ry_good hn hi ?_
        refine br_t rfl ?_
        refine ry_good hn hj ?_
        refine br_t rfl ?_
        exact ry_sh (m := n - j) hn (by omega) ⟨rfl, rr_mk hn⟩
      · refine rx_sb' hn (by omega) (by omega) ?_
        refine ry_good hn hi ?_
        refine br_t rfl ?_
        refine ry_good hn hj ?_
        refine br_t rfl ?_
        exact ry_sh (m := n - i) hn (by omega) ⟨rfl, rr_mk hn⟩
theorem i_vc_periodOf {k : Nat} {u : SX} {v : SY} (I : i_Rel k u v) (hk : k + 3 ≤ 1536) (v1 : Int32) (v2 : Int32) : wpX_periodOf (fun r => wpY_periodOf (fun r' => r' = r ∧ i_Rel (k + 3) u v) v v1 v2) u v1 v2 := by
  obtain ⟨n, t, fd, cp, fi, la, le, hn, rfl, rfl⟩ := I
  unfold wpX_periodOf wpY_periodOf
  dsimp only
  rcases rr_ix v1 hn with h | ⟨i, hi, rfl⟩
  · refine rx_bad h ?_
    refine br_t rfl ?_
    refine ry_bad h ?_
    exact br_f (by decide) ⟨rfl, rr_mk hn⟩
  · refine rx_good hn hi ?_
    refine br_f (by decide) ?_
    rcases rr_ix v2 hn with h | ⟨j, hj, rfl⟩
    · refine rx_bad h ?_
      refine br_t rfl ?_
      refine ry_good hn hi ?_
      refine br_t rfl ?_
      refine ry_bad h ?_
      exact br_f (by decide) ⟨rfl, rr_mk hn⟩
    · refine rx_good hn hj ?_
      refine br_f (by decide) ?_
      by_cases c : i ≤ j
      · have c' : nI i ≤ nI j := nI_le c (by omega)
        refine br_t c' ?_
        refine rx_lp (e := j + 1 - i) hn (by omega) (by omega) (by omega) ?_
        by_cases z : nI j - nI i + 1 < 2 * nI (rf_P t i (j + 1 - i))
        · refine br_t z ?_
          refine ry_good hn hi ?_
          refine br_t rfl ?_
          refine ry_good hn hj ?_
          refine br_t rfl (br_t c' ?_)
          refine ry_lp (e := j + 1 - i) (by omega) (by omega) (by omega) ?_
          exact br_t z ⟨rfl, rr_mk hn⟩
        · refine br_f z ?_
          refine ry_good hn hi ?_
          refine br_t rfl ?_
          refine ry_good hn hj ?_
          refine br_t rfl (br_t c' ?_)
          refine ry_lp (e := j + 1 - i) (by omega) (by omega) (by omega) ?_
          exact br_f z ⟨rfl, rr_mk hn⟩
      · have c' : ¬ nI i ≤ nI j := nI_ge (by omega) (by omega)
        refine br_f c' ?_
        refine ry_good hn hi ?_
        refine br_t rfl ?_
        refine ry_good hn hj ?_
        exact br_t rfl (br_f c' ⟨rfl, rr_mk hn⟩)
theorem rr_next {t cp fi la le : Nat → Int32} {fd : Int32} {n i : Nat} (hn : n ≤ 48) (hi : i < n) : ∀ d k : Nat, k + d = n → i < k → ∃ r : Int32, (∀ post : Int32 → Prop, post r → ∀ f, d < f → wX_nextSmaller_14 post (nI i) (nI n) t f (nI k)) ∧ (∀ post : Int32 → Prop, post r → ∀ f, d < f → wY_nextSmaller_14 post (nI i) (nI n) fd t cp fi la le f (nI k)) := by
  intro d
  induction d with
  | zero =>
    intro k hk hik
    have h : nI n ≤ nI k := nI_le (by omega) (by omega)
    refine ⟨nI n, fun post hp f hf => ?_, fun post hp f hf => ?_⟩
    · obtain ⟨f, rfl⟩ : ∃ g, f = g + 1 := ⟨f - 1, by omega⟩
      exact br_t h hp
    · obtain ⟨f, rfl⟩ : ∃ g, f = g + 1 := ⟨f - 1, by omega⟩
      exact br_t h hp
  | succ d ih =>
    intro k hk hik
    have h : ¬ nI n ≤ nI k := nI_ge (by omega) (by omega)
    obtain ⟨r, hX, hY⟩ := ih (k + 1) (by omega) (by omega)
    have hl := rf_l_le t (n - k) i k
    have em : (i + (n - k) = n ∧ k + (n - k) ≤ n) ∨ (k + (n - k) = n ∧ i + (n - k) ≤ n) := by omega
    by_cases c : k + rf_l t (n - k) i k = n
    · refine ⟨nI k, fun post hp f hf => ?_, fun post hp f hf => ?_⟩
      · obtain ⟨f, rfl⟩ : ∃ g, f = g + 1 := ⟨f - 1, by omega⟩
        refine br_f h ?_
        unfold wpX_laterComesBefore
        dsimp only
        refine rx_sb hn (by omega) (by omega) ?_
        refine br_t (by rw [nI_add]; exact nI_le (by omega) (by omega)) ?_
        exact br_f (by decide) hp
      · obtain ⟨f, rfl⟩ : ∃ g, f = g + 1 := ⟨f - 1, by omega⟩
        refine br_f h ?_
        refine ry_sh (m := n - k) hn em ?_
        exact br_t (by rw [nI_add, c]) hp
    · have e1 : (nI k + nI (rf_l t (n - k) i k)).toNatClampNeg = k + rf_l t (n - k) i k := pk_cl _ (nI_add _ _)
      have e2 : (nI i + nI (rf_l t (n - k) i k)).toNatClampNeg = i + rf_l t (n - k) i k := pk_cl _ (nI_add _ _)
      have i1 : vp_in (nI k + nI (rf_l t (n - k) i k)) 48 := pk_in (k + rf_l t (n - k) i k) 48 (by omega) (nI_add _ _)
      have i2 : vp_in (nI i + nI (rf_l t (n - k) i k)) 48 := pk_in (i + rf_l t (n - k) i k) 48 (by omega) (nI_add _ _)
      have nX : ¬ nI n ≤ nI k + nI (rf_l t (n - k) i k) := by rw [nI_add]; exact nI_ge (by omega) (by omega)
      have nY : ¬ nI k + nI (rf_l t (n - k) i k) = nI n := by rw [nI_add, nI_eq (by omega) (by omega)]; exact c
      by_cases z : t (i + rf_l t (n - k) i k) ≤ t (k + rf_l t (n - k) i k)
      · refine ⟨r, fun post hp f hf => ?_, fun post hp f hf => ?_⟩
        · obtain ⟨f, rfl⟩ : ∃ g, f = g + 1 := ⟨f - 1, by omega⟩
          refine br_f h ?_
          unfold wpX_laterComesBefore
          dsimp only
          refine rx_sb hn (by omega) (by omega) ?_
          refine br_f nX ⟨i1, i2, ?_⟩
          rw [e1, e2]
          refine br_t z ?_
          exact br_t rfl (nm_r (nI_1 k) (hX post hp f (by omega)))
        · obtain ⟨f, rfl⟩ : ∃ g, f = g + 1 := ⟨f - 1, by omega⟩
          refine br_f h ?_
          refine ry_sh (m := n - k) hn em ?_
          refine br_f nY ⟨i1, i2, ?_⟩
          rw [e1, e2]
          exact br_t z (nm_r (nI_1 k) (hY post hp f (by omega)))
      · refine ⟨nI k, fun post hp f hf => ?_, fun post hp f hf => ?_⟩
        · obtain ⟨f, rfl⟩ : ∃ g, f = g + 1 := ⟨f - 1, by omega⟩
          refine br_f h ?_
          unfold wpX_laterComesBefore
          dsimp only
          refine rx_sb hn (by omega) (by omega) ?_
          refine br_f nX ⟨i1, i2, ?_⟩
          rw [e1, e2]
          refine br_f z ?_
          exact br_f (by decide) hp
        · obtain ⟨f, rfl⟩ : ∃ g, f = g + 1 := ⟨f - 1, by omega⟩
          refine br_f h ?_
          refine ry_sh (m := n - k) hn em ?_
          refine br_f nY ⟨i1, i2, ?_⟩
          rw [e1, e2]
          exact br_f z hp
theorem i_vc_nextSmaller {k : Nat} {u : SX} {v : SY} (I : i_Rel k u v) (hk : k + 3 ≤ 1536) (v1 : Int32) : wpX_nextSmaller (fun r => wpY_nextSmaller (fun r' => r' = r ∧ i_Rel (k + 3) u v) v v1) u v1 := by
  obtain ⟨n, t, fd, cp, fi, la, le, hn, rfl, rfl⟩ := I
  unfold wpX_nextSmaller wpY_nextSmaller
  dsimp only
  rcases rr_ix v1 hn with h | ⟨i, hi, rfl⟩
  · refine rx_bad h ?_
    refine br_t rfl ?_
    refine ry_bad h ?_
    exact br_f (by decide) ⟨rfl, rr_mk hn⟩
  · obtain ⟨r, hX, hY⟩ := rr_next (t := t) (cp := cp) (fi := fi) (la := la) (le := le) (fd := fd) hn hi (n - (i + 1)) (i + 1) (by omega) (by omega)
    refine rx_good hn hi ?_
    refine br_f (by decide) (nm_r (nI_1 i) ⟨n, ?_⟩)
    refine hX _ ?_ n (by omega)
    refine ry_good hn hi ?_
    refine br_t rfl (nm_r (nI_1 i) ⟨n, ?_⟩)
    exact hY _ ⟨rfl, rr_mk hn⟩ n (by omega)
/-- beyond the text nothing is counted any more -/
theorem rx_sqf_x {t : Nat → Int32} {n i : Nat} (hn : n ≤ 48) (hi : i < n) (c : Int32) (post : Int32 → Prop) (h : post c) : ∀ d p : Nat, p + d = 25 → n < i + 2 * p → ∀ f, d < f → wX_squaresFrom_14 post (nI i) (nI n) t f c (nI p) := by
  intro d
  induction d with
  | zero =>
    intro p hp hx f hf
    obtain ⟨f, rfl⟩ : ∃ g, f = g + 1 := ⟨f - 1, by omega⟩
    exact br_t (nI_lt (a := 24) (by omega) (by omega)) h
  | succ d ih =>
    intro p hp hx f hf
    obtain ⟨f, rfl⟩ : ∃ g, f = g + 1 := ⟨f - 1, by omega⟩
    refine br_f (nI_nlt (a := 24) (by omega) (by omega)) ?_
    refine rx_sq hn (by omega) (by omega) (fun z => by omega) (fun _ => ?_)
    exact br_t rfl (nm_r (nI_1 p) (ih (p + 1) (by omega) (by omega) f (by omega)))
theorem rr_sqf {t cp fi la le : Nat → Int32} {fd : Int32} {n i : Nat} (hn : n ≤ 48) (hi : i < n) : ∀ d p : Nat, p + d = 25 → 1 ≤ p → ∀ c : Int32, ∃ r : Int32, (∀ post : Int32 → Prop, post r → ∀ f, d < f → wX_squaresFrom_14 post (nI i) (nI n) t f c (nI p)) ∧ (∀ post : Int32 → Prop, post r → ∀ f, d < f → wY_squaresFrom_14 post (nI i) (nI n) fd t cp fi la le f c (nI p)) := by
  intro d
  induction d with
  | zero =>
    intro p hp hp1 c
    refine ⟨c, fun post h f hf => rx_sqf_x hn hi c post h 0 p hp (by omega) f hf, fun post h f hf => ?_⟩
    obtain ⟨f, rfl⟩ : ∃ g, f = g + 1 := ⟨f - 1, by omega⟩
    exact br_t (by rw [rx_2]; exact nI_lt (by omega) (by omega)) h
  | succ d ih =>
    intro p hp hp1 c
    by_cases z : n < i + 2 * p
    · refine ⟨c, fun post h f hf => rx_sqf_x hn hi c post h (d + 1) p hp z f hf, fun post h f hf => ?_⟩
      obtain ⟨f, rfl⟩ : ∃ g, f = g + 1 := ⟨f - 1, by omega⟩
      exact br_t (by rw [rx_2]; exact nI_lt (by omega) (by omega)) h
    · have n1 : ¬ (24 : Int32) < nI p := nI_nlt (a := 24) (by omega) (by omega)
      have n2 : ¬ nI n < nI i + 2 * nI p := by rw [rx_2]; exact nI_nlt (by omega) (by omega)
      have e0 : nI i + 2 * nI p - 1 = nI (i + 2 * p - 1) := by rw [rx_2, show (1 : Int32) = nI 1 from rfl, pk_sub (by omega)]
      have hx := rf_P_x t i (2 * p) (by omega)
      by_cases q : rf_P t i (2 * p) = p
      · obtain ⟨r, hX, hY⟩ := ih (p + 1) (by omega) (by omega) (c + 1)
        have hq : p ≤ rf_L t n i p := (rf_L_ge (by omega)).mpr (by
          have := hx.2.2.1
          rw [q, show 2 * p - p = p by omega] at this
          exact this)
        refine ⟨r, fun post h f hf => ?_, fun post h f hf => ?_⟩
        · obtain ⟨f, rfl⟩ : ∃ g, f = g + 1 := ⟨f - 1, by omega⟩
          refine br_f n1 ?_
          refine rx_sq hn (by omega) (by omega) (fun _ _ => ?_) (fun w => absurd ⟨by omega, hq⟩ w)
          refine br_f (by decide) ?_
          rw [e0]
          refine rx_lp (e := 2 * p) hn (by omega) (by omega) (by omega) ?_
          exact br_t (by rw [q]) (nm_e (nm_r (nI_1 p) (hX post h f (by omega))))
        · obtain ⟨f, rfl⟩ : ∃ g, f = g + 1 := ⟨f - 1, by omega⟩
          refine br_f n2 ?_
          rw [e0]
          refine ry_lp (e := 2 * p) (by omega) (by omega) (by omega) ?_
          exact br_t (by rw [q]) (nm_e (nm_r (nI_1 p) (hY post h f (by omega))))
      · obtain ⟨r, hX, hY⟩ := ih (p + 1) (by omega) (by omega) c
        have q' : ¬ nI (rf_P t i (2 * p)) = nI p := by rw [nI_eq (by omega) (by omega)]; exact q
        refine ⟨r, fun post h f hf => ?_, fun post h f hf => ?_⟩
        · obtain ⟨f, rfl⟩ : ∃ g, f = g + 1 := ⟨f - 1, by omega⟩
          refine br_f n1 ?_
          refine rx_sq hn (by omega) (by omega) (fun _ _ => ?_) (fun w => ?_)
          · refine br_f (by decide) ?_
            rw [e0]
            refine rx_lp (e := 2 * p) hn (by omega) (by omega) (by omega) ?_
            exact br_f q' (nm_r (nI_1 p) (hX post h f (by omega)))
          · exact br_t rfl (nm_r (nI_1 p) (hX post h f (by omega)))
        · obtain ⟨f, rfl⟩ : ∃ g, f = g + 1 := ⟨f - 1, by omega⟩
          refine br_f n2 ?_
          rw [e0]
          refine ry_lp (e := 2 * p) (by omega) (by omega) (by omega) ?_
          exact br_f q' (nm_r (nI_1 p) (hY post h f (by omega)))
theorem i_vc_squaresFrom {k : Nat} {u : SX} {v : SY} (I : i_Rel k u v) (hk : k + 3 ≤ 1536) (v1 : Int32) : wpX_squaresFrom (fun r => wpY_squaresFrom (fun r' => r' = r ∧ i_Rel (k + 3) u v) v v1) u v1 := by
  obtain ⟨n, t, fd, cp, fi, la, le, hn, rfl, rfl⟩ := I
  unfold wpX_squaresFrom wpY_squaresFrom
  dsimp only
  rcases rr_ix v1 hn with h | ⟨i, hi, rfl⟩
  · refine rx_bad h ?_
    refine br_t rfl ?_
    refine ry_bad h ?_
    exact br_f (by decide) ⟨rfl, rr_mk hn⟩
  · obtain ⟨r, hX, hY⟩ := rr_sqf (t := t) (cp := cp) (fi := fi) (la := la) (le := le) (fd := fd) hn hi 24 1 (by omega) (by omega) 0
    refine rx_good hn hi ?_
    refine br_f (by decide) ⟨25, ?_⟩
    refine hX _ ?_ 25 (by omega)
    refine ry_good hn hi ?_
    refine br_t rfl ⟨25, ?_⟩
    exact hY _ ⟨rfl, rr_mk hn⟩ 25 (by omega)
theorem rx_sqs_x {t : Nat → Int32} {n i : Nat} (hn : n ≤ 48) (hi : i < n) (c : Int32) (post : Int32 → Prop) (J : Int32 → Int32 → Prop) (h : J c (nI (i + 1))) : ∀ d p : Nat, p + d = 25 → n < i + 2 * p → ∀ f, d < f → wX_squares_14 post J (nI i) (nI n) t f c (nI p) := by
  intro d
  induction d with
  | zero =>
    intro p hp hx f hf
    obtain ⟨f, rfl⟩ : ∃ g, f = g + 1 := ⟨f - 1, by omega⟩
    exact br_t (nI_lt (a := 24) (by omega) (by omega)) (nm_r (nI_1 i) h)
  | succ d ih =>
    intro p hp hx f hf
    obtain ⟨f, rfl⟩ : ∃ g, f = g + 1 := ⟨f - 1, by omega⟩
    refine br_f (nI_nlt (a := 24) (by omega) (by omega)) ?_
    refine rx_sq hn (by omega) (by omega) (fun z => by omega) (fun _ => ?_)
    exact br_t rfl (nm_r (nI_1 p) (ih (p + 1) (by omega) (by omega) f (by omega)))
theorem rr_sqs {t cp fi la le : Nat → Int32} {fd : Int32} {n i : Nat} (hn : n ≤ 48) (hi : i < n) : ∀ d p : Nat, p + d = 25 → 1 ≤ p → ∀ c : Int32, ∃ r : Int32, (∀ (post : Int32 → Prop) (J : Int32 → Int32 → Prop), J r (nI (i + 1)) → ∀ f, d < f → wX_squares_14 post J (nI i) (nI n) t f c (nI p)) ∧ (∀ (post : Int32 → Prop) (J : Int32 → Int32 → Prop), J r (nI (i + 1)) → ∀ f, d < f → wY_squares_14 post J (nI i) (nI n) fd t cp fi la le f c (nI p)) := by
  intro d
  induction d with
  | zero =>
    intro p hp hp1 c
    refine ⟨c, fun post J h f hf => rx_sqs_x hn hi c post J h 0 p hp (by omega) f hf, fun post J h f hf => ?_⟩
    obtain ⟨f, rfl⟩ : ∃ g, f = g + 1 := ⟨f - 1, by omega⟩
    exact br_t (by rw [rx_2]; exact nI_lt (by omega) (by omega)) (nm_r (nI_1 i) h)
  | succ d ih =>
    intro p hp hp1 c
    by_cases z : n < i + 2 * p
    · refine ⟨c, fun post J h f hf => rx_sqs_x hn hi c post J h (d + 1) p hp z f hf, fun post J h f hf => ?_⟩
      obtain ⟨f, rfl⟩ : ∃ g, f = g + 1 := ⟨f - 1, by omega⟩
      exact br_t (by rw [rx_2]; exact nI_lt (by omega) (by omega)) (nm_r (nI_1 i) h)
    · have n1 : ¬ (24 : Int32) < nI p := nI_nlt (a := 24) (by omega) (by omega)
      have n2 : ¬ nI n < nI i + 2 * nI p := by rw [rx_2]; exact nI_nlt (by omega) (by omega)
      have e0 : nI i + 2 * nI p - 1 = nI (i + 2 * p - 1) := by rw [rx_2, show (1 : Int32) = nI 1 from rfl, pk_sub (by omega)]
      have hL : p ≤ rf_L t n i p ↔ rf_H t i p p := rf_L_ge (by omega)
      by_cases q : rf_H t i p p
      · obtain ⟨r, hX, hY⟩ := ih (p + 1) (by omega) (by omega) (c + 1)
        refine ⟨r, fun post J h f hf => ?_, fun post J h f hf => ?_⟩
        · obtain ⟨f, rfl⟩ : ∃ g, f = g + 1 := ⟨f - 1, by omega⟩
          refine br_f n1 ?_
          refine rx_sq hn (by omega) (by omega) (fun _ _ => ?_) (fun w => absurd ⟨by omega, hL.mpr q⟩ w)
          exact br_f (by decide) (nm_e (nm_r (nI_1 p) (hX post J h f (by omega))))
        · obtain ⟨f, rfl⟩ : ∃ g, f = g + 1 := ⟨f - 1, by omega⟩
          refine br_f n2 ?_
          rw [e0]
          refine ry_hp (e := 2 * p) (by omega) (by omega) (by omega) (fun _ _ => ?_) (fun w => absurd ⟨by omega, ?_⟩ w) (by omega)
          · exact br_f (by decide) (nm_e (nm_r (nI_1 p) (hY post J h f (by omega))))
          · rw [show 2 * p - p = p by omega]; exact q
      · obtain ⟨r, hX, hY⟩ := ih (p + 1) (by omega) (by omega) c
        refine ⟨r, fun post J h f hf => ?_, fun post J h f hf => ?_⟩
        · obtain ⟨f, rfl⟩ : ∃ g, f = g + 1 := ⟨f - 1, by omega⟩
          refine br_f n1 ?_
          refine rx_sq hn (by omega) (by omega) (fun _ w => absurd (hL.mp w) q) (fun w => ?_)
          exact br_t rfl (nm_r (nI_1 p) (hX post J h f (by omega)))
        · obtain ⟨f, rfl⟩ : ∃ g, f = g + 1 := ⟨f - 1, by omega⟩
          refine br_f n2 ?_
          rw [e0]
          refine ry_hp (e := 2 * p) (by omega) (by omega) (by omega) (fun _ w => absurd (by rw [show 2 * p - p = p by omega] at w; exact w) q) (fun w => ?_) (by omega)
          exact br_t rfl (nm_r (nI_1 p) (hY post J h f (by omega)))
theorem rr_sq4 {t cp fi la le : Nat → Int32} {fd : Int32} {n : Nat} (hn : n ≤ 48) : ∀ d i : Nat, i + d = n → ∀ c : Int32, ∃ r : Int32, (∀ post : Int32 → Prop, post r → ∀ f, d < f → wX_squares_4 post (nI n) t f c (nI i)) ∧ (∀ post : Int32 → Prop, post r → ∀ f, d < f → wY_squares_4 post (nI n) fd t cp fi la le f c (nI i)) := by
  intro d
  induction d with
  | zero =>
    intro i hi c
    have h : nI n ≤ nI i := nI_le (by omega) (by omega)
    refine ⟨c, fun post hp f hf => ?_, fun post hp f hf => ?_⟩
    · obtain ⟨f, rfl⟩ : ∃ g, f = g + 1 := ⟨f - 1, by omega⟩
      exact br_t h hp
    · obtain ⟨f, rfl⟩ : ∃ g, f = g + 1 := ⟨f - 1, by omega⟩
      exact br_t h hp
  | succ d ih =>
    intro i hi c
    have h : ¬ nI n ≤ nI i := nI_ge (by omega) (by omega)
    obtain ⟨c', hX, hY⟩ := rr_sqs (t := t) (cp := cp) (fi := fi) (la := la) (le := le) (fd := fd) hn (i := i) (by omega) 24 1 (by omega) (by omega) c
    obtain ⟨r, gX, gY⟩ := ih (i + 1) (by omega) c'
    refine ⟨r, fun post hp f hf => ?_, fun post hp f hf => ?_⟩
    · obtain ⟨f, rfl⟩ : ∃ g, f = g + 1 := ⟨f - 1, by omega⟩
      exact br_f h ⟨25, hX post _ (gX post hp f (by omega)) 25 (by omega)⟩
    · obtain ⟨f, rfl⟩ : ∃ g, f = g + 1 := ⟨f - 1, by omega⟩
      exact br_f h ⟨25, hY post _ (gY post hp f (by omega)) 25 (by omega)⟩
theorem i_vc_squares {k : Nat} {u : SX} {v : SY} (I : i_Rel k u v) (hk : k + 3 ≤ 1536) : wpX_squares (fun r => wpY_squares (fun r' => r' = r ∧ i_Rel (k + 3) u v) v) u := by
  obtain ⟨n, t, fd, cp, fi, la, le, hn, rfl, rfl⟩ := I
  obtain ⟨r, hX, hY⟩ := rr_sq4 (t := t) (cp := cp) (fi := fi) (la := la) (le := le) (fd := fd) hn n 0 (by omega) 0
  refine ⟨n + 1, hX _ ?_ (n + 1) (by omega)⟩
  exact ⟨n + 1, hY _ ⟨rfl, rr_mk hn⟩ (n + 1) (by omega)⟩
