/-! the relation, and the methods that change the text -/
def i_Rel (_ : Nat) (u : SX) (v : SY) : Prop := ∃ (n : Nat) (t : Nat → Int32) (fd : Int32) (cp fi la le : Nat → Int32), n ≤ 48 ∧ u = (nI n, t) ∧ v = (nI n, fd, t, cp, fi, la, le)
theorem i_up {k : Nat} {u : SX} {v : SY} (h : i_Rel k u v) : i_Rel (k + 3) u v := h
theorem i_vc0 : wpX_init (fun u => wpY_init (fun v => i_Rel 0 u v)) := ⟨0, fun _ => 0, 0, fun _ => 0, fun _ => 0, fun _ => 0, fun _ => 0, by omega, rfl, rfl⟩
theorem rr_mk {k n : Nat} {t : Nat → Int32} {fd : Int32} {cp fi la le : Nat → Int32} (hn : n ≤ 48) : i_Rel k (nI n, t) (nI n, fd, t, cp, fi, la, le) := ⟨n, t, fd, cp, fi, la, le, hn, rfl, rfl⟩
theorem rr_sym (x : Int32) : x < 0 ∨ (¬ x < 0 ∧ (4 : Int32) ≤ x ∧ ¬ x ≤ 3) ∨ (¬ x < 0 ∧ ¬ (4 : Int32) ≤ x ∧ x ≤ 3) := by
  by_cases h : x < 0
  · exact Or.inl h
  · obtain ⟨j, hj, rfl⟩ := nI_of h
    by_cases c : j ≤ 3
    · exact Or.inr (Or.inr ⟨h, nI_ge (b := 4) (by omega) (by omega), nI_le (b := 3) c (by omega)⟩)
    · exact Or.inr (Or.inl ⟨h, nI_le (a := 4) (by omega) hj, nI_ge (a := 3) (by omega) hj⟩)
theorem rr_ix (x : Int32) {n : Nat} (hn : n ≤ 48) : (x < 0 ∨ nI n ≤ x) ∨ ∃ j : Nat, j < n ∧ x = nI j := by
  rcases pk_ix x (n := n) (by omega) with h | h | h
  · exact Or.inl (Or.inl h)
  · exact Or.inl (Or.inr h)
  · exact Or.inr h
theorem rx_bad {n : Nat} {t : Nat → Int32} {x : Int32} (h : x < 0 ∨ nI n ≤ x) {post : Int32 → Prop} (hp : post 0) : wpX_isGood post (nI n, t) x := by
  by_cases c : x < 0
  · exact br_t c hp
  · exact br_f c (br_t (h.resolve_left c) hp)
theorem ry_bad {n : Nat} {t : Nat → Int32} {fd : Int32} {cp fi la le : Nat → Int32} {x : Int32} (h : x < 0 ∨ nI n ≤ x) {post : Int32 → Prop} (hp : post 1) : wpY_bad post (nI n, fd, t, cp, fi, la, le) x := by
  by_cases c : x < 0
  · exact br_t c hp
  · exact br_f c (br_t (h.resolve_left c) hp)
theorem i_vc_push {k : Nat} {u : SX} {v : SY} (I : i_Rel k u v) (hk : k + 3 ≤ 1536) (v1 : Int32) : wpX_push (fun r u' => wpY_push (fun r' v' => r' = r ∧ i_Rel (k + 3) u' v') v v1) u v1 := by
  obtain ⟨n, t, fd, cp, fi, la, le, hn, rfl, rfl⟩ := I
  unfold wpX_push
  dsimp only
  rcases rr_sym v1 with h | ⟨h, h4, h3⟩ | ⟨h, h4, h3⟩
  · refine br_t h ?_
    refine br_t rfl ?_
    exact br_t h ⟨rfl, rr_mk hn⟩
  · refine br_f h ?_
    refine br_t h4 ?_
    refine br_t rfl ?_
    exact br_f h (br_f h3 ⟨rfl, rr_mk hn⟩)
  · refine br_f h ?_
    refine br_f h4 ?_
    refine br_f (by decide) ?_
    by_cases c : n < 48
    · have hl : nI n < 48 := nI_lt (b := 48) c (by omega)
      have hi : vp_in (nI n) 48 := vp_in_nI c (by omega)
      refine br_t hl ⟨hi, nm_e (nm_r (nI_1 n) ?_)⟩
      refine br_f h (br_t h3 (br_t hl ⟨hi, nm_e (nm_r (nI_1 n) ⟨rfl, rr_mk (by omega)⟩)⟩))
    · have hl : ¬ nI n < 48 := nI_nlt (b := 48) (by omega) (by omega)
      refine br_f hl ?_
      exact br_f h (br_t h3 (br_f hl ⟨rfl, rr_mk hn⟩))
theorem i_vc_pop {k : Nat} {u : SX} {v : SY} (I : i_Rel k u v) (hk : k + 3 ≤ 1536) (v1 : Int32) : wpX_pop (fun r u' => wpY_pop (fun r' v' => r' = r ∧ i_Rel (k + 3) u' v') v v1) u v1 := by
  obtain ⟨n, t, fd, cp, fi, la, le, hn, rfl, rfl⟩ := I
  by_cases h : v1 < 0
  · refine br_t h ?_
    exact br_t h ⟨rfl, rr_mk hn⟩
  · by_cases c : v1 ≤ nI n
    · obtain ⟨j, hj, rfl⟩ := nI_of h
      have hjn : j ≤ n := (nI_leI hj (by omega)).mp c
      refine br_f h (br_t c (nm_r (pk_sub hjn) ?_))
      exact br_f h (br_t c (nm_r (pk_sub hjn) ⟨rfl, rr_mk (by omega)⟩))
    · refine br_f h (br_f c ?_)
      exact br_f h (br_f c ⟨rfl, rr_mk hn⟩)
theorem rr_rep {n i c : Nat} {fd : Int32} {cp fi la le : Nat → Int32} (hi : i < n) (hc : n + c ≤ 48) : ∀ d k : Nat, k + d = c → ∀ t : Nat → Int32, ∃ t' : Nat → Int32, (∀ post : Int32 → SX → Prop, post (nI (n + c)) (nI (n + c), t') → ∀ f, d < f → wX_repeat_40 post (nI i) (nI c) (nI n) f (nI k) t) ∧ (∀ post : Int32 → SY → Prop, post (nI (n + c)) (nI (n + c), fd, t', cp, fi, la, le) → ∀ f, d < f → wY_repeat_46 post (nI i) (nI c) (nI n) (nI n) fd f (nI k) t cp fi la le) := by
  intro d
  induction d with
  | zero =>
    intro k hk t
    have e : k = c := by omega
    subst e
    refine ⟨t, fun post hp f hf => ?_, fun post hp f hf => ?_⟩
    · obtain ⟨f, rfl⟩ : ∃ g, f = g + 1 := ⟨f - 1, by omega⟩
      exact br_t (nI_le (Nat.le_refl _) (by omega)) (nm_r (nI_add n k) hp)
    · obtain ⟨f, rfl⟩ : ∃ g, f = g + 1 := ⟨f - 1, by omega⟩
      exact br_t (nI_le (Nat.le_refl _) (by omega)) (nm_r (nI_add n k) hp)
  | succ d ih =>
    intro k hk t
    obtain ⟨t', hX, hY⟩ := ih (k + 1) (by omega) (upd t (n + k) (t (i + k)))
    have e1 : (nI i + nI k).toNatClampNeg = i + k := pk_cl (i + k) (nI_add i k)
    have e2 : (nI n + nI k).toNatClampNeg = n + k := pk_cl (n + k) (nI_add n k)
    refine ⟨t', fun post hp f hf => ?_, fun post hp f hf => ?_⟩
    · obtain ⟨f, rfl⟩ : ∃ g, f = g + 1 := ⟨f - 1, by omega⟩
      refine br_f (nI_ge (by omega) (by omega)) ⟨pk_in (i + k) 48 (by omega) (nI_add i k), pk_in (n + k) 48 (by omega) (nI_add n k), ?_⟩
      rw [e1, e2]
      exact nm_e (nm_r (nI_1 k) (hX post hp f (by omega)))
    · obtain ⟨f, rfl⟩ : ∃ g, f = g + 1 := ⟨f - 1, by omega⟩
      refine br_f (nI_ge (by omega) (by omega)) ⟨pk_in (i + k) 48 (by omega) (nI_add i k), pk_in (n + k) 48 (by omega) (nI_add n k), ?_⟩
      rw [e1, e2]
      exact nm_e (nm_r (nI_1 k) (hY post hp f (by omega)))
theorem i_vc_repeat {k : Nat} {u : SX} {v : SY} (I : i_Rel k u v) (hk : k + 3 ≤ 1536) (v1 : Int32) (v2 : Int32) : wpX_repeat (fun r u' => wpY_repeat (fun r' v' => r' = r ∧ i_Rel (k + 3) u' v') v v1 v2) u v1 v2 := by
  obtain ⟨n, t, fd, cp, fi, la, le, hn, rfl, rfl⟩ := I
  unfold wpX_repeat wpY_repeat
  dsimp only
  rcases rr_ix v1 hn with h | ⟨i, hi, rfl⟩
  · refine rx_bad h ?_
    refine br_t rfl ?_
    refine ry_bad h ?_
    exact br_f (by decide) ⟨rfl, rr_mk hn⟩
  · refine rx_good hn hi ?_
    refine br_f (by decide) ?_
    by_cases c1 : v2 < 1
    · refine br_t c1 ?_
      refine ry_good hn hi ?_
      exact br_t rfl (br_t c1 ⟨rfl, rr_mk hn⟩)
    · by_cases c2 : v2 ≤ 48
      · have h0 : ¬ v2 < 0 := fun z => c1 (Int32.lt_trans z (by decide))
        obtain ⟨c, hc, rfl⟩ := nI_of h0
        have hc48 : c ≤ 48 := (nI_leI (b := 48) hc (by omega)).mp c2
        by_cases c3 : n + c ≤ 48
        · have c3' : nI n + nI c ≤ 48 := by rw [nI_add]; exact nI_le (b := 48) c3 (by omega)
          obtain ⟨t', hX, hY⟩ := rr_rep (fd := fd) (cp := cp) (fi := fi) (la := la) (le := le) hi c3 c 0 (by omega) t
          refine br_f c1 (br_t c2 (br_t c3' ⟨c + 1, ?_⟩))
          refine hX _ ?_ (c + 1) (by omega)
          refine ry_good hn hi ?_
          refine br_t rfl (br_f c1 (br_t c2 (br_t c3' ⟨c + 1, ?_⟩)))
          exact hY _ ⟨rfl, rr_mk c3⟩ (c + 1) (by omega)
        · have c3' : ¬ nI n + nI c ≤ 48 := by rw [nI_add]; exact nI_ge (a := 48) (by omega) (by omega)
          refine br_f c1 (br_t c2 (br_f c3' ?_))
          refine ry_good hn hi ?_
          exact br_t rfl (br_f c1 (br_t c2 (br_f c3' ⟨rfl, rr_mk hn⟩)))
      · refine br_f c1 (br_f c2 ?_)
        refine ry_good hn hi ?_
        exact br_t rfl (br_f c1 (br_f c2 ⟨rfl, rr_mk hn⟩))
theorem i_vc_set {k : Nat} {u : SX} {v : SY} (I : i_Rel k u v) (hk : k + 3 ≤ 1536) (v1 : Int32) (v2 : Int32) : wpX_set (fun r u' => wpY_set (fun r' v' => r' = r ∧ i_Rel (k + 3) u' v') v v1 v2) u v1 v2 := by
  obtain ⟨n, t, fd, cp, fi, la, le, hn, rfl, rfl⟩ := I
  unfold wpX_set wpY_set
  dsimp only
  rcases rr_ix v1 hn with h | ⟨i, hi, rfl⟩
  · refine rx_bad h ?_
    refine br_t rfl ?_
    refine ry_bad h ?_
    exact br_f (by decide) ⟨rfl, rr_mk hn⟩
  · have hin : vp_in (nI i) 48 := vp_in_nI (by omega) (by omega)
    refine rx_good hn hi ?_
    refine br_f (by decide) ?_
    rcases rr_sym v2 with h | ⟨h, h4, h3⟩ | ⟨h, h4, h3⟩
    · refine br_t h ?_
      refine br_t rfl ?_
      refine ry_good hn hi ?_
      exact br_t rfl (br_t h ⟨rfl, rr_mk hn⟩)
    · refine br_f h ?_
      refine br_t h4 ?_
      refine br_t rfl ?_
      refine ry_good hn hi ?_
      exact br_t rfl (br_f h (br_f h3 ⟨rfl, rr_mk hn⟩))
    · refine br_f h ?_
      refine br_f h4 ?_
      refine br_f (by decide) ⟨hin, nm_e ⟨hin, nm_e ?_⟩⟩
      refine ry_good hn hi ?_
      exact br_t rfl (br_f h (br_t h3 ⟨hin, nm_e ⟨hin, nm_e ⟨rfl, rr_mk hn⟩⟩⟩))
/-- the text turned round -/
def rr_v (t : Nat → Int32) (n : Nat) : Nat → Int32 := fun x => if x < n then t (n - 1 - x) else t x
def rr_x (t : Nat → Int32) (n l : Nat) : Nat → Int32 := fun x => if x < l ∨ (n - l ≤ x ∧ x < n) then t (n - 1 - x) else t x
def rr_c (t cp : Nat → Int32) (k : Nat) : Nat → Int32 := fun x => if x < k then t x else cp x
def rr_t (t c : Nat → Int32) (n k : Nat) : Nat → Int32 := fun x => if x < k then c (n - 1 - x) else t x
theorem rr_x_s {t : Nat → Int32} {n l : Nat} (h : l < n / 2) : upd (upd (rr_x t n l) l (rr_x t n l (n - 1 - l))) (n - 1 - l) (rr_x t n l l) = rr_x t n (l + 1) := by
  have e1 : rr_x t n l l = t l := if_neg (by omega)
  have e2 : rr_x t n l (n - 1 - l) = t (n - 1 - l) := if_neg (by omega)
  rw [e1, e2]
  funext x
  by_cases a : x = n - 1 - l
  · subst a
    rw [pk_us]
    have e : rr_x t n (l + 1) (n - 1 - l) = t (n - 1 - (n - 1 - l)) := if_pos (by omega)
    rw [e, show n - 1 - (n - 1 - l) = l by omega]
  · rw [pk_un a]
    by_cases b : x = l
    · subst b
      rw [pk_us]
      exact (if_pos (by omega) : rr_x t n (x + 1) x = t (n - 1 - x)).symm
    · rw [pk_un b]
      by_cases c : x < l ∨ (n - l ≤ x ∧ x < n)
      · exact (if_pos c : rr_x t n l x = _).trans (if_pos (by omega) : rr_x t n (l + 1) x = _).symm
      · exact (if_neg c : rr_x t n l x = _).trans (if_neg (by omega) : rr_x t n (l + 1) x = _).symm
theorem rr_x_0 {t : Nat → Int32} {n : Nat} : rr_x t n 0 = t := by
  funext x
  exact if_neg (by omega)
theorem rr_x_e {t : Nat → Int32} {n : Nat} : rr_x t n (n / 2) = rr_v t n := by
  funext x
  by_cases a : x < n / 2 ∨ (n - n / 2 ≤ x ∧ x < n)
  · exact (if_pos a : rr_x t n (n / 2) x = _).trans (if_pos (by omega) : rr_v t n x = _).symm
  · refine (if_neg a : rr_x t n (n / 2) x = _).trans ?_
    by_cases b : x < n
    · refine Eq.trans ?_ (if_pos b : rr_v t n x = _).symm
      rw [show n - 1 - x = x by omega]
    · exact (if_neg b : rr_v t n x = _).symm
theorem rr_c_s {t cp : Nat → Int32} {k : Nat} : upd (rr_c t cp k) k (t k) = rr_c t cp (k + 1) := by
  funext x
  by_cases a : x = k
  · subst a
    rw [pk_us]
    exact (if_pos (by omega) : rr_c t cp (x + 1) x = _).symm
  · rw [pk_un a]
    by_cases c : x < k
    · exact (if_pos c : rr_c t cp k x = _).trans (if_pos (by omega) : rr_c t cp (k + 1) x = _).symm
    · exact (if_neg c : rr_c t cp k x = _).trans (if_neg (by omega) : rr_c t cp (k + 1) x = _).symm
theorem rr_t_s {t c : Nat → Int32} {n k : Nat} : upd (rr_t t c n k) k (c (n - 1 - k)) = rr_t t c n (k + 1) := by
  funext x
  by_cases a : x = k
  · subst a
    rw [pk_us]
    exact (if_pos (by omega) : rr_t t c n (x + 1) x = _).symm
  · rw [pk_un a]
    by_cases b : x < k
    · exact (if_pos b : rr_t t c n k x = _).trans (if_pos (by omega) : rr_t t c n (k + 1) x = _).symm
    · exact (if_neg b : rr_t t c n k x = _).trans (if_neg (by omega) : rr_t t c n (k + 1) x = _).symm
theorem rr_t_e {t cp : Nat → Int32} {n : Nat} (hn : n ≤ 48) : rr_t t (rr_c t cp 48) n n = rr_v t n := by
  funext x
  by_cases a : x < n
  · refine (if_pos a : rr_t t (rr_c t cp 48) n n x = _).trans (Eq.trans ?_ (if_pos a : rr_v t n x = _).symm)
    exact if_pos (by omega)
  · exact (if_neg a : rr_t t (rr_c t cp 48) n n x = _).trans (if_neg a : rr_v t n x = _).symm
theorem rx_rev {t : Nat → Int32} {n : Nat} (hn : n ≤ 48) (post : Int32 → SX → Prop) (h : post (nI n) (nI n, rr_v t n)) : ∀ d l : Nat, l + d = n / 2 → ∀ f, d < f → wX_reverse_2 post (nI n) f (nI l) (rr_x t n l) := by
  have e2 : nI n / 2 = nI (n / 2) := pk_div (d := 2) (by omega) (by omega) (by omega)
  intro d
  induction d with
  | zero =>
    intro l hl f hf
    obtain ⟨f, rfl⟩ : ∃ g, f = g + 1 := ⟨f - 1, by omega⟩
    have e : l = n / 2 := by omega
    refine ⟨by decide, br_t ?_ ?_⟩
    · rw [e2]; exact nI_le (by omega) (by omega)
    · rw [e, rr_x_e]; exact h
  | succ d ih =>
    intro l hl f hf
    obtain ⟨f, rfl⟩ : ∃ g, f = g + 1 := ⟨f - 1, by omega⟩
    have e3 : nI n - 1 - nI l = nI (n - 1 - l) := by
      rw [show (1 : Int32) = nI 1 from rfl, pk_sub (by omega), pk_sub (by omega)]
    have i1 : vp_in (nI l) 48 := vp_in_nI (by omega) (by omega)
    have i2 : vp_in (nI (n - 1 - l)) 48 := vp_in_nI (by omega) (by omega)
    refine ⟨by decide, br_f ?_ (nm_r e3 ?_)⟩
    · rw [e2]; exact nI_ge (by omega) (by omega)
    · rw [nI_clamp (by omega), nI_clamp (by omega)]
      refine ⟨i1, nm_e ⟨i2, i1, nm_e ⟨i2, nm_e (nm_r (nI_1 l) ?_)⟩⟩⟩
      rw [rr_x_s (by omega)]
      exact ih (l + 1) (by omega) f (by omega)
theorem ry_rev28 {t cp fi la le : Nat → Int32} {fd : Int32} {n : Nat} (hn : n ≤ 48) (post : Int32 → SY → Prop) (h : post (nI n) (nI n, fd, rr_v t n, rr_c t cp 48, fi, la, le)) : ∀ d k : Nat, k + d = n → ∀ f, d < f → wY_reverse_28 post (nI n) fd f (nI k) (rr_t t (rr_c t cp 48) n k) (rr_c t cp 48) fi la le := by
  intro d
  induction d with
  | zero =>
    intro k hk f hf
    obtain ⟨f, rfl⟩ : ∃ g, f = g + 1 := ⟨f - 1, by omega⟩
    have e : k = n := by omega
    subst e
    rw [rr_t_e hn]
    exact br_t (nI_le (Nat.le_refl _) (by omega)) h
  | succ d ih =>
    intro k hk f hf
    obtain ⟨f, rfl⟩ : ∃ g, f = g + 1 := ⟨f - 1, by omega⟩
    have e3 : nI n - 1 - nI k = nI (n - 1 - k) := by
      rw [show (1 : Int32) = nI 1 from rfl, pk_sub (by omega), pk_sub (by omega)]
    refine br_f (nI_ge (by omega) (by omega)) (br_f (nI_ge (b := 48) (by omega) (by omega)) ?_)
    rw [e3, nI_clamp (by omega), nI_clamp (by omega)]
    refine ⟨vp_in_nI (by omega) (by omega), vp_in_nI (by omega) (by omega), nm_e (nm_r (nI_1 k) ?_)⟩
    rw [rr_t_s]
    exact ih (k + 1) (by omega) f (by omega)
theorem ry_rev2 {t cp fi la le : Nat → Int32} {fd : Int32} {n : Nat} (hn : n ≤ 48) (post : Int32 → SY → Prop) (h : post (nI n) (nI n, fd, rr_v t n, rr_c t cp 48, fi, la, le)) : ∀ d k : Nat, k + d = 48 → ∀ f, d < f → wY_reverse_2 post (nI n) fd f (nI k) t (rr_c t cp k) fi la le := by
  intro d
  induction d with
  | zero =>
    intro k hk f hf
    obtain ⟨f, rfl⟩ : ∃ g, f = g + 1 := ⟨f - 1, by omega⟩
    have e : k = 48 := by omega
    subst e
    refine br_t (nI_le (a := 48) (Nat.le_refl _) (by omega)) ⟨n + 1, ?_⟩
    have g := ry_rev28 (t := t) (cp := cp) (fi := fi) (la := la) (le := le) (fd := fd) hn post h n 0 (by omega) (n + 1) (by omega)
    have e0 : rr_t t (rr_c t cp 48) n 0 = t := by
      funext x
      exact if_neg (by omega)
    rw [e0] at g
    exact g
  | succ d ih =>
    intro k hk f hf
    obtain ⟨f, rfl⟩ : ∃ g, f = g + 1 := ⟨f - 1, by omega⟩
    have i1 : vp_in (nI k) 48 := vp_in_nI (by omega) (by omega)
    refine br_f (nI_ge (b := 48) (by omega) (by omega)) ⟨i1, i1, ?_⟩
    rw [nI_clamp (by omega)]
    refine nm_e (nm_r (nI_1 k) ?_)
    rw [rr_c_s]
    exact ih (k + 1) (by omega) f (by omega)
theorem i_vc_reverse {k : Nat} {u : SX} {v : SY} (I : i_Rel k u v) (hk : k + 3 ≤ 1536) : wpX_reverse (fun r u' => wpY_reverse (fun r' v' => r' = r ∧ i_Rel (k + 3) u' v') v) u := by
  obtain ⟨n, t, fd, cp, fi, la, le, hn, rfl, rfl⟩ := I
  refine ⟨n / 2 + 1, ?_⟩
  have g := rx_rev (t := t) hn (fun r u' => wpY_reverse (fun r' v' => r' = r ∧ i_Rel (k + 3) u' v') (nI n, fd, t, cp, fi, la, le)) ?_ (n / 2) 0 (by omega) (n / 2 + 1) (by omega)
  · rw [rr_x_0] at g
    exact g
  · refine ⟨49, ?_⟩
    have e0 : rr_c t cp 0 = cp := by
      funext x
      exact if_neg (by omega)
    have g := ry_rev2 (t := t) (cp := cp) (fi := fi) (la := la) (le := le) (fd := fd) hn (fun r' v' => r' = nI n ∧ i_Rel (k + 3) (nI n, rr_v t n) v') ⟨rfl, rr_mk hn⟩ 48 0 (by omega) 49 (by omega)
    rw [e0] at g
    exact g
theorem i_vc_length {k : Nat} {u : SX} {v : SY} (I : i_Rel k u v) (hk : k + 3 ≤ 1536) : wpX_length (fun r => wpY_length (fun r' => r' = r ∧ i_Rel (k + 3) u v) v) u := by
  obtain ⟨n, t, fd, cp, fi, la, le, hn, rfl, rfl⟩ := I
  exact ⟨rfl, rr_mk hn⟩
theorem i_vc_symbol {k : Nat} {u : SX} {v : SY} (I : i_Rel k u v) (hk : k + 3 ≤ 1536) (v1 : Int32) : wpX_symbol (fun r => wpY_symbol (fun r' => r' = r ∧ i_Rel (k + 3) u v) v v1) u v1 := by
  obtain ⟨n, t, fd, cp, fi, la, le, hn, rfl, rfl⟩ := I
  unfold wpX_symbol wpY_symbol
  dsimp only
  rcases rr_ix v1 hn with h | ⟨i, hi, rfl⟩
  · refine rx_bad h ?_
    refine br_t rfl ?_
    refine ry_bad h ?_
    exact br_f (by decide) ⟨rfl, rr_mk hn⟩
  · have hin : vp_in (nI i) 48 := vp_in_nI (by omega) (by omega)
    refine rx_good hn hi ?_
    refine br_f (by decide) ⟨hin, ?_⟩
    refine ry_good hn hi ?_
    exact br_t rfl ⟨hin, rfl, rr_mk hn⟩
