/-! the reference's table of runs -/
/-- the table holds the runs of the slots ahead of s -/
def rf_T (t : Nat → Int32) (n s : Nat) (fi la le : Nat → Int32) : Prop := ∀ q, q < s → rf_S t n q = true → fi (rf_n t n q) = nI (q / 24) ∧ la (rf_n t n q) = nI (rf_e t n (q / 24) (q % 24 + 1)) ∧ le (rf_n t n q) = nI (q % 24 + 1)
theorem rf_T_f {t : Nat → Int32} {n s : Nat} {fi la le : Nat → Int32} (h : rf_T t n s fi la le) (z : ¬ rf_S t n s = true) : rf_T t n (s + 1) fi la le := by
  intro q hq g
  by_cases e : q = s
  · subst e; exact absurd g z
  · exact h q (by omega) g
theorem rf_T_t {t : Nat → Int32} {n s : Nat} {fi la le : Nat → Int32} (h : rf_T t n s fi la le) : rf_T t n (s + 1) (upd fi (rf_n t n s) (nI (s / 24))) (upd la (rf_n t n s) (nI (rf_e t n (s / 24) (s % 24 + 1)))) (upd le (rf_n t n s) (nI (s % 24 + 1))) := by
  intro q hq g
  by_cases e : q = s
  · subst e; exact ⟨pk_us, pk_us, pk_us⟩
  · have h1 : rf_n t n (q + 1) ≤ rf_n t n s := rf_n_m t n (by omega)
    have h2 := rf_n_t g
    have ne : rf_n t n q ≠ rf_n t n s := by omega
    rw [pk_un ne, pk_un ne, pk_un ne]
    exact h q (by omega) g
section
variable {t : Nat → Int32} {n : Nat} {cp : Nat → Int32}
theorem ry_list17 (hn : n ≤ 48) {i : Nat} (hi : i < n) (post : SY → Prop) (J : Int32 → Int32 → (Nat → Int32) → (Nat → Int32) → (Nat → Int32) → (Nat → Int32) → (Nat → Int32) → Prop) (hJ : ∀ fi la le, rf_T t n (24 * (i + 1)) fi la le → J (nI (i + 1)) (nI (rf_n t n (24 * (i + 1)))) t cp fi la le) : ∀ d q : Nat, q + d = 24 → ∀ fi la le, rf_T t n (24 * i + q) fi la le → ∀ f, d < f → wY_list_17 post J (nI i) (nI n) f (nI (q + 1)) (nI (rf_n t n (24 * i + q))) t cp fi la le := by
  intro d
  induction d with
  | zero =>
    intro q hq fi la le T f hf
    obtain ⟨f, rfl⟩ : ∃ g, f = g + 1 := ⟨f - 1, by omega⟩
    have e : q = 24 := by omega
    subst e
    refine br_t (nI_lt (a := 24) (by omega) (by omega)) (nm_r (nI_1 i) ?_)
    exact hJ fi la le T
  | succ d ih =>
    intro q hq fi la le T f hf
    obtain ⟨f, rfl⟩ : ∃ g, f = g + 1 := ⟨f - 1, by omega⟩
    have hb := rf_b t (s := 24 * i + q + 1) hn (by omega)
    have hb0 := rf_b t (s := 24 * i + q) hn (by omega)
    refine br_f (nI_nlt (b := q + 1) (a := 24) (by omega) (by omega)) ?_
    refine ry_run hn hi (by omega) (by omega) ?_
    have ei : (24 * i + q) / 24 = i := by omega
    have eq : (24 * i + q) % 24 = q := by omega
    have es : rf_S t n (24 * i + q) = rf_R t n i (q + 1) := by
      unfold rf_S
      rw [ei, eq]
    by_cases c : rf_R t n i (q + 1) = true
    · have c' := c
      rw [← es] at c'
      have en := rf_n_t c'
      have T' := rf_T_t T
      rw [ei, eq] at T'
      have hin : vp_in (nI (rf_n t n (24 * i + q))) 96 := vp_in_nI (by omega) (by omega)
      have hx := rf_e_in (by omega) c
      rw [rf_v_t c]
      refine br_f (nI_pos (by omega)) (br_f (nI_ge (b := 96) (by omega) (by omega)) ?_)
      rw [nI_clamp (by omega)]
      refine ⟨hin, nm_e ⟨hin, nm_e ⟨hin, nm_e (nm_r (nI_1 _) (nm_r (nI_1 _) ?_))⟩⟩⟩
      have g := ih (q + 1) (by omega) _ _ _ T' f (by omega)
      rw [show 24 * i + (q + 1) = 24 * i + q + 1 by omega, en] at g
      exact g
    · have c' := c
      rw [← es] at c'
      have en := rf_n_f c'
      have T' := rf_T_f T c'
      rw [rf_v_f c]
      refine br_t (by decide) (nm_r (nI_1 _) ?_)
      have g := ih (q + 1) (by omega) _ _ _ T' f (by omega)
      rw [show 24 * i + (q + 1) = 24 * i + q + 1 by omega, en] at g
      exact g
theorem ry_list7 (hn : n ≤ 48) (post : SY → Prop) (h : ∀ fi la le, rf_T t n (24 * n) fi la le → post (nI n, nI (rf_n t n (24 * n)), t, cp, fi, la, le)) : ∀ d i : Nat, i + d = n → ∀ fi la le, rf_T t n (24 * i) fi la le → ∀ f, d < f → wY_list_7 post (nI n) f (nI i) (nI (rf_n t n (24 * i))) t cp fi la le := by
  intro d
  induction d with
  | zero =>
    intro i hi fi la le T f hf
    obtain ⟨f, rfl⟩ : ∃ g, f = g + 1 := ⟨f - 1, by omega⟩
    have e : i = n := by omega
    subst e
    exact br_t (nI_le (Nat.le_refl _) (by omega)) (h fi la le T)
  | succ d ih =>
    intro i hi fi la le T f hf
    obtain ⟨f, rfl⟩ : ∃ g, f = g + 1 := ⟨f - 1, by omega⟩
    refine br_f (nI_ge (by omega) (by omega)) ⟨25, ?_⟩
    exact ry_list17 hn (by omega) post _ (fun fi' la' le' T' => ih (i + 1) (by omega) fi' la' le' T' f (by omega)) 24 0 (by omega) fi la le T 25 (by omega)
theorem ry_list {fd : Int32} {fi la le : Nat → Int32} (hn : n ≤ 48) {post : SY → Prop} (h : ∀ fi la le, rf_T t n (24 * n) fi la le → post (nI n, nI (rf_n t n (24 * n)), t, cp, fi, la, le)) : wpY_list post (nI n, fd, t, cp, fi, la, le) :=
  ⟨n + 1, ry_list7 hn post h n 0 (by omega) fi la le (fun q hq => by omega) (n + 1) (by omega)⟩
end
