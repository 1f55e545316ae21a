/-! LAYER 2: the reference folds and compares -/
/-- all but the two scratch arrays stays -/
def ks (s s' : rS) : Prop := s'.1 = s.1 ∧ s'.2.1 = s.2.1 ∧ s'.2.2.2 = s.2.2.2 ∧ ∀ j, j ≠ 23 → j ≠ 24 → s'.2.2.1 j = s.2.2.1 j
def ldO (M : hM) (m sj Z : Nat) : Prop := ∀ (i : Int32) (K : Int32 → hX Int32) (s : rS), ¬ (i < 0 ∨ Z ≤ i.toNatClampNeg) → (b_ald (m + sj) 6 i K).1 (ov M m s) = (K (s.2.2.1 sj i.toNatClampNeg)).1 (ov M m s)
/-- the name w lies in array sj from b on -/
def nAt (M : hM) (m : Nat) (s : rS) (sj b : Nat) (w : List Int32) : Prop := ∃ Z, Z < 2 ^ 31 ∧ ldO M m sj Z ∧ b + w.length ≤ Z ∧ nmI (s.2.2.1 sj) b w ∧ wfN w ∧ sj ≠ 23 ∧ sj ≠ 24
section CMP
variable {N : Nat} {M : hM} {m p : Nat} {s s' s'' : rS}
theorem ks.rf : ks s s := ⟨rfl, rfl, rfl, fun _ _ _ => rfl⟩
theorem ks.tr (h : ks s s') (g : ks s' s'') : ks s s'' := ⟨g.1.trans h.1, g.2.1.trans h.2.1, g.2.2.1.trans h.2.2.1, fun j a b => (g.2.2.2 j a b).trans (h.2.2.2 j a b)⟩
theorem ld_1 : ldO M m 1 2000 := fun _ _ _ h => mA_1 h
theorem ld_8 : ldO M m 8 820 := fun _ _ _ h => mA_8 h
theorem ld_10 : ldO M m 10 205000 := fun _ _ _ h => mA_10 h
theorem ld_16 : ldO M m 16 164000 := fun _ _ _ h => mA_16 h
theorem ld_17 : ldO M m 17 164000 := fun _ _ _ h => mA_17 h
theorem nAt.k {sj b : Nat} {w : List Int32} (h : nAt M m s sj b w) (g : ks s s') : nAt M m s' sj b w := by
  obtain ⟨Z, a, b, c, d, e, f1, f2⟩ := h
  exact ⟨Z, a, b, c, by rw [g.2.2.2 sj f1 f2]; exact d, e, f1, f2⟩
theorem wfN0 {w : List Int32} (h : wfN w) : decide (cB (w.getD (0 - 1) 0)) = false := decide_eq_false h.2.2
theorem m_folded {sj dj b : Nat} {w : List Int32} (hN : 2001 ≤ N) (h : nAt M m s sj b w) (hd : dj = 23 ∨ dj = 24) : ∃ A, (f_MD_folded N (some (m + sj)) (nI b) (nI w.length) (some (m + dj))).1 (ov M m s) = some (nI (fold w).length, ov M m (s.1, s.2.1, va_up s.2.2.1 dj A, s.2.2.2)) ∧ (∀ j, j < (fold w).length → A j = (fold w).getD j 0) := by
  obtain ⟨Z, a1, a2, a3, a4, a5, f1, f2⟩ := h
  have hst : ∀ (i x : Int32) (K : hX Int32) (s : rS), ¬ (i < 0 ∨ 20 ≤ i.toNatClampNeg) → (b_ast (m + dj) 6 i x K).1 (ov M m s) = K.1 (ov M m (s.1, s.2.1, va_up s.2.2.1 dj (va_up (s.2.2.1 dj) i.toNatClampNeg x), s.2.2.2)) := by
    rcases hd with e | e <;> subst e
    · exact fun i x K s h => mS_23 h
    · exact fun i x K s h => mS_24 h
  have hl := a5.1
  have := m_fold_loop (N := N) (M := M) (m := m) (s := s) (sj := sj) (dj := dj) (Z := Z) (b := b) (w := w) (by rcases hd with e | e <;> subst e <;> assumption) a1 a2 hst a5 a3 a4 w.length N 0 0 (s.2.2.1 dj) (by omega) (by omega) (by omega)
  rw [wfN0 a5, ua_self rfl, Nat.zero_add] at this
  refine ⟨_, this, fun j hj => ?_⟩
  have := cpA_in (A := s.2.2.1 dj) (g := fun j => (fd false (w.drop 0)).getD j 0) (b := 0) hj
  rw [Nat.zero_add] at this
  exact this
theorem nI_sub_c {a b k : Nat} : nI (k + a) - nI (k + b) = nI a - nI b := by
  rw [← nI_add, ← nI_add, Int32.sub_eq_add_neg, Int32.neg_add, Int32.sub_eq_add_neg, Int32.sub_eq_add_neg]
  rw [Int32.add_assoc, ← Int32.add_assoc (nI a), Int32.add_comm (nI a) (-nI k), Int32.add_assoc (-nI k), ← Int32.add_assoc (nI k), Int32.add_right_neg, Int32.zero_add]
theorem cmpL_nil {x y : List Int32} (h : x = [] ∨ y = []) : cmpL x y = nI x.length - nI y.length := by
  rcases x with _ | ⟨a, x⟩
  · unfold cmpL; rfl
  · rcases h with h | h
    · cases h
    · subst h; unfold cmpL; rfl
theorem m_cmp_loop {x y : List Int32} (hx : x.length ≤ 20) (hy : y.length ≤ 20) (h1 : ∀ j, j < x.length → s.2.2.1 23 j = x.getD j 0) (h2 : ∀ j, j < y.length → s.2.2.1 24 j = y.getD j 0) {p0 p3 : Option Nat} {p1 p2 p4 p5 : Int32} : ∀ (d fu k : Nat), d + k = min x.length y.length → d < fu →
    (f_MD_compare_30 N m p0 p1 p2 p3 p4 p5 fu (nI x.length) (nI y.length) (nI k)).1 (ov M m s) = some (cmpL (x.drop k) (y.drop k), ov M m s) := by
  intro d
  induction d with
  | zero =>
    intro fu k hd hfu
    obtain ⟨fu, rfl⟩ : ∃ g, fu = g + 1 := ⟨fu - 1, by omega⟩
    have e : cmpL (x.drop k) (y.drop k) = nI x.length - nI y.length := by
      rw [cmpL_nil, List.length_drop, List.length_drop]
      · have := nI_sub_c (a := x.length - k) (b := y.length - k) (k := k)
        rw [show k + (x.length - k) = x.length by omega, show k + (y.length - k) = y.length by omega] at this
        exact this.symm
      · by_cases c : x.length ≤ k
        · left; exact List.drop_eq_nil_of_le c
        · right; exact List.drop_eq_nil_of_le (by omega)
    rw [e, e_MD_compare_30, r_let]
    by_cases c : x.length ≤ k
    · rw [r_if_t (show nI x.length ≤ nI k from nI_le c (by omega))]; rfl
    · rw [r_if_f (show ¬ nI x.length ≤ nI k from nI_ge (by omega) (by omega)), r_if_t (show nI y.length ≤ nI k from nI_le (by omega) (by omega))]; rfl
  | succ d ih =>
    intro fu k hd hfu
    obtain ⟨fu, rfl⟩ : ∃ g, fu = g + 1 := ⟨fu - 1, by omega⟩
    have i1 : ¬ (nI k < 0 ∨ 20 ≤ (nI k).toNatClampNeg) := nI_in (by omega) (by decide)
    have i2 := nI_clamp (n := k) (by omega)
    rw [e_MD_compare_30, r_let, r_if_f (show ¬ nI x.length ≤ nI k from nI_ge (by omega) (by omega)), r_if_f (show ¬ nI y.length ≤ nI k from nI_ge (by omega) (by omega))]
    rw [drop_cons (w := x) (i := k) (by omega), drop_cons (w := y) (i := k) (by omega)]
    simp only [mR_37, mR_38, r_nn, mA_23 i1, mA_24 i1, i2, h1 k (by omega), h2 k (by omega)]
    unfold cmpL
    by_cases c : x.getD k 0 = y.getD k 0
    · rw [r_if_t c, if_pos c, nI_1]
      exact ih fu (k + 1) (by omega) (by omega)
    · rw [r_if_f c, if_neg c]
      simp only [mR_37, mR_38, r_nn, mA_23 i1, mA_24 i1, i2, h1 k (by omega), h2 k (by omega), r_ret]
theorem m_compare {sj b sj' b' : Nat} {w w' : List Int32} (hN : 2001 ≤ N) (h : nAt M m s sj b w) (h' : nAt M m s sj' b' w') : ∃ s', (f_MD_compare N m (some (m + sj)) (nI b) (nI w.length) (some (m + sj')) (nI b') (nI w'.length)).1 (ov M m s) = some (cmpN w w', ov M m s') ∧ ks s s' := by
  obtain ⟨A, a1, a2⟩ := m_folded (N := N) hN h (Or.inl rfl)
  have k1 : ks s (s.1, s.2.1, va_up s.2.2.1 23 A, s.2.2.2) := ⟨rfl, rfl, rfl, fun j x _ => ua_n x⟩
  obtain ⟨B, b1, b2⟩ := m_folded (N := N) hN (h'.k k1) (Or.inr rfl)
  have l1 : w.length ≤ 20 := by obtain ⟨_, _, _, _, _, a5, _⟩ := h; exact a5.1
  have l2 : w'.length ≤ 20 := by obtain ⟨_, _, _, _, _, a5, _⟩ := h'; exact a5.1
  have f1 := fd_len w false
  have f2 := fd_len w' false
  refine ⟨(s.1, s.2.1, va_up (va_up s.2.2.1 23 A) 24 B, s.2.2.2), ?_, rfl, rfl, rfl, fun j x y => (ua_n y).trans (ua_n x)⟩
  rw [e_MD_compare]
  simp only [mR_37, r_callE, a1, Option.bind_some, mR_38, b1]
  have := m_cmp_loop (N := N) (M := M) (m := m) (s := (s.1, s.2.1, va_up (va_up s.2.2.1 23 A) 24 B, s.2.2.2)) (x := fold w) (y := fold w') (Nat.le_trans f1 l1) (Nat.le_trans f2 l2) (fun j hj => a2 j hj) (fun j hj => b2 j hj) (p0 := some (m + sj)) (p1 := nI b) (p2 := nI w.length) (p3 := some (m + sj')) (p4 := nI b') (p5 := nI w'.length) (min (fold w).length (fold w').length) N 0 (by omega) (by have : (fold w).length ≤ w.length := f1; omega)
  exact this
end CMP
