/-! LAYER 2: rows joined, in the reference -/
def joR (a b : aR) : Prop := (a.1 < 7 ∨ (9 < a.1 ∧ a.1 < 14)) ∧ ordR a b = 0
def jlo (a b : aR) : Int64 := if a.2.2.2.2.1 ≤ b.2.2.2.2.1 then b.2.2.2.2.1 else a.2.2.2.2.1
def jhi (a b : aR) : Int64 := if b.2.2.2.2.2.1 ≤ a.2.2.2.2.2.1 then b.2.2.2.2.2.1 else a.2.2.2.2.2.1
/-- two rows joined -/
def jnR (a b : aR) : aR := (a.1, a.2.1, a.2.2.1, a.2.2.2.1, (if a.1 < 7 then (if jlo a b < jhi a b then jlo a b else 0) else a.2.2.2.2.1), (if a.1 < 7 then (if jlo a b < jhi a b then jhi a b else 0) else a.2.2.2.2.2.1), a.2.2.2.2.2.2 || !(a.2.2.1 == b.2.2.1))
noncomputable def jnS : Nat → Nat → List aR → (Nat → aR) → List aR
  | 0, _, o, _ => o
  | d + 1, k, [], g => jnS d (k + 1) [g k] g
  | d + 1, k, a :: o, g => @ite _ (joR a (g k)) (Classical.propDecidable _) (jnS d (k + 1) (jnR a (g k) :: o) g) (jnS d (k + 1) (g k :: a :: o) g)
def OutR (s : rS) (p : Nat) : List aR → Prop
  | [] => True
  | a :: o => (RR s (200 * p + o.length) a ∧ wfR a) ∧ OutR s p o
section JN
variable {N : Nat} {M : hM} {m p : Nat} {s s' s'' : rS}
theorem m_joins {r r' : Nat} {x y : aR} (hN : 2001 ≤ N) (hr : r < 8200) (hr' : r' < 8200) (hx : RR s r x) (hy : RR s r' y) (wx : wfR x) (wy : wfR y) :
    ∃ s', (f_MD_joins N m (nI r) (nI r')).1 (ov M m s) = some (@bI (joR x y) (Classical.propDecidable _), ov M m s') ∧ ks s s' := by
  have i1 : ¬ (nI r < 0 ∨ 8200 ≤ (nI r).toNatClampNeg) := nI_in hr (by decide)
  have c1 := nI_clamp (n := r) (by omega)
  have x1 := hx.1.1
  have w1 := wx.1
  obtain ⟨s1, r1, r2⟩ := m_order (N := N) (M := M) (m := m) hN hr hr' hx hy wx wy
  rw [e_MD_joins, r_let, r_let, r_let]
  simp only [mR_19, r_nn, mA_12 i1, c1, x1]
  have yes : (x.1 < 7 ∨ (9 < x.1 ∧ x.1 < 14)) → ∃ s', (b_is m 1 (b_call (f_MD_order N m (nI r) (nI r')) (fun v1 => (if v1 = 0 then b_retN .boolean 1 else b_retN .boolean 0)))).1 (ov M m s) = some (@bI (joR x y) (Classical.propDecidable _), ov M m s') ∧ ks s s' := by
    intro hc
    refine ⟨s1, ?_, r2⟩
    simp only [mI_is, r_callE, r1, Option.bind_some]
    by_cases c : ordR x y = 0
    · rw [r_if_t c, @bI_t (joR x y) (Classical.propDecidable _) ⟨hc, c⟩]; exact rZ1
    · rw [r_if_f c, @bI_f (joR x y) (Classical.propDecidable _) (fun z => c z.2)]; exact rZ0
  have no : ¬ (x.1 < 7 ∨ (9 < x.1 ∧ x.1 < 14)) → ∃ s', ((b_retN .boolean 0 : hX Int32)).1 (ov M m s) = some (@bI (joR x y) (Classical.propDecidable _), ov M m s') ∧ ks s s' := by
    intro hc
    refine ⟨s, ?_, ks.rf⟩
    rw [@bI_f (joR x y) (Classical.propDecidable _) (fun z => hc z.1)]; exact rZ0
  by_cases d1 : x.1 < 7
  · rw [r_if_t (show nI x.1 < 7 from nI_lt (b := 7) d1 (by omega))]
    exact yes (Or.inl d1)
  · rw [r_if_f (show ¬ nI x.1 < 7 from nI_nlt (b := 7) (by omega) (by omega))]
    by_cases d2 : x.1 ≤ 9
    · rw [r_if_t (show nI x.1 ≤ 9 from nI_le (b := 9) d2 (by omega))]
      exact no (by omega)
    · rw [r_if_f (show ¬ nI x.1 ≤ 9 from nI_ge (a := 9) (by omega) (by omega))]
      by_cases d3 : 14 ≤ x.1
      · rw [r_if_t (show 14 ≤ nI x.1 from nI_le (a := 14) d3 (by omega))]
        exact no (by omega)
      · rw [r_if_f (show ¬ 14 ≤ nI x.1 from nI_ge (b := 14) (by omega) (by omega))]
        exact yes (by omega)
theorem ext_getD {x y : List Int32} (hl : x.length = y.length) (h : ∀ j, j < x.length → x.getD j 0 = y.getD j 0) : x = y := by
  apply List.ext_getElem hl
  intro i h1 h2
  have := h i h1
  rw [List.getD_eq_getElem?_getD, List.getD_eq_getElem?_getD, List.getElem?_eq_getElem h1, List.getElem?_eq_getElem h2] at this
  exact this
theorem m_wri_loop {r r' : Nat} {x y : aR} (hr : r < 8200) (hr' : r' < 8200) (hx : RR s r x) (hy : RR s r' y) (hl : x.2.2.1.length = y.2.2.1.length) : ∀ (d fu i : Nat), d + i = x.2.2.1.length → d < fu → (∀ j, j < i → x.2.2.1.getD j 0 = y.2.2.1.getD j 0) →
    (f_MD_isWritten_24 N m (nI r) (nI r') fu 1 (nI i)).1 (ov M m s) = some (bZ (x.2.2.1 == y.2.2.1), ov M m s) := by
  have i1 : ¬ (nI r < 0 ∨ 8200 ≤ (nI r).toNatClampNeg) := nI_in hr (by decide)
  have c1 := nI_clamp (n := r) (by omega)
  have hL := hx.2.1
  intro d
  induction d with
  | zero =>
    intro fu i h1 h2 hj
    obtain ⟨fu, rfl⟩ : ∃ g, fu = g + 1 := ⟨fu - 1, by omega⟩
    rw [e_MD_isWritten_24, r_let]
    simp only [mR_21, r_nn, mA_14 i1, c1, hx.1.2.2.1, show nI x.2.2.1.length ≤ nI i from nI_le (by omega) (by omega), if_true]
    rw [show (x.2.2.1 == y.2.2.1) = true from by rw [beq_iff_eq]; exact ext_getD hl (fun j h => hj j (by omega))]
    exact rZ1
  | succ d ih =>
    intro fu i h1 h2 hj
    obtain ⟨fu, rfl⟩ : ∃ g, fu = g + 1 := ⟨fu - 1, by omega⟩
    have e1 : (20 : Int32) * nI r + nI i = nI (20 * r + i) := by rw [show (20 : Int32) * nI r = nI (20 * r) from nI_mul, nI_add]
    have e2 : (20 : Int32) * nI r' + nI i = nI (20 * r' + i) := by rw [show (20 : Int32) * nI r' = nI (20 * r') from nI_mul, nI_add]
    have j1 : ¬ (nI (20 * r + i) < 0 ∨ 164000 ≤ (nI (20 * r + i)).toNatClampNeg) := nI_in (by omega) (by decide)
    have k1 := nI_clamp (n := 20 * r + i) (by omega)
    have j2 : ¬ (nI (20 * r' + i) < 0 ∨ 164000 ≤ (nI (20 * r' + i)).toNatClampNeg) := nI_in (by omega) (by decide)
    have k2 := nI_clamp (n := 20 * r' + i) (by omega)
    rw [e_MD_isWritten_24, r_let]
    simp only [mR_21, r_nn, mA_14 i1, c1, hx.1.2.2.1, show ¬ nI x.2.2.1.length ≤ nI i from nI_ge (by omega) (by omega), if_false, show ¬ (1 : Int32) = 0 by decide, mR_23, e1, e2, mA_16 j1, mA_16 j2, k1, k2, hx.1.2.2.2.1 i (by omega), hy.1.2.2.2.1 i (by omega)]
    by_cases c : x.2.2.1.getD i 0 = y.2.2.1.getD i 0
    · rw [r_if_t c, nI_1]
      refine ih fu (i + 1) (by omega) (by omega) (fun j h => ?_)
      by_cases e : j = i
      · rw [e]; exact c
      · exact hj j (by omega)
    · rw [r_if_f c]
      obtain ⟨fu, rfl⟩ : ∃ g, fu = g + 1 := ⟨fu - 1, by omega⟩
      rw [show (x.2.2.1 == y.2.2.1) = false from by rw [beq_eq_false_iff_ne]; exact fun z => c (by rw [z])]
      rw [e_MD_isWritten_24, r_let]
      simp only [mR_21, r_nn, mA_14 i1, c1, hx.1.2.2.1]
      by_cases c2 : nI x.2.2.1.length ≤ nI i + 1
      · rw [r_if_t c2]; exact rZ0
      · rw [r_if_f c2, r_if_t trivial]; exact rZ0
theorem m_isWritten {r r' : Nat} {x y : aR} (hN : 2001 ≤ N) (hr : r < 8200) (hr' : r' < 8200) (hx : RR s r x) (hy : RR s r' y) : (f_MD_isWritten N m (nI r) (nI r')).1 (ov M m s) = some (bZ (x.2.2.1 == y.2.2.1), ov M m s) := by
  have i1 : ¬ (nI r < 0 ∨ 8200 ≤ (nI r).toNatClampNeg) := nI_in hr (by decide)
  have c1 := nI_clamp (n := r) (by omega)
  have i2 : ¬ (nI r' < 0 ∨ 8200 ≤ (nI r').toNatClampNeg) := nI_in hr' (by decide)
  have c2 := nI_clamp (n := r') (by omega)
  have hL := hx.2.1
  have hL' := hy.2.1
  rw [e_MD_isWritten, r_let]
  simp only [mR_21, r_nn, mA_14 i1, mA_14 i2, c1, c2, hx.1.2.2.1, hy.1.2.2.1]
  by_cases c : x.2.2.1.length = y.2.2.1.length
  · rw [r_if_t (show nI x.2.2.1.length = nI y.2.2.1.length by rw [c])]
    exact m_wri_loop hr hr' hx hy c x.2.2.1.length N 0 (by omega) (by omega) (fun j h => absurd h (by omega))
  · rw [r_if_f (show ¬ nI x.2.2.1.length = nI y.2.2.1.length from fun z => c ((nI_eq (by omega) (by omega)).mp z))]
    obtain ⟨N', hN'⟩ : ∃ g, N = g + 1 := ⟨N - 1, by omega⟩
    rw [show (x.2.2.1 == y.2.2.1) = false from by rw [beq_eq_false_iff_ne]; exact fun z => c (by rw [z])]
    have : (f_MD_isWritten_24 N m (nI r) (nI r') (N' + 1) 0 0).1 (ov M m s) = some (bZ false, ov M m s) := by
      rw [e_MD_isWritten_24, r_let]
      simp only [mR_21, r_nn, mA_14 i1, c1, hx.1.2.2.1]
      by_cases c2 : nI x.2.2.1.length ≤ 0
      · rw [r_if_t c2]; exact rZ0
      · rw [r_if_f c2, r_if_t trivial]; exact rZ0
    rw [← hN'] at this
    exact this
end JN
