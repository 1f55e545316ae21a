/-! LAYER 2: rows sorted -/
def swG (g : Nat → aR) (i : Nat) : Nat → aR := va_up (va_up g i (g (i + 1))) (i + 1) (g i)
/-- the row at i goes up as long as a greater one stands ahead -/
def insG : Nat → (Nat → aR) → (Nat → aR)
  | 0, g => g
  | i + 1, g => if 0 < ordR (g i) (g (i + 1)) then insG i (swG g i) else g
def srtG : Nat → Nat → (Nat → aR) → (Nat → aR)
  | 0, _, g => g
  | d + 1, k, g => srtG d (k + 1) (insG k g)
def MRg (s : rS) (p w : Nat) (g : Nat → aR) : Prop := ∀ i, i < w → RR s (200 * p + i) (g i) ∧ wfR (g i)
/-- only rows of package p, and scratch, are touched -/
def kt (p : Nat) (s s' : rS) : Prop := s'.1 = s.1 ∧ (∀ j i, j ≠ 23 → j ≠ 24 → (∀ r, 200 * p ≤ r → r < 200 * p + 200 → ¬ tch r j i) → s'.2.2.1 j i = s.2.2.1 j i) ∧ (∀ j i, (∀ r, 200 * p ≤ r → r < 200 * p + 200 → ¬ tchL r j i) → s'.2.2.2 j i = s.2.2.2 j i)
section SRT
variable {N : Nat} {M : hM} {m p : Nat} {s s' s'' : rS}
theorem kt.rf : kt p s s := ⟨rfl, fun _ _ _ _ _ => rfl, fun _ _ _ => rfl⟩
theorem kt.tr (h : kt p s s') (g : kt p s' s'') : kt p s s'' := ⟨g.1.trans h.1, fun j i a b c => (g.2.1 j i a b c).trans (h.2.1 j i a b c), fun j i c => (g.2.2 j i c).trans (h.2.2 j i c)⟩
theorem ks.t (h : ks s s') : kt p s s' := ⟨h.1, fun j i a b _ => by rw [h.2.2.2 j a b], fun j i _ => by rw [h.2.2.1]⟩
theorem kt_x {r r' : Nat} (e : s'.1 = s.1) (hr : 200 * p ≤ r ∧ r < 200 * p + 200) (hr' : 200 * p ≤ r' ∧ r' < 200 * p + 200) (h1 : ∀ j i, ¬ tch r j i → ¬ tch r' j i → s'.2.2.1 j i = s.2.2.1 j i) (h2 : ∀ j i, ¬ tchL r j i → ¬ tchL r' j i → s'.2.2.2 j i = s.2.2.2 j i) : kt p s s' :=
  ⟨e, fun j i _ _ c => h1 j i (c r hr.1 hr.2) (c r' hr'.1 hr'.2), fun j i c => h2 j i (c r hr.1 hr.2) (c r' hr'.1 hr'.2)⟩
theorem RR_keep2 {r1 r2 r' : Nat} {a : aR} (h : RR s r' a) (h1 : ∀ j i, ¬ tch r1 j i → ¬ tch r2 j i → s'.2.2.1 j i = s.2.2.1 j i) (h2 : ∀ j i, ¬ tchL r1 j i → ¬ tchL r2 j i → s'.2.2.2 j i = s.2.2.2 j i) (n1 : r' ≠ r1) (n2 : r' ≠ r2) : RR s' r' a := by
  obtain ⟨⟨a1, a2, a3, a4, a5, a6, a7, a8, a9⟩, b1, b2⟩ := h
  refine ⟨⟨?_, ?_, ?_, ?_, ?_, ?_, ?_, ?_, ?_⟩, b1, b2⟩
  · rw [h1 12 r' (by unfold tch; omega) (by unfold tch; omega)]; exact a1
  · rw [h1 13 r' (by unfold tch; omega) (by unfold tch; omega)]; exact a2
  · rw [h1 14 r' (by unfold tch; omega) (by unfold tch; omega)]; exact a3
  · intro j hj; rw [h1 16 _ (by unfold tch; omega) (by unfold tch; omega)]; exact a4 j hj
  · rw [h1 15 r' (by unfold tch; omega) (by unfold tch; omega)]; exact a5
  · intro j hj; rw [h1 17 _ (by unfold tch; omega) (by unfold tch; omega)]; exact a6 j hj
  · rw [h2 18 r' (by unfold tchL; omega) (by unfold tchL; omega)]; exact a7
  · rw [h2 19 r' (by unfold tchL; omega) (by unfold tchL; omega)]; exact a8
  · rw [h1 20 r' (by unfold tch; omega) (by unfold tch; omega)]; exact a9
theorem nI_m1 {a : Nat} : nI (a + 1) + (-1) = nI a := by
  have := nI_pred a
  rw [Int32.sub_eq_add_neg] at this
  exact this
theorem MRg.k {w : Nat} {g : Nat → aR} (h : MRg s p w g) (k : ks s s') : MRg s' p w g := fun i hi => ⟨(h i hi).1.k k, (h i hi).2⟩
theorem MRg.sw {w i : Nat} {g : Nat → aR} (h : MRg s p w g) (hi : i + 1 < w) (hx : RR s' (200 * p + i) (g (i + 1))) (hy : RR s' (200 * p + (i + 1)) (g i)) (h1 : ∀ j k, ¬ tch (200 * p + i) j k → ¬ tch (200 * p + (i + 1)) j k → s'.2.2.1 j k = s.2.2.1 j k) (h2 : ∀ j k, ¬ tchL (200 * p + i) j k → ¬ tchL (200 * p + (i + 1)) j k → s'.2.2.2 j k = s.2.2.2 j k) : MRg s' p w (swG g i) := by
  intro k hk
  unfold swG
  by_cases c1 : k = i + 1
  · subst c1; rw [ua_s]; exact ⟨hy, (h i (by omega)).2⟩
  · rw [ua_n c1]
    by_cases c2 : k = i
    · subst c2; rw [ua_s]; exact ⟨hx, (h (k + 1) hi).2⟩
    · rw [ua_n c2]; exact ⟨RR_keep2 (h k hk).1 h1 h2 (by omega) (by omega), (h k hk).2⟩
theorem m_ins {w k : Nat} (hN : 2001 ≤ N) (hp : p ≤ 40) (hw : w ≤ 200) {K7 : Int32 → Int32 → hX Unit} : ∀ (i fu : Nat) (s : rS) (g : Nat → aR), i < w → i < fu → MRg s p w g →
    ∃ s', (f_MD_settle_19 N m K7 fu (nI (200 * p)) (nI k) (nI (200 * p + i))).1 (ov M m s) = (K7 (nI (200 * p)) (nI (k + 1))).1 (ov M m s') ∧ MRg s' p w (insG i g) ∧ kt p s s' ∧ s'.2.1 = s.2.1 := by
  intro i
  induction i with
  | zero =>
    intro fu s g h1 h2 hM
    obtain ⟨fu, rfl⟩ : ∃ g, fu = g + 1 := ⟨fu - 1, by omega⟩
    refine ⟨s, ?_, hM, kt.rf, rfl⟩
    rw [e_MD_settle_19, r_let, r_if_t (show nI (200 * p + 0) ≤ nI (200 * p) from nI_le (by omega) (by omega))]
    dsimp only
    rw [nI_1]
  | succ i ih =>
    intro fu s g h1 h2 hM
    obtain ⟨fu, rfl⟩ : ∃ g, fu = g + 1 := ⟨fu - 1, by omega⟩
    have hx := hM i (by omega)
    have hy := hM (i + 1) h1
    obtain ⟨s1, r1, r2⟩ := m_order (N := N) (M := M) (m := m) hN (show 200 * p + i < 8200 by omega) (show 200 * p + (i + 1) < 8200 by omega) hx.1 hy.1 hx.2 hy.2
    rw [e_MD_settle_19, r_let, r_if_f (show ¬ nI (200 * p + (i + 1)) ≤ nI (200 * p) from nI_ge (by omega) (by omega))]
    have em : nI (200 * p + (i + 1)) - 1 = nI (200 * p + i) := nI_pred (200 * p + i)
    simp only [em, mI_is, r_callE, r1, Option.bind_some]
    show ∃ s', _ ∧ MRg s' p w (if 0 < ordR (g i) (g (i + 1)) then insG i (swG g i) else g) ∧ kt p s s' ∧ s'.2.1 = s.2.1
    by_cases c : 0 < ordR (g i) (g (i + 1))
    · rw [if_pos c, r_if_f (show ¬ ordR (g i) (g (i + 1)) ≤ 0 from fun z => absurd (Int32.lt_of_lt_of_le c z) Int32.lt_irrefl)]
      have hM1 := hM.k r2
      obtain ⟨s2, u1, u2, u3, u4, u5, u6, u7⟩ := m_exchange (N := N) (M := M) (m := m) (s := s1) hN (show 200 * p + i < 8200 by omega) (show 200 * p + (i + 1) < 8200 by omega) (by omega) (hx.1.k r2) (hy.1.k r2) hx.2 hy.2
      have em2 : nI (200 * p + (i + 1)) + (-1) = nI (200 * p + i) := nI_m1
      simp only [mI_is, r_callE, u1, Option.bind_some, em2]
      obtain ⟨s3, v1, v2, v3, v4⟩ := ih fu s2 (swG g i) (by omega) (by omega) (hM1.sw h1 u4 u5 u6 u7)
      refine ⟨s3, v1, v2, (r2.t.tr (kt_x u2 (by omega) (by omega) u6 u7)).tr v3, v4.trans (u3.trans r2.2.1)⟩
    · rw [if_neg c, r_if_t (show ordR (g i) (g (i + 1)) ≤ 0 from Int32.not_lt.mp c), nI_1]
      exact ⟨s1, rfl, hM.k r2, r2.t, r2.2.1⟩
theorem m_sort {w : Nat} (hN : 2001 ≤ N) (hp : p ≤ 40) (hw : w ≤ 200) : ∀ (d fu k : Nat) (s : rS) (g : Nat → aR), d + k = max w k → d < fu → s.1 28 = nI w → k ≤ 201 → MRg s p w g →
    ∃ s', (f_MD_settle_7 N m fu (nI (200 * p)) (nI k)).1 (ov M m s) = (f_MD_settle_59 N m N (nI (200 * p)) 0 0).1 (ov M m s') ∧ MRg s' p w (srtG d k g) ∧ kt p s s' ∧ s'.2.1 = s.2.1 := by
  intro d
  induction d with
  | zero =>
    intro fu k s g h1 h2 h28 hk hM
    obtain ⟨fu, rfl⟩ : ∃ g, fu = g + 1 := ⟨fu - 1, by omega⟩
    refine ⟨s, ?_, hM, kt.rf, rfl⟩
    rw [e_MD_settle_7]
    simp only [mI_28, h28, show nI w ≤ nI k from nI_le (by omega) (by omega), if_true]
  | succ d ih =>
    intro fu k s g h1 h2 h28 hk hM
    obtain ⟨fu, rfl⟩ : ∃ g, fu = g + 1 := ⟨fu - 1, by omega⟩
    have hkw : k < w := by omega
    rw [e_MD_settle_7]
    simp only [mI_28, h28, show ¬ nI w ≤ nI k from nI_ge (by omega) (by omega), if_false, nI_add]
    obtain ⟨s1, v1, v2, v3, v4⟩ := m_ins (N := N) (M := M) (m := m) (k := k) hN hp hw (K7 := f_MD_settle_7 N m fu) k N s g hkw (by omega) hM
    obtain ⟨s2, u1, u2, u3, u4⟩ := ih fu (k + 1) s1 (insG k g) (by omega) (by omega) (by rw [v3.1]; exact h28) (by omega) v2
    exact ⟨s2, v1.trans u1, u2, v3.tr u3, u4.trans v4⟩
end SRT
