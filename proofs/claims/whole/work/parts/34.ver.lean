/-! LAYER 2: the reference's numbers and versions -/
section VERR
variable {N : Nat} {M : hM} {m : Nat} {s : rS} {f : Nat → Int32} {n k : Nat}
theorem sp_ne (h : sp f n k ≠ k) : k < n ∧ (f k = 32 ∨ f k = 10) := by
  unfold sp at h
  by_cases hk : k < n
  · refine ⟨hk, ?_⟩
    obtain ⟨d, hd⟩ : ∃ d, n - k = d + 1 := ⟨n - k - 1, by omega⟩
    rw [hd, show skp f (d + 1) k = if f k = 32 ∨ f k = 10 then skp f d (k + 1) else k from rfl] at h
    by_cases g : f k = 32 ∨ f k = 10
    · exact g
    · rw [if_neg g] at h; exact absurd rfl h
  · rw [show n - k = 0 by omega] at h; exact absurd rfl h
theorem den_0 (h : ¬ (k < n ∧ cD (f k))) : den f (n - k) k = k := by
  by_cases hk : k < n
  · obtain ⟨d, hd⟩ : ∃ d, n - k = d + 1 := ⟨n - k - 1, by omega⟩
    rw [hd]; exact if_neg (fun z => h ⟨hk, z⟩)
  · rw [show n - k = 0 by omega]; rfl
theorem te_D {q : Nat} (h : q < n) (hD : cD (f q)) : te f n q = den f (n - q) q := by
  unfold te; rw [if_neg (by omega), if_neg (fun z => cL_cD z hD), if_pos hD]
theorem m_numW (h7 : ¬ s.1 7 = 0) : (f_MD_number N m).1 (ov M m s) = some (0, ov M m s) := by
  rw [e_MD_number]
  simp only [r_let, mI_is, r_callE, m_isWrong, Option.bind_some, h7, not_false_eq_true, bI, if_true, show ¬ (1 : Int32) = 0 by decide, if_false, r_ret]
theorem m_number (hN : 2001 ≤ N) (h : tkW s f n k) (h7 : s.1 7 = 0) :
    if nuOk f (sp f n k) (den f (n - sp f n k) (sp f n k) - sp f n k) then ∃ s', (f_MD_number N m).1 (ov M m s) = some (lN (nv f (sp f n k) (den f (n - sp f n k) (sp f n k) - sp f n k)), ov M m s') ∧ tkS s' f n (den f (n - sp f n k) (sp f n k)) ∧ kp s s' ∧ s'.1 7 = 0
    else ∃ s', (f_MD_number N m).1 (ov M m s) = some (0, ov M m s') ∧ kp s s' ∧ s'.1 7 = wr (sp f n k) := by
  obtain ⟨hS, h3, h5, h4, hk⟩ := h
  have hn := hS.2.1
  have hq := sp_le (f := f) hk
  rw [e_MD_number]
  have bad : ∀ X : Option (Int64 × hM), (b_getI m 1 3 (fun v1 => b_is m 1 (b_call (f_MD_fail N m v1) (fun _ => b_ret (0 : Int64))))).1 (ov M m s) = X → X = some (0, ov M m (va_up s.1 7 (wr (sp f n k)), s.2)) := by
    intro X hX
    rw [← hX]
    simp only [mI_3, h3, mI_is, r_callE, m_fail0 h7, Option.bind_some, r_ret]; rfl
  have badk : kp s (va_up s.1 7 (wr (sp f n k)), s.2) := kp_up (Or.inl (by omega))
  generalize sp f n k = q at *
  rw [r_let, r_let]
  by_cases c1 : q < n ∧ cD (f q)
  · have e4 : te f n q = den f (n - q) q := te_D c1.1 c1.2
    have dge := den_ge (f := f) (n - q) q
    have dle := den_le (f := f) (n - q) q
    have dd : q < den f (n - q) q := by
      obtain ⟨d, hd⟩ : ∃ d, n - q = d + 1 := ⟨n - q - 1, by omega⟩
      rw [hd, show den f (d + 1) q = if cD (f q) then den f d (q + 1) else q from rfl, if_pos c1.2]
      have := den_ge (f := f) d (q + 1); omega
    have g2 : ¬ (nI q < 0 ∨ 2000 ≤ (nI q).toNatClampNeg) := nI_in (by omega) (by decide)
    have g3 := nI_clamp (n := q) (by omega)
    have hsub : nI (den f (n - q) q) - nI q = nI (den f (n - q) q - q) := pk_sub dge
    have t48 : tx f q = f q := sx_id hS.2.2.1 (Or.inr (Or.inl c1.2))
    simp only [mI_is, r_callE, m_isWrong, Option.bind_some, h7, not_true_eq_false, bI, if_false, if_true, mI_5, h5, (tw_D hS.2.2.1).mpr c1, mI_4, h4, e4, mI_3, h3, hsub]
    by_cases c2 : 6 < den f (n - q) q - q
    · rw [if_neg (fun z : nuOk f q _ => by have := z.2.1; omega), r_if_t (show (6 : Int32) < nI (den f (n - q) q - q) from nI_lt (a := 6) c2 (by omega))]
      exact ⟨_, bad _ rfl, badk, rfl⟩
    · rw [r_if_f (show ¬ (6 : Int32) < nI (den f (n - q) q - q) from nI_nlt (b := 6) (a := den f (n - q) q - q) |> fun _ => fun z => nI_ge (a := den f (n - q) q - q) (b := 6 + 1) (by omega) (by omega) (by
        have : nI 6 < nI (den f (n - q) q - q) := z
        exact absurd this (nI_nlt (b := den f (n - q) q - q) (a := 6) (by omega) (by omega))))]
      simp only [mR_1, mI_3, h3, r_nn, mA_1 g2, g3, hS.2.2.2, t48]
      have num : (f_MD_number_76 N m N 0 (nI q)).1 (ov M m s) = ((f_MD_next N m).1 (ov M m s)).bind (fun Z => some (lN (nv f q (den f (n - q) q - q)), Z.2)) :=
        m_number_76 hN hS (h4.trans (by rw [e4])) (by omega) (fun j h1 h2 => den_cD (n - q) q j h1 h2) (den f (n - q) q - q) N 0 (by omega) (by omega)
      obtain ⟨s', r1, r2, r3, r4, r5⟩ := m_nextK (M := M) (m := m) hN hS (h4.trans (by rw [e4])) (show den f (n - q) q ≤ n by omega)
      by_cases c3 : f q = 48
      · simp only [c3, if_true, mI_4, h4, e4, mI_3, h3, hsub]
        by_cases c4 : 1 < den f (n - q) q - q
        · rw [if_neg (fun z : nuOk f q _ => z.2.2 ⟨c4, c3⟩), r_if_f (show ¬ nI (den f (n - q) q - q) ≤ (1 : Int32) from nI_ge (a := 1) c4 (by omega))]
          exact ⟨_, bad _ rfl, badk, rfl⟩
        · rw [if_pos (show nuOk f q (den f (n - q) q - q) from ⟨by omega, by omega, fun z => c4 z.1⟩), r_if_t (show nI (den f (n - q) q - q) ≤ (1 : Int32) from nI_le (b := 1) (by omega) (by omega))]
          refine ⟨s', ?_, r2, r3, r4.trans h7⟩
          simp only [mI_3, h3, num, r1, Option.bind_some]
      · rw [if_pos (show nuOk f q (den f (n - q) q - q) from ⟨by omega, by omega, fun z => c3 z.2⟩)]
        refine ⟨s', ?_, r2, r3, r4.trans h7⟩
        simp only [c3, if_false, mI_3, h3, num, r1, Option.bind_some]
  · have e0 := den_0 (f := f) c1
    have g5 : ¬ tw f n q = -3 := fun z => c1 ((tw_D hS.2.2.1).mp z)
    rw [e0, if_neg (fun z : nuOk f q _ => by have := z.1; omega)]
    simp only [mI_is, r_callE, m_isWrong, Option.bind_some, h7, not_true_eq_false, bI, if_false, if_true, mI_5, h5, g5]
    exact ⟨_, bad _ rfl, badk, rfl⟩
end VERR
