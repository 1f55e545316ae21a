/-! LAYER 2: the reference's names -/
section NAMR
variable {N : Nat} {M : hM} {m : Nat} {s : rS} {f : Nat → Int32} {n k : Nat}
/-- a NAME from place k on: where it begins and ends -/
def nmR (f : Nat → Int32) (n k : Nat) : Nat ⊕ (Nat × Nat) := if cL (sgn f n (sp f n k)) ∧ nmOk f n (sp f n k) then .inr (sp f n k, we f n (sp f n k)) else .inl (sp f n k)
theorem cL_in {q : Nat} (h : cL (sgn f n q)) : q < n ∧ cL (f q) := by
  by_cases g : q < n
  · exact ⟨g, by rw [← sgn_at (f := f) g]; exact h⟩
  · unfold sgn at h; rw [if_neg g] at h; exact absurd h (by decide)
theorem te_L {q : Nat} (h : q < n) (hL : cL (f q)) : te f n q = we f n q := by
  unfold te; rw [if_neg (by omega), if_pos hL]
theorem m_isName (h : tkW s f n k) : (f_MD_isName N m).1 (ov M m s) = some (bI (cL (sgn f n (sp f n k)) ∧ nmOk f n (sp f n k)), ov M m s) := by
  obtain ⟨hS, h3, h5, h4, hk⟩ := h
  have hn := hS.2.1
  rw [e_MD_isName, r_let, r_let]
  by_cases c1 : cL (sgn f n (sp f n k))
  · obtain ⟨q1, q2⟩ := cL_in c1
    have e4 := te_L (f := f) q1 q2
    have w1 := we_gt (f := f) q1 q2
    have w2 := we_le (f := f) (Nat.le_of_lt q1)
    have e5 := (tw_L (f := f) (n := n) hS.2.2.1).mpr ⟨q1, q2⟩
    have hsub : nI (we f n (sp f n k)) - nI (sp f n k) = nI (we f n (sp f n k) - sp f n k) := pk_sub (by omega)
    have hsub1 : nI (we f n (sp f n k)) - 1 = nI (we f n (sp f n k) - 1) := pk_sub (b := 1) (by omega)
    have g2 : ¬ (nI (we f n (sp f n k) - 1) < 0 ∨ 2000 ≤ (nI (we f n (sp f n k) - 1)).toNatClampNeg) := nI_in (by omega) (by decide)
    have g3 := nI_clamp (n := we f n (sp f n k) - 1) (by omega)
    simp only [mI_5, h5, e5, if_true, mI_4, h4, e4, mI_3, h3, hsub, hsub1]
    by_cases c2 : we f n (sp f n k) - sp f n k ≤ 20
    · rw [r_if_f (show ¬ (20 : Int32) < nI (we f n (sp f n k) - sp f n k) from nI_nlt (b := we f n (sp f n k) - sp f n k) (a := 20) c2 (by omega))]
      simp only [mR_1, mI_4, h4, e4, hsub1, r_nn, mA_1 g2, g3, hS.2.2.2, r_callE, s_isDash, Option.bind_some]
      by_cases c3 : cB (f (we f n (sp f n k) - 1))
      · rw [bI_t ((sx_B hS.2.2.1).mpr c3), r_if_f (show ¬ (1 : Int32) = 0 by decide), bI_f (fun z => z.2.2 c3)]
        exact rZ0
      · rw [bI_f (fun z => c3 ((sx_B hS.2.2.1).mp z)), r_if_t rfl, bI_t ⟨c1, c2, c3⟩]
        exact rZ1
    · rw [r_if_t (show (20 : Int32) < nI (we f n (sp f n k) - sp f n k) from nI_lt (a := 20) (by omega) (by omega)), bI_f (fun z => c2 z.2.1)]
      exact rZ0
  · have e5 : ¬ tw f n (sp f n k) = -2 := fun z => c1 (by have := (tw_L (f := f) (n := n) hS.2.2.1).mp z; rw [sgn_at this.1]; exact this.2)
    rw [bI_f (fun z => c1 z.1)]
    simp only [mI_5, h5, e5, if_false, rZ0]
/-- what a NAME leaves -/
def aSp (M : hM) (m : Nat) (s : rS) (f : Nat → Int32) (n : Nat) (X : Option (Int32 × hM)) (res : Nat ⊕ (Nat × Nat)) : Prop := match res with
  | .inl w => ∃ s' v, X = some (v, ov M m s') ∧ kp s s' ∧ s'.1 7 = wr w
  | .inr (b, e) => ∃ s', X = some (nI b, ov M m s') ∧ tkS s' f n e ∧ kp s s' ∧ s'.1 7 = 0 ∧ s'.1 45 = nI (e - b)
theorem m_takeName (hN : 2001 ≤ N) (h : tkW s f n k) (h7 : s.1 7 = 0) : aSp M m s f n ((f_MD_takeName N m).1 (ov M m s)) (nmR f n k) := by
  have h' := h
  obtain ⟨hS, h3, h5, h4, hk⟩ := h
  have hn := hS.2.1
  have go : (f_MD_takeName N m).1 (ov M m s) = ((if bI (cL (sgn f n (sp f n k)) ∧ nmOk f n (sp f n k)) = 0 then b_getI m 1 3 (fun v12 => b_is m 1 (b_call (f_MD_fail N m v12) (fun _ => b_ret (nI (sp f n k))))) else b_is m 1 (b_call (f_MD_next N m) (fun _ => b_ret (nI (sp f n k)))))).1 (ov M m (va_up s.1 45 (nI (te f n (sp f n k)) - nI (sp f n k)), s.2)) := by
    rw [e_MD_takeName]
    have w7 : va_up s.1 45 (nI (te f n (sp f n k)) - nI (sp f n k)) 7 = 0 := h7
    have hW : tkW (va_up s.1 45 (nI (te f n (sp f n k)) - nI (sp f n k)), s.2) f n k := h'
    simp only [mI_3, h3, mI_4, h4, mP_45, mI_is, r_callE, m_isWrong, w7, not_true_eq_false, Option.bind_some, m_isName hW]
    rw [bI_f (P := False) id, r_if_t rfl]
    simp only [mI_is, r_callE, m_isName hW, Option.bind_some]
  rw [go]
  have hk45 : kp s (va_up s.1 45 (nI (te f n (sp f n k)) - nI (sp f n k)), s.2) := kp_up (Or.inr rfl)
  unfold nmR
  by_cases c : cL (sgn f n (sp f n k)) ∧ nmOk f n (sp f n k)
  · rw [bI_t c, r_if_f (show ¬ (1 : Int32) = 0 by decide), if_pos c]
    obtain ⟨q1, q2⟩ := cL_in c.1
    have e4 := te_L (f := f) q1 q2
    have w1 := we_gt (f := f) q1 q2
    have w2 := we_le (f := f) (Nat.le_of_lt q1)
    obtain ⟨s1, r1, r2, r3, r4, r5⟩ := m_nextK (N := N) (M := M) (m := m) (s := (va_up s.1 45 (nI (te f n (sp f n k)) - nI (sp f n k)), s.2)) (k := we f n (sp f n k)) hN hS (by rw [← e4]; exact h4) w2
    refine ⟨s1, ?_, r2, hk45.tr r3, r4.trans h7, ?_⟩
    · simp only [mI_is, r_callE, r1, Option.bind_some, r_ret]
    · rw [r5, e4]; exact pk_sub (by omega)
  · rw [bI_f c, r_if_t rfl, if_neg c]
    have w7 : va_up s.1 45 (nI (te f n (sp f n k)) - nI (sp f n k)) 7 = 0 := h7
    have w3 : va_up s.1 45 (nI (te f n (sp f n k)) - nI (sp f n k)) 3 = nI (sp f n k) := h3
    refine ⟨(va_up (va_up s.1 45 (nI (te f n (sp f n k)) - nI (sp f n k))) 7 (wr (sp f n k)), s.2), nI (sp f n k), ?_, hk45.tr (kp_up (s := (va_up s.1 45 (nI (te f n (sp f n k)) - nI (sp f n k)), s.2)) (j := 7) (Or.inl (by omega))), rfl⟩
    simp only [mI_3, w3, mI_is, r_callE, m_fail0 (s := (va_up s.1 45 (nI (te f n (sp f n k)) - nI (sp f n k)), s.2)) w7, Option.bind_some, r_ret]
    rfl
theorem m_takeNameW (h7 : ¬ s.1 7 = 0) : ∃ s' v, (f_MD_takeName N m).1 (ov M m s) = some (v, ov M m s') ∧ kp s s' ∧ s'.1 7 = s.1 7 := by
  rw [e_MD_takeName]
  refine ⟨(va_up s.1 45 (s.1 4 - s.1 3), s.2), s.1 3, ?_, kp_up (Or.inr rfl), rfl⟩
  have w7 : ¬ va_up s.1 45 (s.1 4 - s.1 3) 7 = 0 := h7
  simp only [mI_3, mI_4, mP_45, mI_is, r_callE, m_isWrong, bI, w7, not_false_eq_true, if_true, Option.bind_some, show ¬ (1 : Int32) = 0 by decide, if_false, r_ret]
end NAMR
