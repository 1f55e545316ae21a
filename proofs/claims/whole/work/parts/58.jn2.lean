/-! LAYER 2: rows joined, in the reference -/
/-- two rows are joined -/
def jE (N m : Nat) (J268 : Int32 → Int32 → Int32 → hX Unit) (x1 x2 x3 x4 x5 : Int32) : hX Unit := b_let (fun (x1 : Int32) (x2 : Int32) (x3 : Int32) (x4 : Int32) (x5 : Int32) (y0 : Int32) (y1 : Int32) (y2 : Option Nat) => b_let (fun (x1 : Int32) (x2 : Int32) (x3 : Int32) (x4 : Int32) (x5 : Int32) (y0 : Int64) (y1 : Option Nat) => b_let (fun (x1 : Int32) (x2 : Int32) (x3 : Int32) (x4 : Int32) (y0 : Int64) (y1 : Option Nat) => b_nn y1 (fun a9 => b_put a9 1 33 (.long y0) (b_is m 1 (b_call (f_MD_close N m) (fun _ => b_getR m 1 25 (fun r14 => b_getL m 1 32 (fun v15 => b_nn r14 (fun a16 => b_astL a16 7 x4 v15 (b_getR m 1 26 (fun r17 => b_getL m 1 33 (fun v18 => b_nn r17 (fun a19 => b_astL a19 7 x4 v18 (J268 x1 x2 x3))))))))))))) (fun J214 => b_nn y1 (fun a20 => b_put a20 1 32 (.long y0) (b_getR m 1 26 (fun r21 => b_nn r21 (fun a22 => b_aldL a22 7 x4 (fun v23 => b_getR m 1 26 (fun r24 => b_nn r24 (fun a25 => b_aldL a25 7 x5 (fun v26 => (if 0 ≤ (lg_cmp v23 v26) then b_getR m 1 26 (fun r27 => b_nn r27 (fun a28 => b_aldL a28 7 x5 (fun v29 => J214 x1 x2 x3 x4 v29 (some m)))) else b_getR m 1 26 (fun r30 => b_nn r30 (fun a31 => b_aldL a31 7 x4 (fun v32 => J214 x1 x2 x3 x4 v32 (some m))))))))))))))) (fun J175 => b_nn y2 (fun a33 => b_ast a33 5 y1 (vp_nar .boolean y0) (b_getR m 1 19 (fun r34 => b_nn r34 (fun a35 => b_ald a35 6 x4 (fun v36 => (if 7 ≤ v36 then J268 x1 x2 x3 else b_getR m 1 25 (fun r37 => b_nn r37 (fun a38 => b_aldL a38 7 x4 (fun v39 => b_getR m 1 25 (fun r40 => b_nn r40 (fun a41 => b_aldL a41 7 x5 (fun v42 => (if (lg_cmp v39 v42) ≤ 0 then b_getR m 1 25 (fun r43 => b_nn r43 (fun a44 => b_aldL a44 7 x5 (fun v45 => J175 x1 x2 x3 x4 x5 v45 (some m)))) else b_getR m 1 25 (fun r46 => b_nn r46 (fun a47 => b_aldL a47 7 x4 (fun v48 => J175 x1 x2 x3 x4 x5 v48 (some m))))))))))))))))))) (fun J126 => b_let (fun (x1 : Int32) (x2 : Int32) (x3 : Int32) (x4 : Int32) (x5 : Int32) (y0 : Int32) (y1 : Option Nat) => J126 x1 x2 x3 x4 x5 1 y0 y1) (fun J121 => b_getR m 1 27 (fun r61 => b_getR m 1 27 (fun r62 => b_nn r62 (fun a63 => b_ald a63 5 x4 (fun v64 => (if v64 = 0 then b_is m 1 (b_call (f_MD_isWritten N m x4 x5) (fun v65 => (if v65 = 0 then J121 x1 x2 x3 x4 x5 x4 r61 else J126 x1 x2 x3 x4 x5 0 x4 r61))) else J121 x1 x2 x3 x4 x5 x4 r61)))))))
section JN2
variable {N : Nat} {M : hM} {m p : Nat} {s s' s'' : rS}
theorem m_closeG : (f_MD_close N m).1 (ov M m s) = some ((), ov M m (s.1, (if s.2.1 32 < s.2.1 33 then s.2.1 else va_up (va_up s.2.1 32 0) 33 0), s.2.2)) := by
  rw [e_MD_close]
  by_cases c : s.2.1 32 < s.2.1 33
  · simp only [mL_32, mL_33, lg_lt.mpr c, if_true, r_ret, c]
  · have c' : ¬ lg_cmp (s.2.1 32) (s.2.1 33) < 0 := fun z => c (lg_lt.mp z)
    simp only [mL_32, mL_33, c', if_false, mP_32, mP_33, r_ret, c]
/-- mixed is set -/
def jM (s : rS) (r : Nat) (b : Bool) : rS := (s.1, s.2.1, va_up s.2.2.1 20 (va_up (s.2.2.1 20) r (bZ b)), s.2.2.2)
def jT (N m : Nat) (J268 : Int32 → Int32 → Int32 → hX Unit) (x1 x2 x3 x4 x5 : Int32) : hX Unit := b_let (fun (x1 : Int32) (x2 : Int32) (x3 : Int32) (x4 : Int32) (x5 : Int32) (y0 : Int64) (y1 : Option Nat) => b_let (fun (x1 : Int32) (x2 : Int32) (x3 : Int32) (x4 : Int32) (y0 : Int64) (y1 : Option Nat) => b_nn y1 (fun a9 => b_put a9 1 33 (.long y0) (b_is m 1 (b_call (f_MD_close N m) (fun _ => b_getR m 1 25 (fun r14 => b_getL m 1 32 (fun v15 => b_nn r14 (fun a16 => b_astL a16 7 x4 v15 (b_getR m 1 26 (fun r17 => b_getL m 1 33 (fun v18 => b_nn r17 (fun a19 => b_astL a19 7 x4 v18 (J268 x1 x2 x3))))))))))))) (fun J214 => b_nn y1 (fun a20 => b_put a20 1 32 (.long y0) (b_getR m 1 26 (fun r21 => b_nn r21 (fun a22 => b_aldL a22 7 x4 (fun v23 => b_getR m 1 26 (fun r24 => b_nn r24 (fun a25 => b_aldL a25 7 x5 (fun v26 => (if 0 ≤ (lg_cmp v23 v26) then b_getR m 1 26 (fun r27 => b_nn r27 (fun a28 => b_aldL a28 7 x5 (fun v29 => J214 x1 x2 x3 x4 v29 (some m)))) else b_getR m 1 26 (fun r30 => b_nn r30 (fun a31 => b_aldL a31 7 x4 (fun v32 => J214 x1 x2 x3 x4 v32 (some m))))))))))))))) (fun J175 => b_getR m 1 19 (fun r34 => b_nn r34 (fun a35 => b_ald a35 6 x4 (fun v36 => (if 7 ≤ v36 then J268 x1 x2 x3 else b_getR m 1 25 (fun r37 => b_nn r37 (fun a38 => b_aldL a38 7 x4 (fun v39 => b_getR m 1 25 (fun r40 => b_nn r40 (fun a41 => b_aldL a41 7 x5 (fun v42 => (if (lg_cmp v39 v42) ≤ 0 then b_getR m 1 25 (fun r43 => b_nn r43 (fun a44 => b_aldL a44 7 x5 (fun v45 => J175 x1 x2 x3 x4 x5 v45 (some m)))) else b_getR m 1 25 (fun r46 => b_nn r46 (fun a47 => b_aldL a47 7 x4 (fun v48 => J175 x1 x2 x3 x4 x5 v48 (some m))))))))))))))))
theorem m_jE1 {J : Int32 → Int32 → Int32 → hX Unit} {x1 x2 x3 : Int32} {r r' : Nat} {x y : aR} (hN : 2001 ≤ N) (hr : r < 8200) (hr' : r' < 8200) (hx : RR s r x) (hy : RR s r' y) : (jE N m J x1 x2 x3 (nI r) (nI r')).1 (ov M m s) = (jT N m J x1 x2 x3 (nI r) (nI r')).1 (ov M m (jM s r (x.2.2.2.2.2.2 || !(x.2.2.1 == y.2.2.1)))) := by
  have i1 : ¬ (nI r < 0 ∨ 8200 ≤ (nI r).toNatClampNeg) := nI_in hr (by decide)
  have c1 := nI_clamp (n := r) (by omega)
  have hw := m_isWritten (N := N) (M := M) (m := m) hN hr hr' hx hy
  have x9 := hx.1.2.2.2.2.2.2.2.2
  have n1 : vp_nar .boolean 1 = 1 := by decide
  have n0 : vp_nar .boolean 0 = 0 := by decide
  unfold jE jT jM
  by_cases d1 : x.2.2.2.2.2.2 = true
  · simp only [r_let, mR_27, r_nn, mA_20 i1, c1, x9, d1, if_true, show ¬ (1 : Int32) = 0 by decide, if_false, mS_20 i1, n1, Bool.true_or, bZ]
  · have d1' : x.2.2.2.2.2.2 = false := by cases h : x.2.2.2.2.2.2; rfl; exact absurd h d1
    by_cases d2 : (x.2.2.1 == y.2.2.1) = true
    · simp only [r_let, mR_27, r_nn, mA_20 i1, c1, x9, d1', if_false, Bool.false_eq_true, if_true, mI_is, r_callE, hw, Option.bind_some, d2, bZ, show ¬ (1 : Int32) = 0 by decide, mS_20 i1, n0, Bool.false_or, Bool.not_true]
    · have d2' : (x.2.2.1 == y.2.2.1) = false := by cases h : (x.2.2.1 == y.2.2.1); rfl; exact absurd h d2
      simp only [r_let, mR_27, r_nn, mA_20 i1, c1, x9, d1', if_false, Bool.false_eq_true, if_true, mI_is, r_callE, hw, Option.bind_some, d2', bZ, mS_20 i1, n1, Bool.false_or, Bool.not_false]
theorem m_jT {J : Int32 → Int32 → Int32 → hX Unit} {x1 x2 x3 : Int32} {r r' : Nat} {x y : aR} (hr : r < 8200) (hr' : r' < 8200) (k1 : s.2.2.1 12 r = nI x.1) (wk : x.1 < 16) (x7 : s.2.2.2 18 r = x.2.2.2.2.1) (x8 : s.2.2.2 19 r = x.2.2.2.2.2.1) (y7 : s.2.2.2 18 r' = y.2.2.2.2.1) (y8 : s.2.2.2 19 r' = y.2.2.2.2.2.1) (hne : r ≠ r') :
    ∃ s', (jT N m J x1 x2 x3 (nI r) (nI r')).1 (ov M m s) = (J x1 x2 x3).1 (ov M m s') ∧ s'.1 = s.1 ∧ s'.2.2.1 = s.2.2.1 ∧ s'.2.2.2 18 r = (jnR x y).2.2.2.2.1 ∧ s'.2.2.2 19 r = (jnR x y).2.2.2.2.2.1 ∧ ∀ j i, ¬ tchL r j i → s'.2.2.2 j i = s.2.2.2 j i := by
  have i1 : ¬ (nI r < 0 ∨ 8200 ≤ (nI r).toNatClampNeg) := nI_in hr (by decide)
  have c1 := nI_clamp (n := r) (by omega)
  have i2 : ¬ (nI r' < 0 ∨ 8200 ≤ (nI r').toNatClampNeg) := nI_in hr' (by decide)
  have c2 := nI_clamp (n := r') (by omega)
  unfold jT jnR
  by_cases d : x.1 < 7
  · have d' : ¬ (7 : Int32) ≤ nI x.1 := nI_ge (b := 7) d (by omega)
    have lastp : ∀ (lo hi : Int64), lo = jlo x y → hi = jhi x y → ∃ s', (J x1 x2 x3).1 (ov M m (s.1, (if lo < hi then va_up (va_up s.2.1 32 lo) 33 hi else va_up (va_up (va_up (va_up s.2.1 32 lo) 33 hi) 32 0) 33 0), s.2.2.1, va_up (va_up s.2.2.2 18 (va_up (s.2.2.2 18) r ((if lo < hi then va_up (va_up s.2.1 32 lo) 33 hi else va_up (va_up (va_up (va_up s.2.1 32 lo) 33 hi) 32 0) 33 0) 32))) 19 (va_up (s.2.2.2 19) r ((if lo < hi then va_up (va_up s.2.1 32 lo) 33 hi else va_up (va_up (va_up (va_up s.2.1 32 lo) 33 hi) 32 0) 33 0) 33)))) = (J x1 x2 x3).1 (ov M m s') ∧ s'.1 = s.1 ∧ s'.2.2.1 = s.2.2.1 ∧ s'.2.2.2 18 r = (if x.1 < 7 then (if jlo x y < jhi x y then jlo x y else 0) else x.2.2.2.2.1) ∧ s'.2.2.2 19 r = (if x.1 < 7 then (if jlo x y < jhi x y then jhi x y else 0) else x.2.2.2.2.2.1) ∧ ∀ j i, ¬ tchL r j i → s'.2.2.2 j i = s.2.2.2 j i := by
      intro lo hi e1 e2
      refine ⟨_, rfl, rfl, rfl, ?_, ?_, ?_⟩
      · refine (show _ = (if lo < hi then va_up (va_up s.2.1 32 lo) 33 hi else va_up (va_up (va_up (va_up s.2.1 32 lo) 33 hi) 32 0) 33 0) 32 from ua_s).trans ?_
        rw [if_pos d, ← e1, ← e2]
        by_cases c : lo < hi
        · rw [if_pos c, if_pos c]; rfl
        · rw [if_neg c, if_neg c]; rfl
      · refine (show _ = (if lo < hi then va_up (va_up s.2.1 32 lo) 33 hi else va_up (va_up (va_up (va_up s.2.1 32 lo) 33 hi) 32 0) 33 0) 33 from ua_s).trans ?_
        rw [if_pos d, ← e1, ← e2]
        by_cases c : lo < hi
        · rw [if_pos c, if_pos c]; rfl
        · rw [if_neg c, if_neg c]; rfl
      · intro j i hj
        show va_up (va_up s.2.2.2 18 _) 19 _ j i = _
        unfold tchL at hj
        by_cases c19 : j = 19
        · subst c19; exact ua_n (by omega)
        · rw [ua_n c19]
          by_cases c18 : j = 18
          · subst c18; exact ua_n (by omega)
          · rw [ua_n c18]
    by_cases a1 : x.2.2.2.2.1 ≤ y.2.2.2.2.1
    · have a1' := lg_le.mpr a1
      have e1 : y.2.2.2.2.1 = jlo x y := by unfold jlo; rw [if_pos a1]
      by_cases a2 : y.2.2.2.2.2.1 ≤ x.2.2.2.2.2.1
      · have a2' := lg_ge.mpr a2
        have e2 : y.2.2.2.2.2.1 = jhi x y := by unfold jhi; rw [if_pos a2]
        simp only [r_let, mR_19, r_nn, mA_12 i1, c1, c2, k1, d', if_false, mR_25, mA_18 i1, mA_18 i2, x7, y7, a1', if_true, mP_32, mR_26, mA_19 i1, mA_19 i2, x8, y8, a2', mP_33, mI_is, r_callE, m_closeG, Option.bind_some, mL_32, mL_33, mS_18 i1, mS_19 i1, ua_n (show ¬ 19 = 18 by decide), ua_n (show ¬ 32 = 33 by decide), ua_s]
        exact lastp _ _ e1 e2
      · have a2' : ¬ 0 ≤ lg_cmp x.2.2.2.2.2.1 y.2.2.2.2.2.1 := fun z => a2 (lg_ge.mp z)
        have e2 : x.2.2.2.2.2.1 = jhi x y := by unfold jhi; rw [if_neg a2]
        simp only [r_let, mR_19, r_nn, mA_12 i1, c1, c2, k1, d', if_false, mR_25, mA_18 i1, mA_18 i2, x7, y7, a1', if_true, mP_32, mR_26, mA_19 i1, mA_19 i2, x8, y8, a2', mP_33, mI_is, r_callE, m_closeG, Option.bind_some, mL_32, mL_33, mS_18 i1, mS_19 i1, ua_n (show ¬ 19 = 18 by decide), ua_n (show ¬ 32 = 33 by decide), ua_s]
        exact lastp _ _ e1 e2
    · have a1' : ¬ lg_cmp x.2.2.2.2.1 y.2.2.2.2.1 ≤ 0 := fun z => a1 (lg_le.mp z)
      have e1 : x.2.2.2.2.1 = jlo x y := by unfold jlo; rw [if_neg a1]
      by_cases a2 : y.2.2.2.2.2.1 ≤ x.2.2.2.2.2.1
      · have a2' := lg_ge.mpr a2
        have e2 : y.2.2.2.2.2.1 = jhi x y := by unfold jhi; rw [if_pos a2]
        simp only [r_let, mR_19, r_nn, mA_12 i1, c1, c2, k1, d', if_false, mR_25, mA_18 i1, mA_18 i2, x7, y7, a1', if_true, mP_32, mR_26, mA_19 i1, mA_19 i2, x8, y8, a2', mP_33, mI_is, r_callE, m_closeG, Option.bind_some, mL_32, mL_33, mS_18 i1, mS_19 i1, ua_n (show ¬ 19 = 18 by decide), ua_n (show ¬ 32 = 33 by decide), ua_s]
        exact lastp _ _ e1 e2
      · have a2' : ¬ 0 ≤ lg_cmp x.2.2.2.2.2.1 y.2.2.2.2.2.1 := fun z => a2 (lg_ge.mp z)
        have e2 : x.2.2.2.2.2.1 = jhi x y := by unfold jhi; rw [if_neg a2]
        simp only [r_let, mR_19, r_nn, mA_12 i1, c1, c2, k1, d', if_false, mR_25, mA_18 i1, mA_18 i2, x7, y7, a1', if_true, mP_32, mR_26, mA_19 i1, mA_19 i2, x8, y8, a2', mP_33, mI_is, r_callE, m_closeG, Option.bind_some, mL_32, mL_33, mS_18 i1, mS_19 i1, ua_n (show ¬ 19 = 18 by decide), ua_n (show ¬ 32 = 33 by decide), ua_s]
        exact lastp _ _ e1 e2
  · have d' : (7 : Int32) ≤ nI x.1 := nI_le (a := 7) (by omega) (by omega)
    refine ⟨s, ?_, rfl, rfl, ?_, ?_, fun _ _ _ => rfl⟩
    · simp only [r_let, mR_19, r_nn, mA_12 i1, c1, k1, d', if_true]
    · show _ = if x.1 < 7 then _ else _
      rw [if_neg d]; exact x7
    · show _ = if x.1 < 7 then _ else _
      rw [if_neg d]; exact x8
end JN2
