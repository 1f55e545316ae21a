/-! LAYER 2: the reference's questions -/
/-- what row answers -/
def ansRow (pk : List aPk) (x i w : Int32) : Int32 := match pkOf pk x with
  | none => -1
  | some P => match rwAt P i with
    | none => -1
    | some a => if w = 0 then nI a.1 else if w = 1 then a.2.1 else if w = 2 then nI a.2.2.1.length else if w = 3 then nI (fold a.2.2.1).length else if w = 4 then whyR P a else -1
def sgAt (l : List Int32) (k : Int32) : Int32 := if k < 0 then -1 else if nI l.length ≤ k then -1 else l.getD k.toNatClampNeg 0
def ansLet (pk : List aPk) (x i w k : Int32) : Int32 := match rwOf pk x i with
  | none => -1
  | some a => if w = 0 then sgAt a.2.2.1 k else if w = 1 then sgAt (fold a.2.2.1) k else if w = 2 then sgAt a.2.2.2.1 k else -1
/-- the first BROKEN row, and 1 -/
def chkL (P : aPk) : Nat → List aR → Int32
  | _, [] => 0
  | j, a :: l => if whyR P a = 0 then chkL P (j + 1) l else nI (j + 1)
section RQRY2
variable {N : Nat} {M : hM} {m p : Nat} {s s' s'' : rS} {f : Nat → Int32} {n : Nat} {pk : List aPk} {ch : List (Nat × Nat)} {pr : List Int32}
theorem m_why {q r : Nat} {P : aPk} {a : aR} (hN : 2001 ≤ N) (hq : q < 40) (hr : r < 8200) (hP : RPk s q P) (hR : RR s r a) (wa : wfR a) : ∃ s', (f_MD_why N m (nI q) (nI r)).1 (ov M m s) = some (whyR P a, ov M m s') ∧ ks s s' := by
  have ip : ¬ (nI q < 0 ∨ 41 ≤ (nI q).toNatClampNeg) := nI_in (by omega) (by decide)
  have cp := nI_clamp (n := q) (by omega)
  have i2 : ¬ (nI r < 0 ∨ 8200 ≤ (nI r).toNatClampNeg) := nI_in hr (by decide)
  have c2 := nI_clamp (n := r) (by omega)
  have e20 : (20 : Int32) * nI r = nI (20 * r) := nI_mul
  have e20p : (20 : Int32) * nI q = nI (20 * q) := nI_mul
  have hk := wa.1
  have nP : nAt M m s 8 (20 * q) P.1 := ⟨820, by decide, ld_8, by have := hP.2.2.2.2.2.2.2.1; omega, hP.2.1, hP.2.2.2.2.2.2.2, by decide, by decide⟩
  -- the last answer
  have p4 : ∀ s1 : rS, ks s s1 → ∃ s', (b_let (fun (y0 : Int32) => b_ret y0) (fun J138 => b_getR m 1 27 (fun r1 => b_nn r1 (fun a2 => b_ald a2 5 (nI r) (fun v3 => (if v3 = 0 then J138 0 else J138 4)))))).1 (ov M m s1) = some ((if a.2.2.2.2.2.2 = true then 4 else 0), ov M m s') ∧ ks s s' := by
    intro s1 g
    refine ⟨s1, ?_, g⟩
    have h20 := (hR.k g).1.2.2.2.2.2.2.2.2
    rw [r_let]
    simp only [mR_27, r_nn, mA_20 i2, c2, h20]
    cases a.2.2.2.2.2.2
    · rw [r_if_t (show (if false = true then (1 : Int32) else 0) = 0 by decide)]; rfl
    · rw [r_if_f (show ¬ (if true = true then (1 : Int32) else 0) = 0 by decide)]; rfl
  have p3 : ∀ s1 : rS, ks s s1 → ∃ s', (b_let (b_let (fun (y0 : Int32) => b_ret y0) (fun J138 => b_getR m 1 27 (fun r1 => b_nn r1 (fun a2 => b_ald a2 5 (nI r) (fun v3 => (if v3 = 0 then J138 0 else J138 4)))))) (fun J124 => (if nI a.1 = 9 then b_getR m 1 23 (fun r4 => b_getR m 1 21 (fun r5 => b_nn r5 (fun a6 => b_ald a6 2 (nI r) (fun v7 => b_is m 1 (b_call (f_MD_isFeature N m (nI q) r4 (20 * (nI r)) v7) (fun v8 => (if v8 = 0 then b_is m 1 (b_call (f_MD_isOptional N m (nI q) (nI r)) (fun v12 => (if v12 = 0 then b_ret (3 : Int32) else J124))) else J124))))))) else J124))).1 (ov M m s1) = some ((if a.1 = 9 ∧ hasF a.2.2.1 P.2.2.1 = false ∧ hasO a.2.2.1 P.2.2.2 = false then 3 else if a.2.2.2.2.2.2 = true then 4 else 0), ov M m s') ∧ ks s s' := by
    intro s1 g
    rw [r_let]
    by_cases c9 : a.1 = 9
    · rw [r_if_t (show nI a.1 = 9 by rw [c9]; rfl)]
      obtain ⟨s2, u1, u2⟩ := m_isFeature (N := N) (M := M) (m := m) hN (show q ≤ 40 by omega) ((hR.k g).n wa hr) (hP.k g).2.2.2.1
      have h14 := (hR.k g).1.2.2.1
      simp only [mR_23, mR_21, r_nn, mA_14 i2, c2, h14, mI_is, r_callE, e20, u1, Option.bind_some]
      cases hf : hasF a.2.2.1 P.2.2.1 with
      | true =>
        rw [r_if_f (show ¬ bZ true = 0 by decide), if_neg (fun z => by cases z.2.1)]
        exact p4 s2 (g.tr u2)
      | false =>
        rw [r_if_t (show bZ false = 0 by decide)]
        have hl := hP.2.2.2.2.2.1
        obtain ⟨s3, v1, v2⟩ := m_opt_loop (N := N) (M := M) (m := m) (q := q) (r := r) (P := P) (a := a) hN (by omega) hr P.2.2.2.length N 0 s2 (by omega) (by omega) (hP.k (g.tr u2)) (hR.k (g.tr u2)) wa
        have v1' : (f_MD_isOptional N m (nI q) (nI r)).1 (ov M m s2) = some (bZ (hasO a.2.2.1 P.2.2.2), ov M m s3) := by
          rw [e_MD_isOptional, show (200 : Int32) * nI q = nI (200 * q + 0) from nI_mul]
          exact v1
        simp only [mI_is, r_callE, v1', Option.bind_some]
        cases ho : hasO a.2.2.1 P.2.2.2 with
        | true =>
          rw [r_if_f (show ¬ bZ true = 0 by decide), if_neg (fun z => by cases z.2.2)]
          exact p4 s3 ((g.tr u2).tr v2)
        | false =>
          rw [r_if_t (show bZ false = 0 by decide), if_pos ⟨c9, by trivial, by trivial⟩]
          exact ⟨s3, rfl, (g.tr u2).tr v2⟩
    · rw [r_if_f (show ¬ nI a.1 = 9 from fun z => c9 ((nI_eq (b := 9) (by omega) (by omega)).mp z)), if_neg (fun z => c9 z.1)]
      exact p4 s1 g
  have p2 : ∀ s1 : rS, ks s s1 → ∃ s', (b_let (fun (x3 : Int32) => b_let (b_let (fun (y0 : Int32) => b_ret y0) (fun J138 => b_getR m 1 27 (fun r1 => b_nn r1 (fun a2 => b_ald a2 5 (nI r) (fun v3 => (if v3 = 0 then J138 0 else J138 4)))))) (fun J124 => (if x3 = 9 then b_getR m 1 23 (fun r4 => b_getR m 1 21 (fun r5 => b_nn r5 (fun a6 => b_ald a6 2 (nI r) (fun v7 => b_is m 1 (b_call (f_MD_isFeature N m (nI q) r4 (20 * (nI r)) v7) (fun v8 => (if v8 = 0 then b_is m 1 (b_call (f_MD_isOptional N m (nI q) (nI r)) (fun v12 => (if v12 = 0 then b_ret (3 : Int32) else J124))) else J124))))))) else J124))) (fun J85 => b_let (fun (x3 : Int32) => b_getR m 1 25 (fun r16 => b_nn r16 (fun a17 => b_aldL a17 7 (nI r) (fun v18 => b_getR m 1 26 (fun r19 => b_nn r19 (fun a20 => b_aldL a20 7 (nI r) (fun v21 => (if (lg_cmp v18 v21) < 0 then J85 x3 else b_ret (2 : Int32))))))))) (fun J67 => (if nI a.1 < 7 then J67 (nI a.1) else (if nI a.1 = 8 then J67 (nI a.1) else J85 (nI a.1)))))).1 (ov M m s1) = some ((if (a.1 < 7 ∨ a.1 = 8) ∧ ¬ a.2.2.2.2.1 < a.2.2.2.2.2.1 then 2 else if a.1 = 9 ∧ hasF a.2.2.1 P.2.2.1 = false ∧ hasO a.2.2.1 P.2.2.2 = false then 3 else if a.2.2.2.2.2.2 = true then 4 else 0), ov M m s') ∧ ks s s' := by
    intro s1 g
    rw [r_let, r_let]
    have h18 := (hR.k g).1.2.2.2.2.2.2.1
    have h19 := (hR.k g).1.2.2.2.2.2.2.2.1
    have yes : (a.1 < 7 ∨ a.1 = 8) → ∃ s', ((fun (x3 : Int32) => b_getR m 1 25 (fun r16 => b_nn r16 (fun a17 => b_aldL a17 7 (nI r) (fun v18 => b_getR m 1 26 (fun r19 => b_nn r19 (fun a20 => b_aldL a20 7 (nI r) (fun v21 => (if (lg_cmp v18 v21) < 0 then (b_let (b_let (fun (y0 : Int32) => b_ret y0) (fun J138 => b_getR m 1 27 (fun r1 => b_nn r1 (fun a2 => b_ald a2 5 (nI r) (fun v3 => (if v3 = 0 then J138 0 else J138 4)))))) (fun J124 => (if x3 = 9 then b_getR m 1 23 (fun r4 => b_getR m 1 21 (fun r5 => b_nn r5 (fun a6 => b_ald a6 2 (nI r) (fun v7 => b_is m 1 (b_call (f_MD_isFeature N m (nI q) r4 (20 * (nI r)) v7) (fun v8 => (if v8 = 0 then b_is m 1 (b_call (f_MD_isOptional N m (nI q) (nI r)) (fun v12 => (if v12 = 0 then b_ret (3 : Int32) else J124))) else J124))))))) else J124))) else b_ret (2 : Int32))))))))) (nI a.1)).1 (ov M m s1) = some ((if (a.1 < 7 ∨ a.1 = 8) ∧ ¬ a.2.2.2.2.1 < a.2.2.2.2.2.1 then 2 else if a.1 = 9 ∧ hasF a.2.2.1 P.2.2.1 = false ∧ hasO a.2.2.1 P.2.2.2 = false then 3 else if a.2.2.2.2.2.2 = true then 4 else 0), ov M m s') ∧ ks s s' := by
      intro hy
      simp only [mR_25, r_nn, mA_18 i2, c2, h18, mR_26, mA_19 i2, h19]
      by_cases c : a.2.2.2.2.1 < a.2.2.2.2.2.1
      · rw [r_if_t (lg_lt.mpr c), if_neg (c := (a.1 < 7 ∨ a.1 = 8) ∧ ¬ a.2.2.2.2.1 < a.2.2.2.2.2.1) (fun z => z.2 c)]
        exact p3 s1 g
      · rw [r_if_f (fun z => c (lg_lt.mp z)), if_pos (c := (a.1 < 7 ∨ a.1 = 8) ∧ ¬ a.2.2.2.2.1 < a.2.2.2.2.2.1) ⟨hy, c⟩]
        exact ⟨s1, rfl, g⟩
    by_cases d1 : a.1 < 7
    · rw [r_if_t (show nI a.1 < 7 from nI_lt (b := 7) d1 (by omega))]
      exact yes (Or.inl d1)
    · rw [r_if_f (show ¬ nI a.1 < 7 from nI_nlt (b := 7) (by omega) (by omega))]
      by_cases d2 : a.1 = 8
      · rw [r_if_t (show nI a.1 = 8 by rw [d2]; rfl)]
        exact yes (Or.inr d2)
      · rw [r_if_f (show ¬ nI a.1 = 8 from fun z => d2 ((nI_eq (b := 8) (by omega) (by omega)).mp z)), if_neg (c := (a.1 < 7 ∨ a.1 = 8) ∧ ¬ a.2.2.2.2.1 < a.2.2.2.2.2.1) (fun z => by omega)]
        exact p3 s1 g
  rw [e_MD_why, r_let, r_let]
  simp only [mR_19, r_nn, mA_12 i2, c2, hR.1.1]
  unfold whyR
  by_cases d : a.1 < 5 ∨ a.1 = 8
  · obtain ⟨s1, u1, u2⟩ := m_compare (N := N) (M := M) (m := m) hN (hR.n wa hr) nP
    by_cases d1 : a.1 < 5
    · rw [r_if_t (show nI a.1 < 5 from nI_lt (b := 5) d1 (by omega))]
      simp only [mR_23, mR_21, r_nn, mA_14 i2, c2, hR.1.2.2.1, mR_15, mR_12, mA_5 ip, cp, hP.1, e20, e20p, mI_is, r_callE, u1, Option.bind_some]
      by_cases c : cmpN a.2.2.1 P.1 = 0
      · rw [r_if_t c, if_pos (c := (a.1 < 5 ∨ a.1 = 8) ∧ cmpN a.2.2.1 P.1 = 0) ⟨d, c⟩]; exact ⟨s1, rfl, u2⟩
      · rw [r_if_f c, if_neg (c := (a.1 < 5 ∨ a.1 = 8) ∧ cmpN a.2.2.1 P.1 = 0) (fun z => c z.2)]
        have := p2 s1 u2
        simp only [e20] at this
        exact this
    · have d2 : a.1 = 8 := by omega
      rw [r_if_f (show ¬ nI a.1 < 5 from nI_nlt (b := 5) (by omega) (by omega)), r_if_t (show nI a.1 = 8 by rw [d2]; rfl)]
      simp only [mR_23, mR_21, r_nn, mA_14 i2, c2, hR.1.2.2.1, mR_15, mR_12, mA_5 ip, cp, hP.1, e20, e20p, mI_is, r_callE, u1, Option.bind_some]
      by_cases c : cmpN a.2.2.1 P.1 = 0
      · rw [r_if_t c, if_pos (c := (a.1 < 5 ∨ a.1 = 8) ∧ cmpN a.2.2.1 P.1 = 0) ⟨d, c⟩]; exact ⟨s1, rfl, u2⟩
      · rw [r_if_f c, if_neg (c := (a.1 < 5 ∨ a.1 = 8) ∧ cmpN a.2.2.1 P.1 = 0) (fun z => c z.2)]
        have := p2 s1 u2
        simp only [e20] at this
        exact this
  · rw [r_if_f (show ¬ nI a.1 < 5 from nI_nlt (b := 5) (by omega) (by omega)), r_if_f (show ¬ nI a.1 = 8 from fun z => d (Or.inr ((nI_eq (b := 8) (by omega) (by omega)).mp z))), if_neg (c := (a.1 < 5 ∨ a.1 = 8) ∧ cmpN a.2.2.1 P.1 = 0) (fun z => d z.1)]
    exact p2 s ks.rf
end RQRY2
