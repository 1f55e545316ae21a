/-! LAYER 2: the reference's questions -/
def pkOf (pk : List aPk) (p : Int32) : Option aPk := if p < 0 then none else pk[p.toNatClampNeg]?
def rwAt (P : aPk) (i : Int32) : Option aR := if i < 0 then none else P.2.2.2[i.toNatClampNeg]?
def rwOf (pk : List aPk) (p i : Int32) : Option aR := (pkOf pk p).bind (fun P => rwAt P i)
def hasO (w : List Int32) (rs : List aR) : Bool := rs.any (fun r => r.1 == 3 && cmpN r.2.2.1 w == 0)
/-- WHY a row is BROKEN -/
def whyR (P : aPk) (x : aR) : Int32 := if (x.1 < 5 ∨ x.1 = 8) ∧ cmpN x.2.2.1 P.1 = 0 then 1 else if (x.1 < 7 ∨ x.1 = 8) ∧ ¬ x.2.2.2.2.1 < x.2.2.2.2.2.1 then 2 else if x.1 = 9 ∧ hasF x.2.2.1 P.2.2.1 = false ∧ hasO x.2.2.1 P.2.2.2 = false then 3 else if x.2.2.2.2.2.2 = true then 4 else 0
section RQRY
variable {N : Nat} {M : hM} {m p : Nat} {s s' s'' : rS} {f : Nat → Int32} {n : Nat} {pk : List aPk} {ch : List (Nat × Nat)} {pr : List Int32}
theorem i_nat {x : Int32} (h : ¬ x < 0) : x = nI x.toNatClampNeg ∧ x.toNatClampNeg < 2 ^ 31 := by
  have h0 : 0 ≤ x := Int32.not_lt.mp h
  have h1 : 0 ≤ x.toInt := by rw [Int32.le_iff_toInt_le] at h0; exact h0
  have h2 := Int32.toInt_lt x
  have h3 : x.toNatClampNeg = x.toInt.toNat := rfl
  have h4 : x.toNatClampNeg < 2 ^ 31 := by rw [h3]; omega
  refine ⟨?_, h4⟩
  apply Int32.toInt_inj.mp
  rw [show (nI x.toNatClampNeg).toInt = (x.toNatClampNeg : Int) from Int32.toInt_ofNat_of_lt h4, h3]
  omega
theorem PF.k1 {q : Nat} {fs : List (List Int32)} (h : PF s q fs) (e : s'.2 = s.2) : PF s' q fs := by unfold PF FF at *; rw [e]; exact h
theorem RInv.t (h : RInv s f n pk ch pr) : RInv (va_up s.1 0 0, s.2) f n pk ch pr := h
theorem RPk.k {q : Nat} {P : aPk} (h : RPk s q P) (g : ks s s') : RPk s' q P := by
  obtain ⟨a1, a2, a3, a4, a5, a6, a7, a8⟩ := h
  exact ⟨by rw [g.2.2.2 5 (by omega) (by omega)]; exact a1, by rw [g.2.2.2 8 (by omega) (by omega)]; exact a2, by rw [g.2.2.1]; exact a3, a4.k g, by rw [g.2.2.2 6 (by omega) (by omega)]; exact a5, a6, fun i x hx => ⟨(a7 i x hx).1.k g, (a7 i x hx).2⟩, a8⟩
theorem RInv.ks (h : RInv s f n pk ch pr) (g : ks s s') : RInv s' f n pk ch pr := by
  obtain ⟨a1, a2, a3, a4, a5, a6, a7⟩ := h
  refine ⟨⟨by rw [g.1]; exact a1.1, a1.2.1, a1.2.2.1, by rw [g.2.2.2 1 (by omega) (by omega)]; exact a1.2.2.2⟩, by rw [g.1]; exact a2, a3, ?_, fun q P hP => (a5 q P hP).k g, ?_, ?_⟩
  · unfold cS; rw [g.2.2.2 4 (by omega) (by omega), g.2.2.1]; exact a4
  · rw [g.1, g.2.2.2 25 (by omega) (by omega), g.2.2.2 26 (by omega) (by omega)]; exact a6
  · rw [g.1, g.2.2.2 28 (by omega) (by omega)]; exact a7
theorem m_isPackage {x : Int32} (h : RInv s f n pk ch pr) : (f_MD_isPackage N m x).1 (ov M m s) = some (bZ (pkOf pk x).isSome, ov M m s) := by
  have h40 := h.2.2.1
  rw [e_MD_isPackage, r_let, r_let]
  unfold pkOf
  by_cases c : x < 0
  · rw [r_if_t c, if_pos c]; exact rZ0
  · rw [r_if_f c, if_neg c]
    obtain ⟨e, hl⟩ := i_nat c
    simp only [mI_11, h.2.1]
    by_cases d : pk.length ≤ x.toNatClampNeg
    · rw [r_if_t (show nI pk.length ≤ x by rw [e]; exact nI_le d hl), List.getElem?_eq_none d]; exact rZ0
    · rw [r_if_f (show ¬ nI pk.length ≤ x by rw [e]; exact nI_ge (by omega) (by omega)), List.getElem?_eq_getElem (by omega)]; exact rZ1
/-- a package that is there -/
theorem pkIn {x : Int32} {P : aPk} (h : RInv s f n pk ch pr) (hP : pkOf pk x = some P) : ∃ q, x = nI q ∧ q < 40 ∧ q < pk.length ∧ pk[q]? = some P ∧ RPk s q P ∧ ¬ (nI q < 0 ∨ 41 ≤ (nI q).toNatClampNeg) ∧ (nI q).toNatClampNeg = q := by
  unfold pkOf at hP
  split at hP
  · cases hP
  · rename_i c
    obtain ⟨e, hl⟩ := i_nat c
    have hq := (List.getElem?_eq_some_iff.mp hP).1
    have h40 := h.2.2.1
    exact ⟨x.toNatClampNeg, e, by omega, hq, hP, h.2.2.2.2.1 _ P hP, nI_in (by omega) (by decide), nI_clamp hl⟩
theorem m_rows {x : Int32} (h : RInv s f n pk ch pr) : ∃ s', (f_MD_rows N m x).1 (ov M m s) = some ((match pkOf pk x with
    | some P => nI P.2.2.2.length
    | none => -1), ov M m s') ∧ RInv s' f n pk ch pr := by
  refine ⟨(va_up s.1 0 0, s.2), ?_, h.t⟩
  rw [e_MD_rows, r_let, mP_0, mI_is, r_callE, m_isPackage h.t, Option.bind_some]
  cases hp : pkOf pk x with
  | none => rfl
  | some P =>
    obtain ⟨q, e, h1, h2, h3, h4, i1, c1⟩ := pkIn h hp
    have h6 : (va_up s.1 0 0, s.2).2.2.1 6 q = nI P.2.2.2.length := h4.2.2.2.2.1
    subst e
    simp only [Option.isSome_some, bZ, if_true, show ¬ (1 : Int32) = 0 by decide, if_false, mR_13, r_nn, mA_6 i1, c1]
    rw [show s.2.2.1 6 q = nI P.2.2.2.length from h6]; rfl
theorem m_isRow {x i : Int32} (h : RInv s f n pk ch pr) : (f_MD_isRow N m x i).1 (ov M m s) = some (bZ (rwOf pk x i).isSome, ov M m s) := by
  rw [e_MD_isRow, r_let, r_let, mI_is, r_callE, m_isPackage h, Option.bind_some]
  unfold rwOf
  cases hp : pkOf pk x with
  | none => exact rZ0
  | some P =>
    obtain ⟨q, e, h1, h2, h3, h4, i1, c1⟩ := pkIn h hp
    subst e
    rw [show bZ (some P).isSome = 1 from rfl, r_if_f (show ¬ (1 : Int32) = 0 by decide), Option.bind_some]
    unfold rwAt
    by_cases c : i < 0
    · rw [r_if_t c, if_pos c]; exact rZ0
    · rw [r_if_f c, if_neg c]
      obtain ⟨e, hl⟩ := i_nat c
      have h5 := h4.2.2.2.2.2.1
      simp only [mR_13, r_nn, mA_6 i1, c1, h4.2.2.2.2.1]
      by_cases d : P.2.2.2.length ≤ i.toNatClampNeg
      · rw [r_if_t (show nI P.2.2.2.length ≤ i by rw [e]; exact nI_le d hl), List.getElem?_eq_none d]; exact rZ0
      · rw [r_if_f (show ¬ nI P.2.2.2.length ≤ i by rw [e]; exact nI_ge (by omega) (by omega)), List.getElem?_eq_getElem (by omega)]; exact rZ1
/-- a row that is there -/
theorem rw_in {x i : Int32} {a : aR} (h : RInv s f n pk ch pr) (ha : rwOf pk x i = some a) : ∃ q j P, x = nI q ∧ i = nI j ∧ q < 40 ∧ j < 200 ∧ pkOf pk x = some P ∧ pk[q]? = some P ∧ P.2.2.2[j]? = some a ∧ RPk s q P ∧ RR s (200 * q + j) a ∧ wfR a ∧ 200 * x + i = nI (200 * q + j) ∧ ¬ (nI (200 * q + j) < 0 ∨ 8200 ≤ (nI (200 * q + j)).toNatClampNeg) ∧ (nI (200 * q + j)).toNatClampNeg = 200 * q + j := by
  unfold rwOf at ha
  cases hp : pkOf pk x with
  | none => rw [hp] at ha; cases ha
  | some P =>
    rw [hp, Option.bind_some] at ha
    obtain ⟨q, e, h1, h2, h3, h4, i1, c1⟩ := pkIn h hp
    unfold rwAt at ha
    split at ha
    · cases ha
    · rename_i c
      obtain ⟨e2, hl⟩ := i_nat c
      have hj := (List.getElem?_eq_some_iff.mp ha).1
      have h5 := h4.2.2.2.2.2.1
      obtain ⟨r1, r2⟩ := h4.2.2.2.2.2.2.1 _ _ ha
      refine ⟨q, i.toNatClampNeg, P, e, e2, h1, by omega, rfl, h3, ha, h4, r1, r2, ?_, nI_in (by omega) (by decide), nI_clamp (by omega)⟩
      rw [e, show (200 : Int32) * nI q = nI (200 * q) from nI_mul]
      rw [← nI_add, ← e2]
theorem m_low {x i : Int32} (h : RInv s f n pk ch pr) : ∃ s', (f_MD_low N m x i).1 (ov M m s) = some ((match rwOf pk x i with
    | some a => a.2.2.2.2.1
    | none => -1), ov M m s') ∧ RInv s' f n pk ch pr := by
  refine ⟨(va_up s.1 0 0, s.2), ?_, h.t⟩
  rw [e_MD_low, r_let, mP_0, mI_is, r_callE, m_isRow h.t, Option.bind_some]
  cases ha : rwOf pk x i with
  | none => rfl
  | some a =>
    obtain ⟨q, j, P, e1, e2, l1, l2, hp, h3, h3', h4, h5, h6, e3, i1, c1⟩ := rw_in h ha
    simp only [Option.isSome_some, bZ, if_true, show ¬ (1 : Int32) = 0 by decide, if_false, mR_25, r_nn, e3, mA_18 i1, c1, r_ret]
    rw [show s.2.2.2 18 (200 * q + j) = a.2.2.2.2.1 from h5.1.2.2.2.2.2.2.1]
theorem m_high {x i : Int32} (h : RInv s f n pk ch pr) : ∃ s', (f_MD_high N m x i).1 (ov M m s) = some ((match rwOf pk x i with
    | some a => a.2.2.2.2.2.1
    | none => -1), ov M m s') ∧ RInv s' f n pk ch pr := by
  refine ⟨(va_up s.1 0 0, s.2), ?_, h.t⟩
  rw [e_MD_high, r_let, mP_0, mI_is, r_callE, m_isRow h.t, Option.bind_some]
  cases ha : rwOf pk x i with
  | none => rfl
  | some a =>
    obtain ⟨q, j, P, e1, e2, l1, l2, hp, h3, h3', h4, h5, h6, e3, i1, c1⟩ := rw_in h ha
    simp only [Option.isSome_some, bZ, if_true, show ¬ (1 : Int32) = 0 by decide, if_false, mR_26, r_nn, e3, mA_19 i1, c1, r_ret]
    rw [show s.2.2.2 19 (200 * q + j) = a.2.2.2.2.2.1 from h5.1.2.2.2.2.2.2.2.1]
theorem m_opt_loop {q r : Nat} {P : aPk} {a : aR} (hN : 2001 ≤ N) (hq : q < 41) (hr : r < 8200) : ∀ (d fu i : Nat) (s : rS), d + i = P.2.2.2.length → d < fu → RPk s q P → RR s r a → wfR a →
    ∃ s', (f_MD_isOptional_6 N m (nI q) (nI r) fu (nI (200 * q + i))).1 (ov M m s) = some (bZ (hasO a.2.2.1 (P.2.2.2.drop i)), ov M m s') ∧ ks s s' := by
  have ip : ¬ (nI q < 0 ∨ 41 ≤ (nI q).toNatClampNeg) := nI_in hq (by decide)
  have cp := nI_clamp (n := q) (by omega)
  have e200 : (200 : Int32) * nI q = nI (200 * q) := nI_mul
  have i2 : ¬ (nI r < 0 ∨ 8200 ≤ (nI r).toNatClampNeg) := nI_in hr (by decide)
  have c2 := nI_clamp (n := r) (by omega)
  have e20' : (20 : Int32) * nI r = nI (20 * r) := nI_mul
  intro d
  induction d with
  | zero =>
    intro fu i s h1 h2 hP hR wa
    obtain ⟨fu, rfl⟩ : ∃ g, fu = g + 1 := ⟨fu - 1, by omega⟩
    have hl := hP.2.2.2.2.2.1
    refine ⟨s, ?_, ks.rf⟩
    rw [e_MD_isOptional_6, r_let, List.drop_eq_nil_of_le (by omega)]
    simp only [mR_13, r_nn, mA_6 ip, cp, hP.2.2.2.2.1, e200, nI_add, show nI (200 * q + P.2.2.2.length) ≤ nI (200 * q + i) from nI_le (by omega) (by omega), if_true]
    exact rZ0
  | succ d ih =>
    intro fu i s h1 h2 hP hR wa
    obtain ⟨fu, rfl⟩ : ∃ g, fu = g + 1 := ⟨fu - 1, by omega⟩
    have hl := hP.2.2.2.2.2.1
    have hi : i < P.2.2.2.length := by omega
    have hget : P.2.2.2[i]? = some P.2.2.2[i] := List.getElem?_eq_getElem hi
    obtain ⟨x1, x2⟩ := hP.2.2.2.2.2.2.1 i _ hget
    have i1 : ¬ (nI (200 * q + i) < 0 ∨ 8200 ≤ (nI (200 * q + i)).toNatClampNeg) := nI_in (by omega) (by decide)
    have c1 := nI_clamp (n := 200 * q + i) (by omega)
    have e20 : (20 : Int32) * nI (200 * q + i) = nI (20 * (200 * q + i)) := nI_mul
    rw [e_MD_isOptional_6, r_let, List.drop_eq_getElem_cons hi]
    simp only [mR_13, r_nn, mA_6 ip, cp, hP.2.2.2.2.1, e200, nI_add, show ¬ nI (200 * q + P.2.2.2.length) ≤ nI (200 * q + i) from nI_ge (by omega) (by omega), if_false, mR_19, mA_12 i1, c1, x1.1.1]
    unfold hasO
    rw [List.any_cons]
    by_cases c3 : P.2.2.2[i].1 = 3
    · rw [r_if_t (show nI P.2.2.2[i].1 = 3 by rw [c3]; rfl)]
      obtain ⟨s1, u1, u2⟩ := m_compare (N := N) (M := M) (m := m) hN (x1.n x2 (by omega)) (hR.n wa hr)
      simp only [mR_23, mR_21, r_nn, mA_14 i1, mA_14 i2, c1, c2, x1.1.2.2.1, hR.1.2.2.1, e20, e20', mI_is, r_callE, u1, Option.bind_some]
      rw [show (P.2.2.2[i].1 == 3) = true from by rw [beq_iff_eq]; exact c3, Bool.true_and]
      by_cases c4 : cmpN P.2.2.2[i].2.2.1 a.2.2.1 = 0
      · rw [r_if_t c4, show (cmpN P.2.2.2[i].2.2.1 a.2.2.1 == 0) = true from by rw [beq_iff_eq]; exact c4, Bool.true_or]
        exact ⟨s1, rZ1, u2⟩
      · rw [r_if_f c4, show (cmpN P.2.2.2[i].2.2.1 a.2.2.1 == 0) = false from by rw [beq_eq_false_iff_ne]; exact c4, Bool.false_or, nI_1]
        obtain ⟨s2, v1, v2⟩ := ih fu (i + 1) s1 (by omega) (by omega) (hP.k u2) (hR.k u2) wa
        exact ⟨s2, v1, u2.tr v2⟩
    · rw [r_if_f (show ¬ nI P.2.2.2[i].1 = 3 from fun z => c3 ((nI_eq (b := 3) (by have := x2.1; omega) (by omega)).mp z))]
      rw [show (P.2.2.2[i].1 == 3) = false from by rw [beq_eq_false_iff_ne]; exact c3, Bool.false_and, Bool.false_or, nI_1]
      exact ih fu (i + 1) s (by omega) (by omega) hP hR wa
end RQRY
