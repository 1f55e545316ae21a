/-! LAYER 2: the law's loop -/
section LAWLOOP
variable {N z L : Nat} {xs : Nat → Int32} {M : hM}
theorem ix_ok {i j : Nat} {x : Int32} (hL : L ≤ 2560) (h : i + j < L) (hx : nI j = x) : ¬ ((nI i + x : Int32) < 0 ∨ L ≤ (nI i + x : Int32).toNatClampNeg) := by
  rw [← hx, nI_add]
  exact nI_in (N := L) h (by omega)
theorem ix_0 {i : Nat} (hL : L ≤ 2560) (h : i < L) : ¬ ((nI i : Int32) < 0 ∨ L ≤ (nI i : Int32).toNatClampNeg) := nI_in (N := L) h (by omega)
theorem law_end {i : Nat} (hL : L ≤ 2560) (hi : i ≤ 2565) : (Int32.ofNat L - 5 < nI i) ↔ L < i + 5 := by
  rw [Int32.lt_iff_toInt_lt, Int32.toInt_sub, nI_Z (by omega)]
  have e : (Int32.ofNat L).toInt = (L : Int) := nI_Z (a := L) (by omega)
  have e5 : (5 : Int32).toInt = 5 := rfl
  rw [e, e5, Int.bmod_eq_of_le (by omega) (by omega)]
  omega
theorem lg_rf {x : Int64} : lg_cmp x x = 0 := by
  have h1 := lg_le.mpr (show x ≤ x from Int64.le_refl x)
  have h2 := lg_ge.mpr (show x ≤ x from Int64.le_refl x)
  exact Int32.le_antisymm h1 h2
theorem law_loop (hN : 3000 ≤ N) (hL : L ≤ 2560) : ∀ (d fu k : Nat) (M : hM), d + k = 513 → d < fu → LI z k M → ∃ Z, (f_LW_law_18 N L xs fu (some z) (some (z + 14)) (nI (5 * k))).1 M = some Z ∧ Z.1 = 1 ∧ Z.2.2.1 ≤ z + 43 + 64 * 513 ∧ Z.2.2.2 ≤ 672785 + 800 * 513
  | d, 0, k, M, _, hf, _ => absurd hf (by omega)
  | d, fu + 1, k, M, hd, hf, hI => by
    rw [e_LW_law_18, r_let]
    by_cases c : L < 5 * k + 5
    · refine ⟨(1, M), (r_if_t ((law_end hL (by omega)).mpr c)).trans rfl, rfl, ?_, ?_⟩
      · obtain ⟨s, f, n, pk, ch, pr, _, _, _, b1, _⟩ := hI
        show M.2.1 ≤ _
        omega
      · obtain ⟨s, f, n, pk, ch, pr, _, _, _, _, b2⟩ := hI
        exact Nat.le_trans (Nat.le_trans (Nat.le_add_right _ _) b2) (Nat.add_le_add_left (Nat.mul_le_mul_left 800 (by omega)) _)
    · have c0 := ix_0 (i := 5 * k) hL (by omega)
      have c1 := ix_ok (i := 5 * k) (j := 1) (x := 1) hL (by omega) rfl
      have c2 := ix_ok (i := 5 * k) (j := 2) (x := 2) hL (by omega) rfl
      have c3 := ix_ok (i := 5 * k) (j := 3) (x := 3) hL (by omega) rfl
      have c4 := ix_ok (i := 5 * k) (j := 4) (x := 4) hL (by omega) rfl
      have hd0 : d ≠ 0 := fun e => by omega
      have ih : ∀ M', LI z (k + 1) M' → ∃ Z, (f_LW_law_18 N L xs fu (some z) (some (z + 14)) (nI (5 * k) + 5)).1 M' = some Z ∧ Z.1 = 1 ∧ Z.2.2.1 ≤ z + 43 + 64 * 513 ∧ Z.2.2.2 ≤ 672785 + 800 * 513 := fun M' hI' => by
        have e5 : nI (5 * k) + 5 = nI (5 * (k + 1)) := nI_add (5 * k) 5
        rw [e5]
        exact law_loop hN hL (d - 1) fu (k + 1) M' (by omega) (by omega) hI'
      rw [(r_if_f (show ¬ (Int32.ofNat L - 5 < nI (5 * k)) from fun z => c ((law_end hL (by omega)).mp z))).trans (r_if_f c0)]
      by_cases t0 : (xs (nI (5 * k)).toNatClampNeg &&& 15) = 0
      · obtain ⟨a, M1, M2, h1, h2, ⟨o1, g1⟩, ⟨o2, g2⟩, h3⟩ := o_type hN k M hI
        obtain ⟨Z, z1, z2⟩ := ih M2 h3
        refine ⟨Z, ?_, z2⟩
        refine (r_if_t t0).trans ?_
        refine (r_if_f c1).trans ?_
        refine (r_if_f c2).trans ?_
        refine r_nn.trans ((r_is g1).trans ((r_call h1).trans ?_))
        refine (r_if_f c1).trans ?_
        refine (r_if_f c2).trans ?_
        refine r_nn.trans ((r_is g2).trans ((r_call h2).trans ?_))
        exact z1
      rw [r_if_f t0]
      by_cases t1 : (xs (nI (5 * k)).toNatClampNeg &&& 15) = 1
      · obtain ⟨a, M1, M2, h1, h2, ⟨o1, g1⟩, ⟨o2, g2⟩, h3⟩ := o_read hN k M hI
        obtain ⟨Z, z1, z2⟩ := ih M2 h3
        refine ⟨Z, ?_, z2⟩
        refine (r_if_t t1).trans ?_
        refine r_nn.trans ((r_is g1).trans ((r_call h1).trans ?_))
        refine r_nn.trans ((r_is g2).trans ((r_call h2).trans ?_))
        refine (r_if_t rfl).trans ?_
        exact z1
      rw [r_if_f t1]
      by_cases t2 : (xs (nI (5 * k)).toNatClampNeg &&& 15) = 2
      · obtain ⟨a, M1, M2, h1, h2, ⟨o1, g1⟩, ⟨o2, g2⟩, h3⟩ := o_rows k M hI
        obtain ⟨Z, z1, z2⟩ := ih M2 h3
        refine ⟨Z, ?_, z2⟩
        refine (r_if_t t2).trans ?_
        refine (r_if_f c1).trans ?_
        refine r_nn.trans ((r_is g1).trans ((r_call h1).trans ?_))
        refine (r_if_f c1).trans ?_
        refine r_nn.trans ((r_is g2).trans ((r_call h2).trans ?_))
        refine (r_if_t rfl).trans ?_
        exact z1
      rw [r_if_f t2]
      by_cases t3 : (xs (nI (5 * k)).toNatClampNeg &&& 15) = 3
      · obtain ⟨a, M1, M2, h1, h2, ⟨o1, g1⟩, ⟨o2, g2⟩, h3⟩ := o_row hN k M hI
        obtain ⟨Z, z1, z2⟩ := ih M2 h3
        refine ⟨Z, ?_, z2⟩
        refine (r_if_t t3).trans ?_
        refine (r_if_f c1).trans ?_
        refine (r_if_f c2).trans ?_
        refine (r_if_f c3).trans ?_
        refine r_nn.trans ((r_is g1).trans ((r_call h1).trans ?_))
        refine (r_if_f c1).trans ?_
        refine (r_if_f c2).trans ?_
        refine (r_if_f c3).trans ?_
        refine r_nn.trans ((r_is g2).trans ((r_call h2).trans ?_))
        refine (r_if_t rfl).trans ?_
        exact z1
      rw [r_if_f t3]
      by_cases t4 : (xs (nI (5 * k)).toNatClampNeg &&& 15) = 4
      · obtain ⟨a, M1, M2, h1, h2, ⟨o1, g1⟩, ⟨o2, g2⟩, h3⟩ := o_letter hN k M hI
        obtain ⟨Z, z1, z2⟩ := ih M2 h3
        refine ⟨Z, ?_, z2⟩
        refine (r_if_t t4).trans ?_
        refine (r_if_f c1).trans ?_
        refine (r_if_f c2).trans ?_
        refine (r_if_f c3).trans ?_
        refine (r_if_f c4).trans ?_
        refine r_nn.trans ((r_is g1).trans ((r_call h1).trans ?_))
        refine (r_if_f c1).trans ?_
        refine (r_if_f c2).trans ?_
        refine (r_if_f c3).trans ?_
        refine (r_if_f c4).trans ?_
        refine r_nn.trans ((r_is g2).trans ((r_call h2).trans ?_))
        refine (r_if_t rfl).trans ?_
        exact z1
      rw [r_if_f t4]
      by_cases t5 : (xs (nI (5 * k)).toNatClampNeg &&& 15) = 5
      · obtain ⟨a, M1, M2, h1, h2, ⟨o1, g1⟩, ⟨o2, g2⟩, h3⟩ := o_low k M hI
        obtain ⟨Z, z1, z2⟩ := ih M2 h3
        refine ⟨Z, ?_, z2⟩
        refine (r_if_t t5).trans ?_
        refine (r_if_f c1).trans ?_
        refine (r_if_f c2).trans ?_
        refine r_nn.trans ((r_is g1).trans ((r_call h1).trans ?_))
        refine (r_if_f c1).trans ?_
        refine (r_if_f c2).trans ?_
        refine r_nn.trans ((r_is g2).trans ((r_call h2).trans ?_))
        refine (r_if_t lg_rf).trans ?_
        exact z1
      rw [r_if_f t5]
      by_cases t6 : (xs (nI (5 * k)).toNatClampNeg &&& 15) = 6
      · obtain ⟨a, M1, M2, h1, h2, ⟨o1, g1⟩, ⟨o2, g2⟩, h3⟩ := o_high k M hI
        obtain ⟨Z, z1, z2⟩ := ih M2 h3
        refine ⟨Z, ?_, z2⟩
        refine (r_if_t t6).trans ?_
        refine (r_if_f c1).trans ?_
        refine (r_if_f c2).trans ?_
        refine r_nn.trans ((r_is g1).trans ((r_call h1).trans ?_))
        refine (r_if_f c1).trans ?_
        refine (r_if_f c2).trans ?_
        refine r_nn.trans ((r_is g2).trans ((r_call h2).trans ?_))
        refine (r_if_t lg_rf).trans ?_
        exact z1
      rw [r_if_f t6]
      by_cases t7 : (xs (nI (5 * k)).toNatClampNeg &&& 15) = 7
      · obtain ⟨a, M1, M2, h1, h2, ⟨o1, g1⟩, ⟨o2, g2⟩, h3⟩ := o_check hN k M hI
        obtain ⟨Z, z1, z2⟩ := ih M2 h3
        refine ⟨Z, ?_, z2⟩
        refine (r_if_t t7).trans ?_
        refine (r_if_f c1).trans ?_
        refine r_nn.trans ((r_is g1).trans ((r_call h1).trans ?_))
        refine (r_if_f c1).trans ?_
        refine r_nn.trans ((r_is g2).trans ((r_call h2).trans ?_))
        refine (r_if_t rfl).trans ?_
        exact z1
      rw [r_if_f t7]
      by_cases t8 : (xs (nI (5 * k)).toNatClampNeg &&& 15) = 8
      · obtain ⟨a, M1, M2, h1, h2, ⟨o1, g1⟩, ⟨o2, g2⟩, h3⟩ := o_same hN k M hI
        obtain ⟨Z, z1, z2⟩ := ih M2 h3
        refine ⟨Z, ?_, z2⟩
        refine (r_if_t t8).trans ?_
        refine (r_if_f c1).trans ?_
        refine (r_if_f c2).trans ?_
        refine r_nn.trans ((r_is g1).trans ((r_call h1).trans ?_))
        refine (r_if_f c1).trans ?_
        refine (r_if_f c2).trans ?_
        refine r_nn.trans ((r_is g2).trans ((r_call h2).trans ?_))
        refine (r_if_t rfl).trans ?_
        exact z1
      rw [r_if_f t8]
      by_cases t9 : (xs (nI (5 * k)).toNatClampNeg &&& 15) = 9
      · obtain ⟨a, M1, M2, h1, h2, ⟨o1, g1⟩, ⟨o2, g2⟩, h3⟩ := o_differ hN k M hI
        obtain ⟨Z, z1, z2⟩ := ih M2 h3
        refine ⟨Z, ?_, z2⟩
        refine (r_if_t t9).trans ?_
        refine (r_if_f c1).trans ?_
        refine (r_if_f c2).trans ?_
        refine r_nn.trans ((r_is g1).trans ((r_call h1).trans ?_))
        refine (r_if_f c1).trans ?_
        refine (r_if_f c2).trans ?_
        refine r_nn.trans ((r_is g2).trans ((r_call h2).trans ?_))
        refine (r_if_t rfl).trans ?_
        exact z1
      rw [r_if_f t9]
      by_cases t10 : (xs (nI (5 * k)).toNatClampNeg &&& 15) = 10
      · obtain ⟨a, M1, M2, h1, h2, ⟨o1, g1⟩, ⟨o2, g2⟩, h3⟩ := o_change k M hI
        obtain ⟨Z, z1, z2⟩ := ih M2 h3
        refine ⟨Z, ?_, z2⟩
        refine (r_if_t t10).trans ?_
        refine (r_if_f c1).trans ?_
        refine (r_if_f c2).trans ?_
        refine r_nn.trans ((r_is g1).trans ((r_call h1).trans ?_))
        refine (r_if_f c1).trans ?_
        refine (r_if_f c2).trans ?_
        refine r_nn.trans ((r_is g2).trans ((r_call h2).trans ?_))
        refine (r_if_t rfl).trans ?_
        exact z1
      rw [r_if_f t10]
      by_cases t11 : (xs (nI (5 * k)).toNatClampNeg &&& 15) = 11
      · obtain ⟨a, M1, M2, h1, h2, ⟨o1, g1⟩, ⟨o2, g2⟩, h3⟩ := o_print hN k M hI
        obtain ⟨Z, z1, z2⟩ := ih M2 h3
        refine ⟨Z, ?_, z2⟩
        refine (r_if_t t11).trans ?_
        refine (r_if_f c1).trans ?_
        refine r_nn.trans ((r_is g1).trans ((r_call h1).trans ?_))
        refine (r_if_f c1).trans ?_
        refine r_nn.trans ((r_is g2).trans ((r_call h2).trans ?_))
        refine (r_if_t rfl).trans ?_
        exact z1
      rw [r_if_f t11]
      by_cases t12 : (xs (nI (5 * k)).toNatClampNeg &&& 15) = 12
      · obtain ⟨a, M1, M2, h1, h2, ⟨o1, g1⟩, ⟨o2, g2⟩, h3⟩ := o_fold hN k M hI
        obtain ⟨Z, z1, z2⟩ := ih M2 h3
        refine ⟨Z, ?_, z2⟩
        refine (r_if_t t12).trans ?_
        refine r_nn.trans ((r_is g1).trans ((r_call h1).trans ?_))
        refine r_nn.trans ((r_is g2).trans ((r_call h2).trans ?_))
        refine (r_if_t rfl).trans ?_
        exact z1
      rw [r_if_f t12]
      by_cases t13 : (xs (nI (5 * k)).toNatClampNeg &&& 15) = 13
      · obtain ⟨a, M1, M2, h1, h2, ⟨o1, g1⟩, ⟨o2, g2⟩, h3⟩ := o_at k M hI
        obtain ⟨Z, z1, z2⟩ := ih M2 h3
        refine ⟨Z, ?_, z2⟩
        refine (r_if_t t13).trans ?_
        refine (r_if_f c1).trans ?_
        refine r_nn.trans ((r_is g1).trans ((r_call h1).trans ?_))
        refine (r_if_f c1).trans ?_
        refine r_nn.trans ((r_is g2).trans ((r_call h2).trans ?_))
        refine (r_if_t rfl).trans ?_
        exact z1
      rw [r_if_f t13]
      obtain ⟨s, f, n, pk, ch, pr, q1, q2, q3, q4, q5⟩ := hI
      exact ih M ⟨s, f, n, pk, ch, pr, q1, q2, q3, by omega, Nat.le_trans q5 (Nat.add_le_add_left (Nat.mul_le_mul_left 800 (by omega)) _)⟩
/-- the law holds, within its room -/
theorem law_all (hL : L ≤ 2560) (z : Nat) : ∃ (N : Nat) (Z : Int32 × hM), (f_LW_law N L xs).1 ((fun _ => none), z, 0) = some Z ∧ Z.1 = 1 ∧ Z.2.2.1 ≤ z + 600000 ∧ Z.2.2.2 ≤ 7302250 := by
  obtain ⟨Z, z1, z2, z3, z4⟩ := law_loop (xs := xs) (N := 3000) (Nat.le_refl _) hL 513 3000 0 _ rfl (by decide) (LI_0 (z := z))
  refine ⟨3000, Z, ?_, z2, by omega, Nat.le_trans z4 (by decide)⟩
  rw [lmem_nil, e_LW_law]
  exact PR_made.trans (MD_made.trans z1)
end LAWLOOP
