/-! LAYER 2: the reference prints a package -/
section RPRT4
variable {N : Nat} {M : hM} {m : Nat} {s s' s'' : rS} {L l l' : List Int32}
theorem m_isPr82 {q j : Nat} {P : aPk} {w : List Int32} (hN : 2001 ≤ N) (hq : q < 40) (hj : P.2.2.1[j]? = some w) {p0 : Int32} : ∀ (d fu i : Nat) (s : rS), d + i = j → d < fu → RPk s q P → ∃ s', (f_MD_isPrinted_82 N m p0 (nI (250 * q + j)) fu (nI (250 * q + i))).1 (ov M m s) = some (bZ (((P.2.2.1.take j).drop i).any (fun g => cmpN g w == 0)), ov M m s') ∧ ks s s' := by
  have hjl := (List.getElem?_eq_some_iff.mp hj).1
  intro d
  induction d with
  | zero =>
    intro fu i s h1 h2 hP
    obtain ⟨fu, rfl⟩ : ∃ g, fu = g + 1 := ⟨fu - 1, by omega⟩
    have hf := hP.2.2.2.1.2.1
    refine ⟨s, ?_, ks.rf⟩
    rw [List.drop_eq_nil_of_le (by rw [List.length_take]; omega), e_MD_isPrinted_82, r_if_t (show nI (250 * q + j) ≤ nI (250 * q + i) from nI_le (by omega) (by omega))]
    exact rZ0
  | succ d ih =>
    intro fu i s h1 h2 hP
    obtain ⟨fu, rfl⟩ : ∃ g, fu = g + 1 := ⟨fu - 1, by omega⟩
    have hf := hP.2.2.2.1.2.1
    have hi : i < P.2.2.1.length := by omega
    have hget : P.2.2.1[i]? = some P.2.2.1[i] := List.getElem?_eq_getElem hi
    obtain ⟨⟨b1, b2, b3⟩, bw⟩ := hP.2.2.2.1.2.2 i _ hget
    obtain ⟨⟨d1, d2, d3⟩, dw⟩ := hP.2.2.2.1.2.2 j _ hj
    have e20 : (20 : Int32) * nI (250 * q + i) = nI (20 * (250 * q + i)) := nI_mul
    have e20' : (20 : Int32) * nI (250 * q + j) = nI (20 * (250 * q + j)) := nI_mul
    have i1 : ¬ (nI (250 * q + i) < 0 ∨ 10250 ≤ (nI (250 * q + i)).toNatClampNeg) := nI_in (by omega) (by decide)
    have c1 := nI_clamp (n := 250 * q + i) (by omega)
    have i2 : ¬ (nI (250 * q + j) < 0 ∨ 10250 ≤ (nI (250 * q + j)).toNatClampNeg) := nI_in (by omega) (by decide)
    have c2 := nI_clamp (n := 250 * q + j) (by omega)
    have nA : nAt M m s 10 (20 * (250 * q + i)) P.2.2.1[i] := ⟨205000, by decide, ld_10, by omega, b2, bw, by decide, by decide⟩
    have nB : nAt M m s 10 (20 * (250 * q + j)) w := ⟨205000, by decide, ld_10, by omega, d2, dw, by decide, by decide⟩
    obtain ⟨s1, r1, r2⟩ := m_compare (N := N) (M := M) (m := m) hN nA nB
    have hdr : (P.2.2.1.take j).drop i = P.2.2.1[i] :: (P.2.2.1.take j).drop (i + 1) := by
      rw [List.drop_eq_getElem_cons (by rw [List.length_take]; omega), List.getElem_take]
    rw [hdr, List.any_cons, e_MD_isPrinted_82, r_if_f (show ¬ nI (250 * q + j) ≤ nI (250 * q + i) from nI_ge (by omega) (by omega))]
    simp only [mR_17, mR_18, r_nn, mA_11 i1, mA_11 i2, c1, c2, b1, d1, e20, e20', mI_is, r_callE, r1, Option.bind_some]
    by_cases c : cmpN P.2.2.1[i] w = 0
    · rw [r_if_t c, show (cmpN P.2.2.1[i] w == 0) = true from by rw [beq_iff_eq]; exact c, Bool.true_or]
      exact ⟨s1, rZ1, r2⟩
    · rw [r_if_f c, show (cmpN P.2.2.1[i] w == 0) = false from by rw [beq_eq_false_iff_ne]; exact c, Bool.false_or, nI_1]
      obtain ⟨s2, v1, v2⟩ := ih fu (i + 1) s1 (by omega) (by omega) (hP.k r2)
      exact ⟨s2, v1, r2.tr v2⟩
theorem m_isPr6 {q j : Nat} {P : aPk} {w : List Int32} (hN : 2001 ≤ N) (hq : q < 40) (hj : P.2.2.1[j]? = some w) : ∀ (d fu i : Nat) (s : rS), d + i = P.2.2.2.length → d < fu → RPk s q P → ∃ s', (f_MD_isPrinted_6 N m (nI q) (nI (250 * q + j)) fu (nI (200 * q + i))).1 (ov M m s) = some (bZ ((P.2.2.2.drop i).any (fun r => r.1 == 9 && cmpN r.2.2.2.1 w == 0) || (P.2.2.1.take j).any (fun g => cmpN g w == 0)), ov M m s') ∧ ks s s' := by
  have hjl := (List.getElem?_eq_some_iff.mp hj).1
  have ip : ¬ (nI q < 0 ∨ 41 ≤ (nI q).toNatClampNeg) := nI_in (by omega) (by decide)
  have cp := nI_clamp (n := q) (by omega)
  have e200 : (200 : Int32) * nI q = nI (200 * q) := nI_mul
  intro d
  induction d with
  | zero =>
    intro fu i s h1 h2 hP
    obtain ⟨fu, rfl⟩ : ∃ g, fu = g + 1 := ⟨fu - 1, by omega⟩
    have hl := hP.2.2.2.2.2.1
    have hf := hP.2.2.2.1.2.1
    obtain ⟨s1, u1, u2⟩ := m_isPr82 (N := N) (M := M) (m := m) hN hq hj (p0 := nI q) j N 0 s (by omega) (by omega) hP
    rw [List.drop_zero] at u1
    refine ⟨s1, ?_, u2⟩
    rw [List.drop_eq_nil_of_le (by omega), e_MD_isPrinted_6, r_let]
    simp only [mR_13, r_nn, mA_6 ip, cp, hP.2.2.2.2.1, e200, nI_add, show nI (200 * q + P.2.2.2.length) ≤ nI (200 * q + i) from nI_le (by omega) (by omega), if_true]
    rw [show (250 : Int32) * nI q = nI (250 * q + 0) from nI_mul]
    exact u1
  | succ d ih =>
    intro fu i s h1 h2 hP
    obtain ⟨fu, rfl⟩ : ∃ g, fu = g + 1 := ⟨fu - 1, by omega⟩
    have hl := hP.2.2.2.2.2.1
    have hf := hP.2.2.2.1.2.1
    have hi : i < P.2.2.2.length := by omega
    have hget : P.2.2.2[i]? = some P.2.2.2[i] := List.getElem?_eq_getElem hi
    obtain ⟨x1, x2⟩ := hP.2.2.2.2.2.2.1 i _ hget
    obtain ⟨⟨d1, d2, d3⟩, dw⟩ := hP.2.2.2.1.2.2 j _ hj
    have i1 : ¬ (nI (200 * q + i) < 0 ∨ 8200 ≤ (nI (200 * q + i)).toNatClampNeg) := nI_in (by omega) (by decide)
    have c1 := nI_clamp (n := 200 * q + i) (by omega)
    have i2 : ¬ (nI (250 * q + j) < 0 ∨ 10250 ≤ (nI (250 * q + j)).toNatClampNeg) := nI_in (by omega) (by decide)
    have c2 := nI_clamp (n := 250 * q + j) (by omega)
    have e20 : (20 : Int32) * nI (200 * q + i) = nI (20 * (200 * q + i)) := nI_mul
    have e20' : (20 : Int32) * nI (250 * q + j) = nI (20 * (250 * q + j)) := nI_mul
    have nB : nAt M m s 10 (20 * (250 * q + j)) w := ⟨205000, by decide, ld_10, by omega, d2, dw, by decide, by decide⟩
    rw [List.drop_eq_getElem_cons hi, List.any_cons, e_MD_isPrinted_6, r_let]
    simp only [mR_13, r_nn, mA_6 ip, cp, hP.2.2.2.2.1, e200, nI_add, show ¬ nI (200 * q + P.2.2.2.length) ≤ nI (200 * q + i) from nI_ge (by omega) (by omega), if_false, mR_19, mA_12 i1, c1, x1.1.1]
    by_cases c9 : P.2.2.2[i].1 = 9
    · rw [r_if_t (show nI P.2.2.2[i].1 = 9 by rw [c9]; rfl), show (P.2.2.2[i].1 == 9) = true from by rw [beq_iff_eq]; exact c9, Bool.true_and]
      obtain ⟨s1, r1, r2⟩ := m_compare (N := N) (M := M) (m := m) hN (x1.o x2 (by omega)) nB
      simp only [mR_24, mR_22, r_nn, mA_15 i1, c1, x1.1.2.2.2.2.1, mR_17, mR_18, mA_11 i2, c2, d1, e20, e20', mI_is, r_callE, r1, Option.bind_some]
      by_cases c : cmpN P.2.2.2[i].2.2.2.1 w = 0
      · rw [r_if_t c, show (cmpN P.2.2.2[i].2.2.2.1 w == 0) = true from by rw [beq_iff_eq]; exact c, Bool.true_or, Bool.true_or]
        exact ⟨s1, rZ1, r2⟩
      · rw [r_if_f c, show (cmpN P.2.2.2[i].2.2.2.1 w == 0) = false from by rw [beq_eq_false_iff_ne]; exact c, Bool.false_or, nI_1]
        obtain ⟨s2, v1, v2⟩ := ih fu (i + 1) s1 (by omega) (by omega) (hP.k r2)
        exact ⟨s2, v1, r2.tr v2⟩
    · rw [r_if_f (show ¬ nI P.2.2.2[i].1 = 9 from fun z => c9 ((nI_eq (b := 9) (by have := x2.1; omega) (by omega)).mp z)), show (P.2.2.2[i].1 == 9) = false from by rw [beq_eq_false_iff_ne]; exact c9, Bool.false_and, Bool.false_or, nI_1]
      exact ih fu (i + 1) s (by omega) (by omega) hP
/-- printing that answers how many signs -/
def EmC (M : hM) (m : Nat) (s : rS) (L l : List Int32) (X : Option (Int32 × hM)) : Prop := ∃ s', X = some (nI (L ++ l).length, ov M m s') ∧ Pst s' (L ++ l) ∧ kP s s'
theorem EmC.seq {A : hX Unit} {K : hX Int32} (h : Emt M m s L l (A.1 (ov M m s))) (g : ∀ s', Pst s' (L ++ l) → kP s s' → EmC M m s' (L ++ l) l' (K.1 (ov M m s'))) : EmC M m s L (l ++ l') ((b_is m 1 (b_call A (fun _ => K))).1 (ov M m s)) := by
  obtain ⟨s1, a, b, c⟩ := h
  obtain ⟨s2, d, e, f⟩ := g s1 b c
  refine ⟨s2, ?_, by rw [← List.append_assoc]; exact e, c.tr f⟩
  rw [mI_is, r_callE, a, Option.bind_some, ← List.append_assoc]; exact d
theorem EmC.mono {X : Option (Int32 × hM)} (h : EmC M m s' L l X) (g : kP s s') : EmC M m s L l X := by
  obtain ⟨s1, a, b, c⟩ := h
  exact ⟨s1, a, b, g.tr c⟩
theorem m_print159 {q : Nat} {P : aPk} (hN : 2001 ≤ N) (hq : q < 40) : ∀ (d fu i : Nat) (s : rS) (L : List Int32), d + i = P.2.2.1.length → d < fu → RPk s q P → cS s → Pst s L → L.length + (brS P (P.2.2.1.take i) (P.2.2.1.drop i)).length ≤ 59000 →
    EmC M m s L (brS P (P.2.2.1.take i) (P.2.2.1.drop i)) ((f_MD_print_159 N m (nI q) fu (nI (250 * q + i))).1 (ov M m s)) := by
  have ip : ¬ (nI q < 0 ∨ 41 ≤ (nI q).toNatClampNeg) := nI_in (by omega) (by decide)
  have cp := nI_clamp (n := q) (by omega)
  intro d
  induction d with
  | zero =>
    intro fu i s L h1 h2 hP hc hPs hL
    obtain ⟨fu, rfl⟩ : ∃ g, fu = g + 1 := ⟨fu - 1, by omega⟩
    have hf := hP.2.2.2.1.2.1
    have er : (250 : Int32) * nI q + nI P.2.2.1.length = nI (250 * q + P.2.2.1.length) := by rw [show (250 : Int32) * nI q = nI (250 * q) from nI_mul, nI_add]
    rw [List.drop_eq_nil_of_le (show P.2.2.1.length ≤ i by omega), show brS P (P.2.2.1.take i) [] = [] from by unfold brS; rfl]
    refine ⟨s, ?_, by rw [List.append_nil]; exact hPs, kP.rf⟩
    rw [e_MD_print_159, r_let, List.append_nil]
    simp only [mR_14, r_nn, mA_7 ip, cp, hP.2.2.2.1.1, er, show nI (250 * q + P.2.2.1.length) ≤ nI (250 * q + i) from nI_le (by omega) (by omega), if_true, mI_43, hPs.1, r_ret]
  | succ d ih =>
    intro fu i s L h1 h2 hP hc hPs hL
    obtain ⟨fu, rfl⟩ : ∃ g, fu = g + 1 := ⟨fu - 1, by omega⟩
    have hf := hP.2.2.2.1.2.1
    have hl := hP.2.2.2.2.2.1
    have hi : i < P.2.2.1.length := by omega
    have hget : P.2.2.1[i]? = some P.2.2.1[i] := List.getElem?_eq_getElem hi
    obtain ⟨⟨b1, b2, b3⟩, bw⟩ := hP.2.2.2.1.2.2 i _ hget
    have er : (250 : Int32) * nI q + nI P.2.2.1.length = nI (250 * q + P.2.2.1.length) := by rw [show (250 : Int32) * nI q = nI (250 * q) from nI_mul, nI_add]
    have e20 : (20 : Int32) * nI (250 * q + i) = nI (20 * (250 * q + i)) := nI_mul
    have i1 : ¬ (nI (250 * q + i) < 0 ∨ 10250 ≤ (nI (250 * q + i)).toNatClampNeg) := nI_in (by omega) (by decide)
    have c1 := nI_clamp (n := 250 * q + i) (by omega)
    obtain ⟨s1, u1, u2⟩ := m_isPr6 (N := N) (M := M) (m := m) hN hq hget P.2.2.2.length N 0 s (by omega) (by omega) hP
    have u1' : (f_MD_isPrinted N m (nI q) (nI (250 * q + i))).1 (ov M m s) = some (bZ (isPr P (P.2.2.1.take i) P.2.2.1[i]), ov M m s1) := by
      rw [e_MD_isPrinted, show (200 : Int32) * nI q = nI (200 * q + 0) from nI_mul]
      rw [List.drop_zero] at u1
      exact u1
    have ht : P.2.2.1.take i ++ [P.2.2.1[i]] = P.2.2.1.take (i + 1) := by rw [List.take_add_one, hget]; rfl
    have hbr : brS P (P.2.2.1.take i) (P.2.2.1.drop i) = (if isPr P (P.2.2.1.take i) P.2.2.1[i] = true then [] else kwS 5 ++ ([32] ++ (P.2.2.1[i] ++ ([58] ++ [59])))) ++ brS P (P.2.2.1.take (i + 1)) (P.2.2.1.drop (i + 1)) := by
      rw [List.drop_eq_getElem_cons hi]
      show _ ++ brS P (P.2.2.1.take i ++ [P.2.2.1[i]]) _ = _
      rw [ht]
    rw [hbr] at hL ⊢
    rw [List.length_append] at hL
    rw [e_MD_print_159, r_let]
    simp only [mR_14, r_nn, mA_7 ip, cp, hP.2.2.2.1.1, er, show ¬ nI (250 * q + P.2.2.1.length) ≤ nI (250 * q + i) from nI_ge (by omega) (by omega), if_false]
    rw [mI_is, r_callE, u1', Option.bind_some]
    dsimp only
    refine EmC.mono ?_ u2.p
    have hP1 := hP.k u2
    have hPs1 := hPs.ks u2
    have hc1 := hc.p u2.p
    by_cases c : isPr P (P.2.2.1.take i) P.2.2.1[i] = true
    · rw [c, r_if_f (show ¬ bZ true = 0 by decide), if_pos rfl, List.nil_append, nI_1]
      rw [if_pos c] at hL
      exact ih fu (i + 1) s1 L (by omega) (by omega) hP1 hc1 hPs1 (by have : ([] : List Int32).length = 0 := rfl; omega)
    · have c' : isPr P (P.2.2.1.take i) P.2.2.1[i] = false := by cases h : isPr P (P.2.2.1.take i) P.2.2.1[i]; rfl; exact absurd h c
      rw [if_neg c] at hL
      rw [c', r_if_t (show bZ false = 0 by decide), if_neg (show ¬ (false = true) by decide)]
      have key := m_keyOf (N := N) (M := M) (m := m) (s := s1) (i0 := 5) hN hc1 (by omega)
      have key' : (f_MD_keyOf N m 9).1 (ov M m s1) = some (kC 5, ov M m s1) := key
      rw [mI_is, r_callE, key', Option.bind_some]
      dsimp only
      simp only [List.append_assoc]
      have l5 := kwS_len (t := 5) (by omega)
      have hlen : (kwS 5 ++ ([32] ++ (P.2.2.1[i] ++ ([58] ++ [59])))).length = (kwS 5).length + (1 + (P.2.2.1[i].length + 2)) := by rw [List.length_append, List.length_append, List.length_append]; rfl
      rw [hlen] at hL
      refine EmC.seq (m_putKey (t := 5) hN (by omega) hPs1 (by omega)) (fun s2 h2 g2 => ?_)
      refine EmC.seq (l := [32]) (m_put (sml_nI (j := 32) (by decide)) h2 (by rw [List.length_append]; omega)) (fun s3 h3 g3 => ?_)
      have hP3 := (hP1.p g2).p g3
      obtain ⟨⟨d1, d2, d3⟩, dw⟩ := hP3.2.2.2.1.2.2 i _ hget
      simp only [mR_17, mR_18, r_nn, mA_11 i1, c1, d1, e20]
      refine EmC.seq (m_putName_loop (N := N) (Z := 205000) (w := P.2.2.1[i]) (by decide) (fun i K s h => mA_10 h) (by decide) (by omega) (wfN_sml dw) P.2.2.1[i].length N 0 s3 _ (by omega) (by omega) d2 h3 (by rw [List.length_append, List.length_append]; show _ + 1 + _ ≤ _; omega)) (fun s4 h4 g4 => ?_)
      refine EmC.seq (l := [58]) (m_put (sml_nI (j := 58) (by decide)) h4 (by rw [List.length_append, List.length_append, List.length_append]; show _ + 1 + _ < _; omega)) (fun s5 h5 g5 => ?_)
      refine EmC.seq (l := [59]) (m_put (sml_nI (j := 59) (by decide)) h5 (by rw [List.length_append, List.length_append, List.length_append, List.length_append]; show _ + 1 + _ + 1 < _; omega)) (fun s6 h6 g6 => ?_)
      rw [nI_1]
      refine ih fu (i + 1) s6 _ (by omega) (by omega) (((hP3.p g4).p g5).p g6) (((((hc1.p g2).p g3).p g4).p g5).p g6) h6 ?_
      rw [List.length_append, List.length_append, List.length_append, List.length_append, List.length_append]
      show _ + 1 + _ + 1 + 1 + _ ≤ _
      omega
end RPRT4
