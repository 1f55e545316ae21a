/-! LAYER 2: the class prints a package, whole -/
section CPRQ
variable {N z : Nat} {M M' M'' : hM} {L l l' : List Int32} {P : aPk} {a : Nat} {u : Nat → Int32}
theorem s_prows (hN : 2001 ≤ N) (hP : wfP P) : ∀ (d fu i : Nat) (M : hM) (L : List Int32), d + i = P.2.2.2.length → d < fu → cPr z M L → pkB (z + 43) M a P u → L.length + (cRows (prv P i) (P.2.2.2.drop i) ++ (cBr P (dsF P.2.2.1) ++ [59])).length ≤ 4181 → EmP z M L (cRows (prv P i) (P.2.2.2.drop i) ++ (cBr P (dsF P.2.2.1) ++ [59])) ((f_Printer_printPack_35 N (z + 8) (some a) fu (nI i)).1 M) := by
  have hl := hP.2.2.2.1
  have hlf := Nat.le_trans (dsF_len (fs := P.2.2.1)) hP.2.2.1
  intro d
  induction d with
  | zero =>
    intro fu i M L k1 k2 hp hB hb
    obtain ⟨fu, rfl⟩ : ∃ g, fu = g + 1 := ⟨fu - 1, by omega⟩
    have hB' := hB
    obtain ⟨gr, h0, nb, fa, ra, gf, h1, h2, h3, h4, h5, h6, h7, h8, h9⟩ := hB
    rw [List.drop_eq_nil_of_le (by omega)] at hb ⊢
    rw [show ∀ o, cRows o [] = [] from fun _ => rfl, List.nil_append] at hb ⊢
    rw [List.length_append] at hb
    have e1 : ([59] : List Int32).length = 1 := rfl
    rw [e_Printer_printPack_35, r_let, r_let, r_let, r_nn]
    refine EmP.eq ((r_getR (r := some ra) h1 rfl).trans (r_nn.trans (r_len h7))) ?_
    dsimp only
    rw [r_if_t (show nI P.2.2.2.length ≤ nI i from nI_le (by omega) (by omega))]
    have hbare := s_bare (N := N) (u := u) (a := a) hN hP (dsF P.2.2.1).length N 0 M L (by omega) (by omega) hp hB' (by rw [List.drop_zero]; omega)
    rw [List.drop_zero] at hbare
    refine EmP.seq hp (A := f_Printer_putBareFeatures N (z + 8) (some a)) (by rw [e_Printer_putBareFeatures]; exact hbare) (fun M1 p1 _ => EmP.one p1 (s_put (nar_ch (sml_nI (j := 59) (by decide))) p1 (by rw [List.length_append]; omega)))
  | succ d ih =>
    intro fu i M L k1 k2 hp hB hb
    obtain ⟨fu, rfl⟩ : ∃ g, fu = g + 1 := ⟨fu - 1, by omega⟩
    have hB' := hB
    obtain ⟨gr, h0, nb, fa, ra, gf, h1, h2, h3, h4, h5, h6, h7, h8, h9⟩ := hB
    have hi : i < P.2.2.2.length := by omega
    obtain ⟨b, b1, b2, b3⟩ := h8 i _ (List.getElem?_eq_getElem hi)
    have i1 : ¬ (nI i < 0 ∨ P.2.2.2.length ≤ (nI i).toNatClampNeg) := nI_in (by omega) (by omega)
    have c1 := nI_clamp (n := i) (by omega)
    have hb2 := b2
    obtain ⟨b0, nb', ob', j1, j2, j3, j4⟩ := hb2
    rw [List.drop_eq_getElem_cons hi] at hb ⊢
    have hpv : prv P (i + 1) = some P.2.2.2[i] := by
      unfold prv
      rw [if_neg (by omega), show i + 1 - 1 = i by omega, List.getElem?_eq_getElem hi]
    rw [show ∀ o r t, cRows o (r :: t) = cHd o r ++ (r.2.2.1 ++ (rsS r ++ cRows (some r) t)) from fun _ _ _ => rfl, ← hpv, List.append_assoc (cHd (prv P i) P.2.2.2[i]), List.append_assoc P.2.2.2[i].2.2.1, List.append_assoc (rsS P.2.2.2[i])] at hb ⊢
    have oB : ∀ {M1 : hM}, pfr z M M1 → M1.1 b = some (.inr (7, [.int (nI P.2.2.2[i].1), .int P.2.2.2[i].2.1, .ref nb', va_rf ob', .long P.2.2.2[i].2.2.2.2.1, .long P.2.2.2[i].2.2.2.2.2.1, .int (bZ P.2.2.2[i].2.2.2.2.2.2), .int (u i)])) := fun g => (g.2 b (by omega) (by omega)).trans j1
    -- the name and the rest
    have tl : ∀ (M1 : hM) (L1 : List Int32), cPr z M1 L1 → pfr z M M1 → L1.length + (P.2.2.2[i].2.2.1 ++ (rsS P.2.2.2[i] ++ (cRows (prv P (i + 1)) (P.2.2.2.drop (i + 1)) ++ (cBr P (dsF P.2.2.1) ++ [59])))).length ≤ 4181 → EmP z M1 L1 (P.2.2.2[i].2.2.1 ++ (rsS P.2.2.2[i] ++ (cRows (prv P (i + 1)) (P.2.2.2.drop (i + 1)) ++ (cBr P (dsF P.2.2.1) ++ [59])))) ((b_nn (some b) (fun a1 => b_getR a1 7 2 (fun r2 => b_is (z + 8) 5 (b_call (f_Printer_putName N (z + 8) r2) (fun _ => b_is (z + 8) 5 (b_call (f_Printer_putRest N (z + 8) (some a1)) (fun _ => f_Printer_printPack_35 N (z + 8) (some a) fu (nI i + 1)))))))).1 M1) := by
      intro M1 L1 p1 g1 hb1
      rw [List.length_append, List.length_append] at hb1
      rw [r_nn]
      refine EmP.eq (r_getR (r := some nb') (oB g1) rfl) ?_
      refine EmP.seq p1 (s_putName hN b3.2.1 p1 (j2.f g1.d) (by omega)) (fun M2 p2 g2 => ?_)
      refine EmP.seq p2 (s_putRest hN b3 p2 (b2.f (g1.tr g2).d) (by rw [List.length_append]; omega)) (fun M3 p3 g3 => ?_)
      rw [nI_1]
      exact ih fu (i + 1) M3 _ (by omega) (by omega) p3 (hB'.f ((g1.tr g2).tr g3).d) (by rw [List.length_append, List.length_append]; omega)
    have t19 : sB.getD 19 [] = [32, 124, 32] := by decide +kernel
    have t20 : sB.getD 20 [] = [44, 32] := by decide +kernel
    have t21 : sB.getD 21 [] = [59, 32] := by decide +kernel
    -- a text row of its own
    have own : L.length + (([59, 32] ++ cBg P.2.2.2[i]) ++ (P.2.2.2[i].2.2.1 ++ (rsS P.2.2.2[i] ++ (cRows (prv P (i + 1)) (P.2.2.2.drop (i + 1)) ++ (cBr P (dsF P.2.2.1) ++ [59]))))).length ≤ 4181 → EmP z M L (([59, 32] ++ cBg P.2.2.2[i]) ++ (P.2.2.2[i].2.2.1 ++ (rsS P.2.2.2[i] ++ (cRows (prv P (i + 1)) (P.2.2.2.drop (i + 1)) ++ (cBr P (dsF P.2.2.1) ++ [59]))))) ((b_is (z + 8) 5 (b_call (f_Printer_putText N (z + 8) (some 21)) (fun _ => b_is (z + 8) 5 (b_call (f_Printer_putBeginning N (z + 8) (some b)) (fun _ => b_nn (some b) (fun a1 => b_getR a1 7 2 (fun r2 => b_is (z + 8) 5 (b_call (f_Printer_putName N (z + 8) r2) (fun _ => b_is (z + 8) 5 (b_call (f_Printer_putRest N (z + 8) (some a1)) (fun _ => f_Printer_printPack_35 N (z + 8) (some a) fu (nI i + 1))))))))))) : hX Unit).1 M) := by
      intro hb1
      rw [← t21, List.append_assoc] at hb1 ⊢
      rw [List.length_append, List.length_append] at hb1
      refine EmP.seq hp (s_putText hN (by decide) hp (by omega)) (fun M1 p1 g1 => ?_)
      refine EmP.seq p1 (s_putBeg hN b3 p1 (b2.f g1.d) (by rw [List.length_append]; omega)) (fun M2 p2 g2 => ?_)
      exact tl M2 _ p2 (g1.tr g2) (by rw [List.length_append, List.length_append]; omega)
    rw [e_Printer_printPack_35, r_let, r_let, r_let, r_nn]
    refine EmP.eq ((r_getR (r := some ra) h1 rfl).trans (r_nn.trans (r_len h7))) ?_
    dsimp only
    rw [r_if_f (show ¬ nI P.2.2.2.length ≤ nI i from nI_ge (by omega) (by omega))]
    refine EmP.eq ((r_getR (r := some ra) h1 rfl).trans (r_nn.trans (r_aldR h7 i1))) ?_
    rw [c1, b1]
    by_cases ci : i = 0
    · rw [show prv P i = none by unfold prv; rw [if_pos ci]] at hb ⊢
      rw [r_if_t (show nI i ≤ 0 by rw [ci]; decide)]
      exact own hb
    · rw [r_if_f (show ¬ nI i ≤ 0 from nI_ge (a := 0) (by omega) (by omega))]
      have hi' : i - 1 < P.2.2.2.length := by omega
      obtain ⟨bq, q1, q2, q3⟩ := h8 (i - 1) _ (List.getElem?_eq_getElem hi')
      have i0 : ¬ (nI (i - 1) < 0 ∨ P.2.2.2.length ≤ (nI (i - 1)).toNatClampNeg) := nI_in (by omega) (by omega)
      have c0 := nI_clamp (n := i - 1) (by omega)
      have em : nI i - 1 = nI (i - 1) := by
        obtain ⟨k, rfl⟩ : ∃ k, i = k + 1 := ⟨i - 1, by omega⟩
        rw [nI_pred]; rfl
      rw [show prv P i = some P.2.2.2[i - 1] by unfold prv; rw [if_neg ci, List.getElem?_eq_getElem hi']] at hb ⊢
      obtain ⟨fs, hcq⟩ := q2.cell
      rw [show ∀ q r, cHd (some q) r = if goS q r = true then (if r.1 = 8 then [32, 124, 32] else [44, 32]) else [59, 32] ++ cBg r from fun _ _ => rfl] at hb ⊢
      refine EmP.eq ((r_getR (r := some ra) h1 rfl).trans r_nn) ?_
      rw [em]
      refine EmP.eq (r_aldR h7 i0) ?_
      rw [c0, q1, r_nn]
      refine EmP.eq ((r_is hcq).trans r_callE) ?_
      rw [s_shares hN q3 b3 q2 b2, Option.bind_some]
      dsimp only
      cases hg : goS P.2.2.2[i - 1] P.2.2.2[i] with
      | false =>
        rw [hg, if_neg Bool.false_ne_true] at hb
        rw [r_if_t (show bZ false = 0 by decide), if_neg Bool.false_ne_true]
        exact own hb
      | true =>
        rw [hg, if_pos rfl] at hb
        rw [r_if_f (show ¬ bZ true = 0 by decide), if_pos rfl, r_nn]
        refine EmP.eq (r_getI j1 rfl) ?_
        by_cases c8 : P.2.2.2[i].1 = 8
        · rw [if_pos c8, ← t19, List.length_append] at hb
          rw [r_if_t (show nI P.2.2.2[i].1 = 8 by rw [c8]; rfl), if_pos c8, ← t19, r_nn]
          refine EmP.seq hp (s_putText hN (by decide) hp (by omega)) (fun M1 p1 g1 => ?_)
          exact tl M1 _ p1 g1 (by rw [List.length_append]; omega)
        · rw [if_neg c8, ← t20, List.length_append] at hb
          have hk := b3.1
          rw [r_if_f (show ¬ nI P.2.2.2[i].1 = 8 from fun z => c8 ((nI_eq (b := 8) (by omega) (by omega)).mp z)), if_neg c8, ← t20, r_nn]
          refine EmP.seq hp (s_putText hN (by decide) hp (by omega)) (fun M1 p1 g1 => ?_)
          exact tl M1 _ p1 g1 (by rw [List.length_append]; omega)
theorem s_printPack {pr : List Int32} (hN : 2001 ≤ N) (hP : wfP P) (hp : cPr z M pr) (hB : pkB (z + 43) M a P u) (hb : (cPs P).length ≤ 4181) : EmP z M [] (cPs P) ((f_Printer_printPack N (z + 8) (some a)).1 M) := by
  have hB' := hB
  obtain ⟨gr, h0, nb, fa, ra, gf, h1, h2, h3, h4, h5, h6, h7, h8, h9⟩ := hB
  obtain ⟨g1, g2, fp, g3, g4⟩ := hp
  have hl := hP.2.2.2.1
  have hP0 : cPr z (hm_up M (z + 8) (.inr (5, [.ref (z + 9), .int (nI 0)]))) [] := ⟨up_s, by decide, fp, (up_n (by omega)).trans g3, fun i c hc => (nil_get hc).elim⟩
  have pf : pfr z M (hm_up M (z + 8) (.inr (5, [.ref (z + 9), .int (nI 0)]))) := ⟨rfl, fun b n8 _ => up_n n8⟩
  have o : ∀ {M1 : hM}, pfr z M M1 → M1.1 a = some (.inr (3, [.ref nb, .long (lN P.2.1), .ref fa, .ref ra])) := fun g => (g.2 a (by omega) (by omega)).trans h1
  have main : EmP z (hm_up M (z + 8) (.inr (5, [.ref (z + 9), .int (nI 0)]))) [] (cPs P) ((b_is (z + 8) 5 (b_call (f_Printer_putText N (z + 8) (some 18)) (fun _ => b_nn (some a) (fun a53 => b_getR a53 3 0 (fun r54 => b_is (z + 8) 5 (b_call (f_Printer_putName N (z + 8) r54) (fun _ => b_is (z + 8) 5 (b_call (f_Printer_put N (z + 8) 32) (fun _ => b_getL a53 3 1 (fun v63 => b_is (z + 8) 5 (b_call (f_Printer_putVersion N (z + 8) v63) (fun _ => f_Printer_printPack_35 N (z + 8) (some a) N 0)))))))))))).1 (hm_up M (z + 8) (.inr (5, [.ref (z + 9), .int (nI 0)])))) := by
    unfold cPs at hb ⊢
    rw [List.length_append, List.length_append, List.length_append, List.length_append] at hb
    have e1 : ([32] : List Int32).length = 1 := rfl
    have e0 : ([] : List Int32).length = 0 := rfl
    refine EmP.seq hP0 (s_putText hN (by decide) hP0 (by omega)) (fun M1 p1 k1 => ?_)
    rw [r_nn]
    refine EmP.eq (r_getR (r := some nb) (o (pf.tr k1)) rfl) ?_
    refine EmP.seq p1 (s_putName hN hP.1 p1 (h2.f (pf.tr k1).d) (by rw [List.length_append]; omega)) (fun M2 p2 k2 => ?_)
    refine EmP.seq p2 (s_put (nar_ch (sml_nI (j := 32) (by decide))) p2 (by rw [List.length_append, List.length_append]; omega)) (fun M3 p3 k3 => ?_)
    refine EmP.eq (r_getL (o (((pf.tr k1).tr k2).tr k3)) rfl) ?_
    refine EmP.seq p3 (s_putVersion hN hP.2.2.2.2.2 p3 (by rw [List.length_append, List.length_append, List.length_append]; omega)) (fun M4 p4 k4 => ?_)
    have := s_prows (N := N) (u := u) (a := a) hN hP P.2.2.2.length N 0 M4 _ (by omega) (by omega) p4 (hB'.f ((((pf.tr k1).tr k2).tr k3).tr k4).d) (by rw [List.drop_zero, show prv P 0 = none from rfl, List.length_append, List.length_append, List.length_append, List.length_append]; omega)
    rw [List.drop_zero, show prv P 0 = none from rfl] at this
    exact this
  obtain ⟨M1, x1, x2, x3⟩ := main
  refine ⟨M1, ?_, x2, pf.tr x3⟩
  rw [e_Printer_printPack]
  exact (r_put g1 (Nat.le_of_ble_eq_true rfl)).trans x1
end CPRQ
