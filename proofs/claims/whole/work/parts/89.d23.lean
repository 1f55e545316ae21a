/-! LAYER 2: the class prints a package -/
def hasNm (P : aPk) (w : List Int32) : Bool := P.2.2.2.any (fun r => r.1 == 9 && cmpN r.2.2.2.1 w == 0)
def cHd (o : Option aR) (r : aR) : List Int32 := match o with
  | none => [59, 32] ++ cBg r
  | some q => if goS q r = true then (if r.1 = 8 then [32, 124, 32] else [44, 32]) else [59, 32] ++ cBg r
def cRows : Option aR → List aR → List Int32
  | _, [] => []
  | o, r :: t => cHd o r ++ (r.2.2.1 ++ (rsS r ++ cRows (some r) t))
def cBr (P : aPk) : List (List Int32) → List Int32
  | [] => []
  | w :: t => (if hasNm P w = true then [] else sB.getD 26 [] ++ (w ++ [58])) ++ cBr P t
def cPs (P : aPk) : List Int32 := sB.getD 18 [] ++ (P.1 ++ ([32] ++ (verS P.2.1 ++ (cRows none P.2.2.2 ++ (cBr P (dsF P.2.2.1) ++ [59])))))
section CPRP
variable {N z : Nat} {M M' M'' : hM} {L l l' : List Int32} {P : aPk} {a : Nat} {u : Nat → Int32}
theorem s_ofF {D b c : Nat} {r : aR} {w : List Int32} {y : Int32} (hN : 2001 ≤ N) (hw : wfA r) (ww : wfN w) (hA : rwA D M b r y) (hc : nmA D M c w) : (f_Row_isOfFeature N b (some c)).1 M = some (bZ (r.1 == 9 && cmpN r.2.2.2.1 w == 0), M) := by
  obtain ⟨_, nb, ob, k1, k2, k3, k4⟩ := hA
  have hk := hw.1
  rw [e_Row_isOfFeature, r_let, r_let]
  refine (r_getI k1 rfl).trans ?_
  by_cases c9 : r.1 = 9
  · rw [r_if_t (show nI r.1 = 9 by rw [c9]; rfl), show (r.1 == 9) = true by rw [c9]; rfl, Bool.true_and]
    have hne := hw.2.2.2.2.1.mp (Or.inl c9)
    obtain ⟨d, ed, hd⟩ := k4 hne
    have nmc : ∃ fs, M.1 d = some (.inr (2, fs)) := by obtain ⟨_, _, _, _, _, q, _⟩ := hd; exact ⟨_, q⟩
    obtain ⟨fs, nmc⟩ := nmc
    refine (r_getR (r := ob) k1 rfl).trans ?_
    rw [r_if_f (show ¬ ob = none from fun z => by rw [ed] at z; cases z)]
    refine (r_getR (r := ob) k1 rfl).trans ?_
    rw [ed, r_nn]
    refine (r_is nmc).trans (r_callE.trans ?_)
    rw [s_foldsLike hN hw.2.2.2.1 ww hd hc, Option.bind_some]
    dsimp only
    cases (cmpN r.2.2.2.1 w == 0) with
    | true => rw [r_if_f (show ¬ bZ true = 0 by decide)]; exact rZ1
    | false => rw [r_if_t (show bZ false = 0 by decide)]; exact rZ0
  · rw [r_if_f (show ¬ nI r.1 = 9 from fun z => c9 ((nI_eq (b := 9) (by omega) (by omega)).mp z)), show (r.1 == 9) = false by simpa using c9, Bool.false_and]; exact rZ0
theorem s_hasNm {c : Nat} {w : List Int32} (hN : 2001 ≤ N) (hP : wfP P) (h : pkB (z + 43) M a P u) (hw : wfN w) (hc : nmA (z + 43) M c w) : ∀ (d fu i : Nat), d + i = P.2.2.2.length → d < fu → (f_Pack_hasNamesOf_2 N a (some c) fu (nI i)).1 M = some (bZ ((P.2.2.2.drop i).any (fun r => r.1 == 9 && cmpN r.2.2.2.1 w == 0)), M) := by
  obtain ⟨gr, h0, nb, fa, ra, gf, h1, h2, h3, h4, h5, h6, h7, h8, _⟩ := h
  have hl2 := hP.2.2.2.1
  intro d
  induction d with
  | zero =>
    intro fu i g1 g2
    obtain ⟨fu, rfl⟩ : ∃ g, fu = g + 1 := ⟨fu - 1, by omega⟩
    rw [e_Pack_hasNamesOf_2, List.drop_eq_nil_of_le (by omega)]
    refine (r_getR (r := some ra) h1 rfl).trans (r_nn.trans ((r_len h7).trans ?_))
    dsimp only
    rw [r_if_t (show nI P.2.2.2.length ≤ nI i from nI_le (by omega) (by omega))]
    exact rZ0
  | succ d ih =>
    intro fu i g1 g2
    obtain ⟨fu, rfl⟩ : ∃ g, fu = g + 1 := ⟨fu - 1, by omega⟩
    have hi : i < P.2.2.2.length := by omega
    obtain ⟨b, b1, b2, b3⟩ := h8 i _ (List.getElem?_eq_getElem hi)
    obtain ⟨fs, hcell⟩ := b2.cell
    have i1 : ¬ (nI i < 0 ∨ P.2.2.2.length ≤ (nI i).toNatClampNeg) := nI_in (by omega) (by omega)
    have c1 := nI_clamp (n := i) (by omega)
    have hf := s_ofF (N := N) hN b3 hw b2 hc
    rw [e_Pack_hasNamesOf_2, List.drop_eq_getElem_cons hi, List.any_cons]
    refine (r_getR (r := some ra) h1 rfl).trans (r_nn.trans ((r_len h7).trans ?_))
    dsimp only
    rw [r_if_f (show ¬ nI P.2.2.2.length ≤ nI i from nI_ge (by omega) (by omega))]
    refine (r_getR (r := some ra) h1 rfl).trans (r_nn.trans ((r_aldR h7 i1).trans ?_))
    rw [c1, b1, r_nn]
    refine (r_is hcell).trans (r_callE.trans ?_)
    rw [hf, Option.bind_some]
    dsimp only
    cases (P.2.2.2[i].1 == 9 && cmpN P.2.2.2[i].2.2.2.1 w == 0) with
    | true => rw [r_if_f (show ¬ bZ true = 0 by decide), Bool.true_or]; exact rZ1
    | false => rw [r_if_t (show bZ false = 0 by decide), Bool.false_or, nI_1]; exact ih fu (i + 1) (by omega) (by omega)
theorem s_shares {b b' : Nat} {q r : aR} {y y' : Int32} (hN : 2001 ≤ N) (wq : wfA q) (wr : wfA r) (hq : rwA (z + 43) M b q y) (hr : rwA (z + 43) M b' r y') : (f_Row_sharesTextRow N b (some b')).1 M = some (bZ (goS q r), M) := by
  have hr' := hr
  obtain ⟨_, nb, ob, k1, k2, k3, k4⟩ := hq
  obtain ⟨_, nb', ob', j1, j2, j3, j4⟩ := hr
  have hk := wq.1
  have hk' := wr.1
  rw [e_Row_sharesTextRow, r_let, r_let, r_let, r_let]
  refine (r_getI k1 rfl).trans (r_nn.trans ((r_getI j1 rfl).trans ?_))
  unfold goS
  by_cases c : q.1 = r.1
  · rw [r_if_t (by rw [c]), show (q.1 == r.1) = true by rw [beq_iff_eq]; exact c, Bool.true_and]
    refine (r_getI k1 rfl).trans ?_
    by_cases c8 : r.1 = 8
    · rw [r_if_t (show nI q.1 = 8 by rw [c, c8]; rfl), if_neg (by omega), if_pos c8]
      refine (r_getI k1 rfl).trans ((r_getI j1 rfl).trans ?_)
      by_cases cs : q.2.1 = r.2.1
      · rw [r_if_t cs, show (r.2.1 == q.2.1) = true by rw [beq_iff_eq]; exact cs.symm]; exact rZ1
      · rw [r_if_f cs, show (r.2.1 == q.2.1) = false by rw [beq_eq_false_iff_ne]; exact fun z => cs z.symm]; exact rZ0
    · rw [r_if_f (show ¬ nI q.1 = 8 from fun z => c8 (by have := (nI_eq (b := 8) (by omega) (by omega)).mp z; omega))]
      refine (r_getI k1 rfl).trans (r_callE.trans ?_)
      rw [s_isList hk, Option.bind_some]
      dsimp only
      by_cases cl : 9 < q.1 ∧ q.1 < 14
      · rw [decide_eq_true cl, r_if_f (show ¬ bZ true = 0 by decide), if_neg (by omega), if_neg c8, decide_eq_true (show 9 < r.1 ∧ r.1 < 14 by omega)]; exact rZ1
      · rw [decide_eq_false cl, r_if_t (show bZ false = 0 by decide)]
        refine (r_getR (r := ob) k1 rfl).trans ?_
        by_cases co : q.2.2.2.1 = []
        · rw [r_if_t (k3 co)]
          have n9 : ¬ r.1 = 9 := fun z => wq.2.2.2.2.1.mp (Or.inl (by omega)) co
          rw [if_neg n9, if_neg c8, decide_eq_false (show ¬ (9 < r.1 ∧ r.1 < 14) by omega)]; exact rZ0
        · obtain ⟨d, ed, hd⟩ := k4 co
          rw [r_if_f (show ¬ ob = none from fun z => by rw [ed] at z; cases z)]
          refine (r_getR (r := ob) k1 rfl).trans ?_
          rw [ed]
          refine (r_is j1).trans (r_callE.trans ?_)
          rw [s_ofF hN wr wq.2.2.2.1 hr' hd, Option.bind_some]
          dsimp only
          by_cases c9 : r.1 = 9
          · rw [if_pos c9, show (r.1 == 9) = true by rw [c9]; rfl, Bool.true_and]
            cases (cmpN r.2.2.2.1 q.2.2.2.1 == 0) with
            | true => rw [r_if_f (show ¬ bZ true = 0 by decide)]; exact rZ1
            | false => rw [r_if_t (show bZ false = 0 by decide)]; exact rZ0
          · rw [show (r.1 == 9) = false by simpa using c9, Bool.false_and, r_if_t (show bZ false = 0 by decide), if_neg c9, if_neg c8, decide_eq_false (show ¬ (9 < r.1 ∧ r.1 < 14) by omega)]; exact rZ0
  · rw [r_if_f (fun z => c ((nI_eq (by omega) (by omega)).mp z)), show (q.1 == r.1) = false by simpa using c, Bool.false_and]; exact rZ0
theorem s_bare (hN : 2001 ≤ N) (hP : wfP P) : ∀ (d fu i : Nat) (M : hM) (L : List Int32), d + i = (dsF P.2.2.1).length → d < fu → cPr z M L → pkB (z + 43) M a P u → L.length + (cBr P ((dsF P.2.2.1).drop i)).length ≤ 4181 → EmP z M L (cBr P ((dsF P.2.2.1).drop i)) ((f_Printer_putBareFeatures_2 N (z + 8) (some a) fu (nI i)).1 M) := by
  have hl := Nat.le_trans (dsF_len (fs := P.2.2.1)) hP.2.2.1
  intro d
  induction d with
  | zero =>
    intro fu i M L k1 k2 hp hB hb
    obtain ⟨fu, rfl⟩ : ∃ g, fu = g + 1 := ⟨fu - 1, by omega⟩
    obtain ⟨gr, h0, nb, fa, ra, gf, h1, h2, h3, h4, _⟩ := hB
    rw [List.drop_eq_nil_of_le (by omega), e_Printer_putBareFeatures_2, r_let, r_nn]
    refine EmP.eq ((r_getR (r := some fa) h1 rfl).trans (r_nn.trans (r_len h4))) ?_
    dsimp only
    rw [r_if_t (show nI (dsF P.2.2.1).length ≤ nI i from nI_le (by omega) (by omega))]
    exact EmP.ret hp
  | succ d ih =>
    intro fu i M L k1 k2 hp hB hb
    obtain ⟨fu, rfl⟩ : ∃ g, fu = g + 1 := ⟨fu - 1, by omega⟩
    have hB' := hB
    obtain ⟨gr, h0, nb, fa, ra, gf, h1, h2, h3, h4, h5, h6, h7, h8, h9⟩ := hB
    have hi : i < (dsF P.2.2.1).length := by omega
    obtain ⟨c, e1, e2, e3⟩ := h5 i _ (List.getElem?_eq_getElem hi)
    have i1 : ¬ (nI i < 0 ∨ (dsF P.2.2.1).length ≤ (nI i).toNatClampNeg) := nI_in (by omega) (by omega)
    have c1 := nI_clamp (n := i) (by omega)
    have hl2 := hP.2.2.2.1
    have hF := s_hasNm (N := N) hN hP hB' e3 e2 P.2.2.2.length N 0 (by omega) (by omega)
    rw [List.drop_zero] at hF
    rw [List.drop_eq_getElem_cons hi] at hb ⊢
    rw [show ∀ w t, cBr P (w :: t) = (if hasNm P w = true then [] else sB.getD 26 [] ++ (w ++ [58])) ++ cBr P t from fun _ _ => rfl] at hb ⊢
    rw [List.length_append] at hb
    rw [e_Printer_putBareFeatures_2, r_let, r_nn]
    refine EmP.eq ((r_getR (r := some fa) h1 rfl).trans (r_nn.trans (r_len h4))) ?_
    dsimp only
    rw [r_if_f (show ¬ nI (dsF P.2.2.1).length ≤ nI i from nI_ge (by omega) (by omega))]
    refine EmP.eq ((r_getR (r := some fa) h1 rfl).trans (r_nn.trans (r_aldR h4 i1))) ?_
    rw [c1, e1]
    refine EmP.eq ((r_is h1).trans r_callE) ?_
    rw [e_Pack_hasNamesOf, show (f_Pack_hasNamesOf_2 N a (some c) N 0).1 M = some (bZ (hasNm P (dsF P.2.2.1)[i]), M) from hF, Option.bind_some]
    dsimp only
    cases hh : hasNm P (dsF P.2.2.1)[i] with
    | true =>
      rw [hh, if_pos rfl] at hb
      rw [r_if_f (show ¬ bZ true = 0 by decide), if_pos rfl, List.nil_append, nI_1]
      have e0 : ([] : List Int32).length = 0 := rfl
      exact ih fu (i + 1) M L (by omega) (by omega) hp hB' (by omega)
    | false =>
      rw [hh, if_neg Bool.false_ne_true, List.length_append, List.length_append] at hb
      rw [r_if_t (show bZ false = 0 by decide), if_neg Bool.false_ne_true, List.append_assoc (sB.getD 26 []), List.append_assoc (dsF P.2.2.1)[i]]
      have o : ∀ {M1 : hM}, pfr z M M1 → M1.1 a = some (.inr (3, [.ref nb, .long (lN P.2.1), .ref fa, .ref ra])) := fun g => (g.2 a (by omega) (by omega)).trans h1
      have oF : ∀ {M1 : hM}, pfr z M M1 → M1.1 fa = some (.inl (3, (dsF P.2.2.1).length, .inr (.inr (.inr (.inr gf))))) := fun g => by
        have q : z + 43 ≤ (fa : Nat) := h3.1
        exact (g.2 fa (Nat.ne_of_gt (by omega)) (Nat.ne_of_gt (by omega))).trans h4
      have e1' : ([58] : List Int32).length = 1 := rfl
      refine EmP.seq hp (s_putText hN (by decide) hp (by omega)) (fun M1 p1 g1 => ?_)
      refine EmP.eq ((r_getR (r := some fa) (o g1) rfl).trans (r_nn.trans (r_aldR (oF g1) i1))) ?_
      rw [c1, e1]
      refine EmP.seq p1 (s_putName hN e3 p1 (e2.f g1.d) (by rw [List.length_append]; omega)) (fun M2 p2 g2 => ?_)
      refine EmP.seq p2 (s_put (nar_ch (sml_nI (j := 58) (by decide))) p2 (by rw [List.length_append, List.length_append]; omega)) (fun M3 p3 g3 => ?_)
      rw [nI_1]
      exact ih fu (i + 1) M3 _ (by omega) (by omega) p3 (hB'.f ((g1.tr g2).tr g3).d) (by rw [List.length_append, List.length_append, List.length_append]; show _ + _ + _ + 1 + _ ≤ _; omega)
end CPRP
