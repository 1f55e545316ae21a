/-! LAYER 2: the class prints a row -/
def cRg (lo hi : Nat) : List Int32 := if lo = 0 ∧ hi = 1000000000000000000 then [42] else if hi = lo + 1 then [61, 32] ++ verS lo else if lo = 0 then (if hi = 1000000000000000000 then [] else [60, 32] ++ verS hi) else ([62, 61, 32] ++ (verS lo ++ (if hi = 1000000000000000000 then [] else [32] ++ ([60, 32] ++ verS hi))))
def cRs (r : aR) : List Int32 := rsS r
def cBg (r : aR) : List Int32 := sB.getD (ktx (if r.1 < 5 then 0 else r.1 - 4)) [] ++ ([32] ++ ((if r.1 < 5 then sB.getD (ntx r.1) [] ++ [32] else []) ++ (if r.1 = 9 then r.2.2.2.1 ++ [58, 32] else [])))
section CPRW
variable {N z : Nat} {M M' M'' : hM} {L l l' : List Int32}
theorem cRg_e {lo hi : Nat} : [32] ++ cRg lo hi = rngS lo hi := by
  unfold cRg rngS bdS
  by_cases c1 : lo = 0 ∧ hi = 1000000000000000000
  · rw [if_pos c1, if_pos c1]; rfl
  · rw [if_neg c1, if_neg c1]
    by_cases c2 : hi = lo + 1
    · rw [if_pos c2, if_pos c2, if_pos rfl]; rfl
    · rw [if_neg c2, if_neg c2]
      by_cases c3 : lo = 0
      · rw [if_pos c3, if_pos c3]
        by_cases c4 : hi = 1000000000000000000
        · exact absurd ⟨c3, c4⟩ c1
        · rw [if_neg c4, if_neg c4, if_pos rfl]; rfl
      · rw [if_neg c3, if_neg c3, if_neg (show ¬ (61 : Int32) = 0 by decide)]
        by_cases c4 : hi = 1000000000000000000
        · rw [if_pos c4, if_pos c4, List.append_nil, List.append_nil]; rfl
        · rw [if_neg c4, if_neg c4, if_pos rfl]
          simp only [List.append_assoc, List.cons_append, List.nil_append]
theorem s_putRange {lo hi : Nat} (hN : 2001 ≤ N) (h1 : lo < 10 ^ 18) (h2 : hi ≤ 10 ^ 18) (hP : cPr z M L) (hb : L.length + (cRg lo hi).length ≤ 4181) : EmP z M L (cRg lo hi) ((f_Printer_putRange N (z + 8) (lN lo) (lN hi)).1 M) := by
  have p : (10 : Nat) ^ 18 = 1000000000000000000 := by decide
  have z1 : lg_cmp (lN lo) 0 = 0 ↔ lo = 0 := by
    rw [lg_eq]
    exact ⟨fun h => lN_inj (by omega) (by omega) h, fun h => by rw [h]; rfl⟩
  have z2 : lg_cmp (lN hi) 1000000000000000000 = 0 ↔ hi = 1000000000000000000 := by
    rw [lg_eq]
    exact ⟨fun h => lN_inj (b := 1000000000000000000) (by omega) (by omega) h, fun h => by rw [h]; rfl⟩
  have z3 : lg_cmp (lN hi - lN lo) 1 = 0 ↔ hi = lo + 1 := by
    rw [lg_eq]
    constructor
    · intro h
      have : lN hi = lN lo + 1 := by rw [← h, Int64.add_comm, Int64.sub_add_cancel]
      rw [lN_1] at this
      exact lN_inj (by omega) (by omega) this
    · intro h
      rw [h, ← lN_1, Int64.add_comm, Int64.add_sub_cancel]
  have t23 : sB.getD 23 [] = [61, 32] := by decide +kernel
  have t24 : sB.getD 24 [] = [62, 61, 32] := by decide +kernel
  have t25 : sB.getD 25 [] = [60, 32] := by decide +kernel
  rw [e_Printer_putRange, r_let]
  unfold cRg at hb ⊢
  -- the end
  have J82 : ∀ (M : hM) (L : List Int32), cPr z M L → L.length + (if hi = 1000000000000000000 then ([] : List Int32) else [60, 32] ++ verS hi).length ≤ 4181 → EmP z M L (if hi = 1000000000000000000 then [] else [60, 32] ++ verS hi) ((if (lg_cmp (lN hi) 1000000000000000000) = 0 then b_ret () else b_is (z + 8) 5 (b_call (f_Printer_putText N (z + 8) (some 25)) (fun _ => b_is (z + 8) 5 (b_call (f_Printer_putVersion N (z + 8) (lN hi)) (fun _ => b_ret ()))))).1 M) := by
    intro M L hP hb
    by_cases c : hi = 1000000000000000000
    · rw [if_pos c, r_if_t (z2.mpr c)]; exact EmP.ret hP
    · rw [if_neg c, List.length_append] at hb
      rw [if_neg c, r_if_f (fun z => c (z2.mp z)), ← t25]
      have e2 : ([60, 32] : List Int32).length = 2 := rfl
      refine EmP.seq hP (s_putText hN (by decide) hP (by rw [t25]; omega)) (fun M1 p1 _ => EmP.one p1 (s_putVersion hN (by omega) p1 ?_))
      rw [List.length_append, t25]; omega
  by_cases c1 : lo = 0
  · rw [r_if_t (z1.mpr c1)]
    by_cases c2 : hi = 1000000000000000000
    · rw [if_pos ⟨c1, c2⟩] at hb
      rw [r_if_t (z2.mpr c2), if_pos ⟨c1, c2⟩]
      have e1 : ([42] : List Int32).length = 1 := rfl
      exact EmP.one hP (s_put (nar_ch (sml_nI (j := 42) (by decide))) hP (by omega))
    · rw [r_if_f (fun z => c2 (z2.mp z)), if_neg (fun z => c2 z.2), r_let]
      rw [if_neg (fun z => c2 z.2)] at hb
      by_cases c3 : hi = lo + 1
      · rw [if_pos c3, List.length_append] at hb
        rw [if_pos c3, r_if_t (z3.mpr c3), ← t23]
        have e2 : ([61, 32] : List Int32).length = 2 := rfl
        refine EmP.seq hP (s_putText hN (by decide) hP (by rw [t23]; omega)) (fun M1 p1 _ => EmP.one p1 (s_putVersion hN (by omega) p1 ?_))
        rw [List.length_append, t23]; omega
      · rw [if_neg c3, if_pos c1] at hb
        rw [if_neg c3, if_pos c1, r_if_f (fun z => c3 (z3.mp z)), r_if_t (z1.mpr c1), r_let, r_if_t (z1.mpr c1)]
        exact J82 M L hP hb
  · rw [r_if_f (fun z => c1 (z1.mp z)), if_neg (fun z => c1 z.1), r_let]
    rw [if_neg (fun z => c1 z.1)] at hb
    by_cases c3 : hi = lo + 1
    · rw [if_pos c3, List.length_append] at hb
      rw [if_pos c3, r_if_t (z3.mpr c3), ← t23]
      have e2 : ([61, 32] : List Int32).length = 2 := rfl
      refine EmP.seq hP (s_putText hN (by decide) hP (by rw [t23]; omega)) (fun M1 p1 _ => EmP.one p1 (s_putVersion hN (by omega) p1 ?_))
      rw [List.length_append, t23]; omega
    · rw [if_neg c3, if_neg c1, List.length_append, List.length_append] at hb
      rw [if_neg c3, if_neg c1, r_if_f (fun z => c3 (z3.mp z)), r_if_f (fun z => c1 (z1.mp z)), ← t24]
      have e3 : ([62, 61, 32] : List Int32).length = 3 := rfl
      refine EmP.seq hP (s_putText hN (by decide) hP (by rw [t24]; omega)) (fun M1 p1 _ => EmP.seq p1 (s_putVersion hN (by omega) p1 ?_) (fun M2 p2 _ => ?_))
      · rw [List.length_append, t24]; omega
      · rw [r_let, r_if_f (fun z => c1 (z1.mp z))]
        by_cases c4 : hi = 1000000000000000000
        · rw [if_pos c4, r_if_t (z2.mpr c4)]
          have := J82 M2 _ p2 (by rw [if_pos c4, List.length_append, List.length_append, t24]; rw [if_pos c4] at hb; omega)
          rw [if_pos c4] at this
          exact this
        · rw [if_neg c4] at hb
          rw [if_neg c4, r_if_f (fun z => c4 (z2.mp z))]
          rw [List.length_append, List.length_append] at hb
          have e1 : ([32] : List Int32).length = 1 := rfl
          have e2 : ([60, 32] : List Int32).length = 2 := rfl
          refine EmP.seq p2 (s_put (nar_ch (sml_nI (j := 32) (by decide))) p2 (by rw [List.length_append, List.length_append, t24]; omega)) (fun M3 p3 _ => ?_)
          have := J82 M3 _ p3 (by rw [if_neg c4, List.length_append, List.length_append, List.length_append, List.length_append, t24]; show _ + 1 + _ ≤ _; omega)
          rw [if_neg c4] at this
          exact this
theorem s_putRest {b : Nat} {r : aR} {u : Int32} (hN : 2001 ≤ N) (hw : wfA r) (hP : cPr z M L) (hA : rwA (z + 43) M b r u) (hb : L.length + (rsS r).length ≤ 4181) : EmP z M L (rsS r) ((f_Printer_putRest N (z + 8) (some b)).1 M) := by
  have p : (10 : Nat) ^ 18 = 1000000000000000000 := by decide
  obtain ⟨_, nb, ob, k1, k2, k3, k4⟩ := hA
  have hk := hw.1
  have hr := hw.2.2.2.2.2.2.2
  have eq : ∀ m : Nat, m < 2 ^ 31 → (nI r.1 = nI m ↔ r.1 = m) := fun m hm => nI_eq (by omega) hm
  have o : ∀ {M1 : hM}, pfr z M M1 → M1.1 b = some (.inr (7, [.int (nI r.1), .int r.2.1, .ref nb, va_rf ob, .long r.2.2.2.2.1, .long r.2.2.2.2.2.1, .int (bZ r.2.2.2.2.2.2), .int u])) := fun g => (g.2 b (by omega) (by omega)).trans k1
  have e1 : ([32] : List Int32).length = 1 := rfl
  have sp : ∀ (M : hM) (L : List Int32), cPr z M L → L.length < 4181 → EmP z M L [32] ((f_Printer_put N (z + 8) 32).1 M) := fun M L hP hl => s_put (nar_ch (sml_nI (j := 32) (by decide))) hP hl
  rw [e_Printer_putRest, r_let, r_nn]
  refine EmP.eq ((r_getI k1 rfl).trans r_callE) ?_
  rw [s_hasRange hk, Option.bind_some]
  dsimp only
  unfold rsS at hb ⊢
  by_cases c1 : r.1 < 7 ∨ r.1 = 8
  · rw [decide_eq_true c1, r_if_f (show ¬ bZ true = 0 by decide)]
    rw [if_pos c1] at hb ⊢
    obtain ⟨lo, hi, q1, q2, q3⟩ := hr.1 c1
    rw [q1, q2, lnN_l (by omega), lnN_l (by omega), ← cRg_e] at hb ⊢
    rw [List.length_append] at hb
    refine EmP.seq hP (sp M L hP (by omega)) (fun M1 p1 g1 => ?_)
    refine EmP.eq ((r_getL (o g1) rfl).trans (r_getL (o g1) rfl)) ?_
    rw [q1, q2]
    exact EmP.one p1 (s_putRange hN (by omega) (by omega) p1 (by rw [List.length_append]; omega))
  · rw [decide_eq_false c1, r_if_t (show bZ false = 0 by decide)]
    rw [if_neg c1] at hb ⊢
    refine EmP.eq (r_getI k1 rfl) ?_
    by_cases c7 : r.1 = 7
    · rw [r_if_t (show nI r.1 = 7 by rw [c7]; rfl)]
      rw [if_pos c7] at hb ⊢
      obtain ⟨v, q0, q1, q2⟩ := hr.2.1 c7
      rw [q1, lnN_l (by omega)] at hb ⊢
      rw [List.length_append] at hb
      refine EmP.seq hP (sp M L hP (by omega)) (fun M1 p1 g1 => ?_)
      refine EmP.eq (r_getL (o g1) rfl) ?_
      rw [q1]
      exact EmP.one p1 (s_putVersion hN (by omega) p1 (by rw [List.length_append]; omega))
    · rw [r_if_f (show ¬ nI r.1 = 7 from fun z => c7 ((eq 7 (by omega)).mp z))]
      rw [if_neg c7] at hb ⊢
      refine EmP.eq (r_getI k1 rfl) ?_
      by_cases c14 : r.1 = 14
      · rw [r_if_t (show nI r.1 = 14 by rw [c14]; rfl)]
        rw [if_pos c14] at hb ⊢
        have hne := hw.2.2.2.2.1.mp (Or.inr c14)
        obtain ⟨c, ec, hc⟩ := k4 hne
        refine EmP.eq (r_getR (r := ob) k1 rfl) ?_
        rw [r_if_f (show ¬ ob = none from fun z => by rw [ec] at z; cases z)]
        rw [List.length_append] at hb
        refine EmP.seq hP (sp M L hP (by omega)) (fun M1 p1 g1 => ?_)
        refine EmP.eq (r_getR (r := ob) (o g1) rfl) ?_
        rw [ec]
        exact EmP.one p1 (s_putName hN hw.2.2.2.1 p1 (hc.f g1.d) (by rw [List.length_append]; omega))
      · rw [r_if_f (show ¬ nI r.1 = 14 from fun z => c14 ((eq 14 (by omega)).mp z)), r_nn]
        rw [if_neg c14] at hb ⊢
        refine EmP.eq (r_getI k1 rfl) ?_
        by_cases c15 : r.1 = 15
        · rw [r_if_t (show nI r.1 = 15 by rw [c15]; rfl)]
          rw [if_pos c15] at hb ⊢
          obtain ⟨v, q0, q1, q2⟩ := hr.2.2.1 c15
          rw [q1, lnN_l (by omega)] at hb ⊢
          rw [List.length_append] at hb
          refine EmP.seq hP (sp M L hP (by omega)) (fun M1 p1 g1 => ?_)
          refine EmP.eq (r_getL (o g1) rfl) ?_
          rw [q1]
          exact EmP.one p1 (s_putNumber hN (by omega) p1 (by rw [List.length_append]; omega))
        · rw [r_if_f (show ¬ nI r.1 = 15 from fun z => c15 ((eq 15 (by omega)).mp z)), if_neg c15]
          exact EmP.ret hP
theorem s_putBeg {b : Nat} {r : aR} {u : Int32} (hN : 2001 ≤ N) (hw : wfA r) (hP : cPr z M L) (hA : rwA (z + 43) M b r u) (hb : L.length + (cBg r).length ≤ 4181) : EmP z M L (cBg r) ((f_Printer_putBeginning N (z + 8) (some b)).1 M) := by
  obtain ⟨_, nb, ob, k1, k2, k3, k4⟩ := hA
  have hk := hw.1
  have eq : ∀ m : Nat, m < 2 ^ 31 → (nI r.1 = nI m ↔ r.1 = m) := fun m hm => nI_eq (by omega) hm
  have o : ∀ {M1 : hM}, pfr z M M1 → M1.1 b = some (.inr (7, [.int (nI r.1), .int r.2.1, .ref nb, va_rf ob, .long r.2.2.2.2.1, .long r.2.2.2.2.2.1, .int (bZ r.2.2.2.2.2.2), .int u])) := fun g => (g.2 b (by omega) (by omega)).trans k1
  have e1 : ([32] : List Int32).length = 1 := rfl
  have sp : ∀ (M : hM) (L : List Int32), cPr z M L → L.length < 4181 → EmP z M L [32] ((f_Printer_put N (z + 8) 32).1 M) := fun M L hP hl => s_put (nar_ch (sml_nI (j := 32) (by decide))) hP hl
  have t22 : sB.getD 22 [] = [58, 32] := by decide +kernel
  have e2 : ([58, 32] : List Int32).length = 2 := rfl
  -- the feature's name
  have J44 : ∀ (M1 : hM) (L1 : List Int32), cPr z M1 L1 → pfr z M M1 → L1.length + (if r.1 = 9 then r.2.2.2.1 ++ [58, 32] else []).length ≤ 4181 → EmP z M1 L1 (if r.1 = 9 then r.2.2.2.1 ++ [58, 32] else []) ((b_nn (some b) (fun a1 => b_getI a1 7 0 (fun v2 => (if v2 = 9 then b_getR a1 7 3 (fun r3 => (if r3 = none then b_ret () else b_getR a1 7 3 (fun r4 => b_is (z + 8) 5 (b_call (f_Printer_putName N (z + 8) r4) (fun _ => b_is (z + 8) 5 (b_call (f_Printer_putText N (z + 8) (some 22)) (fun _ => b_ret ()))))))) else b_ret ())))).1 M1) := by
    intro M1 L1 p1 g1 hb1
    rw [r_nn]
    refine EmP.eq (r_getI (o g1) rfl) ?_
    by_cases c9 : r.1 = 9
    · rw [r_if_t (show nI r.1 = 9 by rw [c9]; rfl)]
      rw [if_pos c9] at hb1 ⊢
      rw [List.length_append] at hb1
      have hne := hw.2.2.2.2.1.mp (Or.inl c9)
      obtain ⟨c, ec, hc⟩ := k4 hne
      refine EmP.eq (r_getR (r := ob) (o g1) rfl) ?_
      rw [r_if_f (show ¬ ob = none from fun z => by rw [ec] at z; cases z)]
      refine EmP.eq (r_getR (r := ob) (o g1) rfl) ?_
      rw [ec]
      refine EmP.seq p1 (s_putName hN hw.2.2.2.1 p1 (hc.f g1.d) (by omega)) (fun M2 p2 _ => ?_)
      rw [← t22]
      exact EmP.one p2 (s_putText hN (by decide) p2 (by rw [List.length_append, t22]; omega))
    · rw [r_if_f (show ¬ nI r.1 = 9 from fun z => c9 ((eq 9 (by omega)).mp z)), if_neg c9]
      exact EmP.ret p1
  have fw : (f_Kind_firstWord N (nI r.1)).1 M = some (some (ktx (if r.1 < 5 then 0 else r.1 - 4)), M) := by
    by_cases c : r.1 < 5
    · rw [if_pos c, e_Kind_firstWord]
      have hc : r.1 = 0 ∨ r.1 = 1 ∨ r.1 = 2 ∨ r.1 = 3 ∨ r.1 = 4 := by omega
      rcases hc with e | e | e | e | e <;> rw [e] <;> rfl
    · rw [if_neg c]
      have := s_firstWord (N := N) (M := M) (i := r.1 - 4) (by omega)
      rw [show r.1 - 4 + 4 = r.1 by omega] at this
      exact this
  rw [e_Printer_putBeginning]
  refine r_letP (P := fun X => EmP z M L (cBg r) X) (fun J eJ => ?_)
  rw [← eJ] at J44
  clear eJ
  show EmP z M L (cBg r) _
  rw [r_nn]
  refine EmP.eq ((r_getI k1 rfl).trans r_callE) ?_
  rw [fw, Option.bind_some]
  dsimp only
  unfold cBg at hb ⊢
  rw [List.length_append, List.length_append, List.length_append] at hb
  have hkt : ktx (if r.1 < 5 then 0 else r.1 - 4) < 27 := by
    unfold ktx
    repeat' split
    all_goals omega
  generalize ktx (if r.1 < 5 then 0 else r.1 - 4) = tt at *
  refine EmP.seq hP (s_putText hN hkt hP (by omega)) (fun M1 p1 g1 => EmP.seq p1 (sp M1 _ p1 (by rw [List.length_append]; omega)) (fun M2 p2 g2 => ?_))
  refine EmP.eq ((r_getI (o (g1.tr g2)) rfl).trans r_callE) ?_
  rw [s_isNeed hk, Option.bind_some]
  dsimp only
  by_cases c5 : r.1 < 5
  · rw [if_pos c5] at hb
    rw [decide_eq_true c5, r_if_f (show ¬ bZ true = 0 by decide), if_pos c5]
    refine EmP.eq ((r_getI (o (g1.tr g2)) rfl).trans r_callE) ?_
    rw [s_needWord c5, Option.bind_some]
    dsimp only
    rw [List.length_append] at hb
    rw [List.append_assoc (sB.getD (ntx r.1) []) [32]]
    have hnt : ntx r.1 < 27 := by unfold ntx; split <;> omega
    refine EmP.seq p2 (s_putText hN hnt p2 (by rw [List.length_append, List.length_append]; omega)) (fun M3 p3 g3 => EmP.seq p3 (sp M3 _ p3 (by rw [List.length_append, List.length_append, List.length_append]; omega)) (fun M4 p4 g4 => ?_))
    exact J44 M4 _ p4 (((g1.tr g2).tr g3).tr g4) (by rw [List.length_append, List.length_append, List.length_append, List.length_append]; omega)
  · rw [if_neg c5] at hb
    rw [decide_eq_false c5, r_if_t (show bZ false = 0 by decide), if_neg c5, List.nil_append]
    have e0 : ([] : List Int32).length = 0 := rfl
    exact J44 M2 _ p2 (g1.tr g2) (by rw [List.length_append, List.length_append]; omega)
end CPRW
