/-! LAYER 2: the reference's print -/
section RPRT5
variable {N : Nat} {M : hM} {m : Nat} {s s' s'' : rS} {L l l' : List Int32} {f : Nat → Int32} {n : Nat} {pk : List aPk} {ch : List (Nat × Nat)} {pr : List Int32}
theorem rwS_len {o : Option aR} {a : aR} (wa : wfA a) : (rwS o a).length ≤ 150 := by
  have hk := wa.1
  have h1 := wa.2.1.1
  have h2 := wa.2.2.2.1.1
  have bl : (bgS a).length ≤ 40 := by
    unfold bgS
    rw [List.length_append, List.length_append]
    have h1 : (kwS (if a.1 < 5 then 12 else a.1 - 4)).length ≤ 9 := kwS_len (by split <;> omega)
    have h2' : (if a.1 < 5 then kwS (ntx a.1) else []).length ≤ 9 := by
      split
      · rename_i c; exact kwS_len (by unfold ntx; split <;> omega)
      · exact Nat.zero_le _
    have h3 : (if a.1 = 9 then [32] ++ (a.2.2.2.1 ++ [58]) else []).length ≤ 22 := by
      split
      · rw [List.length_append, List.length_append]; show 1 + (_ + 1) ≤ 22; omega
      · exact Nat.zero_le _
    omega
  have bd : ∀ a b v, (bdS a b v).length ≤ 24 := fun a b v => by
    unfold bdS
    rw [List.length_append, List.length_append, List.length_append, List.length_append]
    have := verS_len (v := v)
    have e : (if b = 0 then ([] : List Int32) else [b]).length ≤ 1 := by
      split
      · exact Nat.zero_le _
      · exact Nat.le_refl _
    show 1 + (1 + (_ + (1 + _))) ≤ 24
    omega
  have rl : (rsS a).length ≤ 60 := by
    unfold rsS
    split
    · unfold rngS
      split
      · decide
      · split
        · have := bd 61 0 (lnN a.2.2.2.2.1); omega
        · rw [List.length_append]
          have e1 : (if lnN a.2.2.2.2.1 = 0 then [] else bdS 62 61 (lnN a.2.2.2.2.1)).length ≤ 24 := by split; exact Nat.zero_le _; exact bd _ _ _
          have e2 : (if lnN a.2.2.2.2.2.1 = 1000000000000000000 then [] else bdS 60 0 (lnN a.2.2.2.2.2.1)).length ≤ 24 := by split; exact Nat.zero_le _; exact bd _ _ _
          omega
    · split
      · rw [List.length_append]; have := verS_len (v := lnN a.2.2.2.2.1); show 1 + _ ≤ _; omega
      · split
        · rw [List.length_append]; show 1 + _ ≤ _; omega
        · split
          · rw [List.length_append]; have := numS_len (v := lnN a.2.2.2.2.1); show 1 + _ ≤ _; omega
          · exact Nat.zero_le _
  have hl : (hdS o a).length ≤ 41 := by
    unfold hdS
    cases o with
    | none => dsimp only; omega
    | some q =>
      dsimp only
      split
      · rw [List.length_append]
        have e : (if a.1 = 8 then ([32] : List Int32) else []).length ≤ 1 := by split <;> decide
        show _ + 1 ≤ 41
        omega
      · rw [List.length_append]; show 1 + _ ≤ 41; omega
  unfold rwS
  rw [List.length_append, List.length_append, List.length_append]
  show _ + (1 + (_ + _)) ≤ 150
  omega
def prv (P : aPk) (i : Nat) : Option aR := if i = 0 then none else P.2.2.2[i - 1]?
theorem m_print110 {q : Nat} {P : aPk} (hN : 2001 ≤ N) (hq : q < 40) (wP : ∀ x, x ∈ P.2.2.2 → wfA x) : ∀ (d fu i : Nat) (s : rS) (L : List Int32), d + i = P.2.2.2.length → d < fu → RPk s q P → cS s → Pst s L → L.length + (rowsS (prv P i) (P.2.2.2.drop i) ++ ((if P.2.2.2 = [] then [] else [59]) ++ brS P [] P.2.2.1)).length ≤ 59000 →
    EmC M m s L (rowsS (prv P i) (P.2.2.2.drop i) ++ ((if P.2.2.2 = [] then [] else [59]) ++ brS P [] P.2.2.1)) ((f_MD_print_110 N m (nI q) fu (nI (200 * q + i))).1 (ov M m s)) := by
  have ip : ¬ (nI q < 0 ∨ 41 ≤ (nI q).toNatClampNeg) := nI_in (by omega) (by decide)
  have cp := nI_clamp (n := q) (by omega)
  have e200 : (200 : Int32) * nI q = nI (200 * q) := nI_mul
  intro d
  induction d with
  | zero =>
    intro fu i s L h1 h2 hP hc hPs hL
    obtain ⟨fu, rfl⟩ : ∃ g, fu = g + 1 := ⟨fu - 1, by omega⟩
    have hl := hP.2.2.2.2.2.1
    have hf := hP.2.2.2.1.2.1
    rw [List.drop_eq_nil_of_le (show P.2.2.2.length ≤ i by omega), show rowsS (prv P i) [] = [] from by unfold rowsS; rfl, List.nil_append] at hL ⊢
    rw [List.length_append] at hL
    have br : ∀ (s1 : rS) (L1 : List Int32), RPk s1 q P → cS s1 → Pst s1 L1 → L1.length + (brS P [] P.2.2.1).length ≤ 59000 → EmC M m s1 L1 (brS P [] P.2.2.1) ((f_MD_print_159 N m (nI q) N (250 * nI q)).1 (ov M m s1)) := by
      intro s1 L1 hP1 hc1 h1 hl1
      have := m_print159 (N := N) (M := M) (m := m) (P := P) hN hq P.2.2.1.length N 0 s1 L1 (by omega) (by omega) hP1 hc1 h1 (by rw [List.take_zero, List.drop_zero]; exact hl1)
      rw [List.take_zero, List.drop_zero] at this
      rw [show (250 : Int32) * nI q = nI (250 * q + 0) from nI_mul]
      exact this
    rw [e_MD_print_110, r_let]
    simp only [mR_13, r_nn, mA_6 ip, cp, hP.2.2.2.2.1, e200, nI_add, show nI (200 * q + P.2.2.2.length) ≤ nI (200 * q + i) from nI_le (by omega) (by omega), if_true]
    by_cases c : P.2.2.2 = []
    · rw [if_pos c] at hL
      rw [if_pos c, List.nil_append, c]
      rw [r_if_t (show nI ([] : List aR).length ≤ 0 from nI_le (a := 0) (b := 0) (by omega) (by omega))]
      exact br s L hP hc hPs (by have : ([] : List Int32).length = 0 := rfl; omega)
    · rw [if_neg c] at hL
      rw [if_neg c]
      have hne : 0 < P.2.2.2.length := List.length_pos_iff.mpr c
      rw [r_if_f (show ¬ nI P.2.2.2.length ≤ 0 from nI_ge (a := 0) hne (by omega))]
      have l59 : ([59] : List Int32).length = 1 := rfl
      refine EmC.seq (l := [59]) (m_put (sml_nI (j := 59) (by decide)) hPs (by omega)) (fun s1 h1 g1 => ?_)
      exact br s1 _ (hP.p g1) (hc.p g1) h1 (by rw [List.length_append]; omega)
  | succ d ih =>
    intro fu i s L h1 h2 hP hc hPs hL
    obtain ⟨fu, rfl⟩ : ∃ g, fu = g + 1 := ⟨fu - 1, by omega⟩
    have hl := hP.2.2.2.2.2.1
    have hi : i < P.2.2.2.length := by omega
    have hget : P.2.2.2[i]? = some P.2.2.2[i] := List.getElem?_eq_getElem hi
    have wa := wP _ (List.getElem_mem hi)
    have e : rowsS (prv P i) (P.2.2.2.drop i) = rwS (prv P i) P.2.2.2[i] ++ rowsS (prv P (i + 1)) (P.2.2.2.drop (i + 1)) := by
      rw [List.drop_eq_getElem_cons hi]
      show _ ++ rowsS (some P.2.2.2[i]) _ = _
      have : prv P (i + 1) = some P.2.2.2[i] := by unfold prv; rw [if_neg (by omega), Nat.add_sub_cancel]; exact hget
      rw [this]
    rw [e, List.append_assoc] at hL ⊢
    rw [List.length_append] at hL
    have hrl := rwS_len (o := prv P i) wa
    rw [e_MD_print_110, r_let]
    simp only [mR_13, r_nn, mA_6 ip, cp, hP.2.2.2.2.1, e200, nI_add, show ¬ nI (200 * q + P.2.2.2.length) ≤ nI (200 * q + i) from nI_ge (by omega) (by omega), if_false]
    refine EmC.seq (m_putRow hN hq hP hc hget wa rfl hPs (by omega)) (fun s1 h1 g1 => ?_)
    rw [nI_1]
    exact ih fu (i + 1) s1 _ (by omega) (by omega) (hP.p g1) (hc.p g1) h1 (by rw [List.length_append]; omega)
theorem m_print34 {q : Nat} {P : aPk} (hN : 2001 ≤ N) (hq : q < 40) (wP : ∀ x, x ∈ P.2.2.2 → wfA x) (hv : P.2.1 < 10 ^ 18) (hB : (prP P).length ≤ 59000) : ∀ (d fu i : Nat) (s : rS), d + i = 7 → d < fu → RPk s q P → cS s → Pst s ((sB.getD 0 []).take i) → (∀ j, i < j → j ≤ 7 → s.2.2.1 28 j = (sB.getD 0 []).getD (j - 1) 0) →
    ∃ s', (f_MD_print_34 N m (nI q) fu (nI i)).1 (ov M m s) = some (nI (prP P).length, ov M m s') ∧ Pst s' (prP P) ∧ kP s s' := by
  intro d
  induction d with
  | zero =>
    intro fu i s h1 h2 hP hc hPs _
    obtain ⟨fu, rfl⟩ : ∃ g, fu = g + 1 := ⟨fu - 1, by omega⟩
    have hi : i = 7 := by omega
    subst hi
    have ip : ¬ (nI q < 0 ∨ 41 ≤ (nI q).toNatClampNeg) := nI_in (by omega) (by decide)
    have cp := nI_clamp (n := q) (by omega)
    have e20 : (20 : Int32) * nI q = nI (20 * q) := nI_mul
    have hPs' : Pst s (sB.getD 0 []) := hPs
    have l0 : (sB.getD 0 []).length = 7 := by decide
    have hnl := hP.2.2.2.2.2.2.2.1
    have vl := verS_len (v := P.2.1)
    unfold prP at hB ⊢
    have lA : ∀ x : Int32, ([x] : List Int32).length = 1 := fun _ => rfl
    have fin : EmC M m s (sB.getD 0 []) ([32] ++ (P.1 ++ ([32] ++ (verS P.2.1 ++ ([59] ++ (rowsS none P.2.2.2 ++ ((if P.2.2.2 = [] then [] else [59]) ++ brS P [] P.2.2.1))))))) ((f_MD_print_34 N m (nI q) (fu + 1) (nI 7)).1 (ov M m s)) := by
      rw [e_MD_print_34, r_if_t (show (7 : Int32) ≤ nI 7 by decide)]
      refine EmC.seq (l := [32]) (m_put (sml_nI (j := 32) (by decide)) hPs' (by omega)) (fun s1 h1 g1 => ?_)
      have hP1 := hP.p g1
      simp only [mR_15, mR_12, r_nn, mA_5 ip, cp, hP1.1, e20]
      refine EmC.seq (m_putName_loop (N := N) (Z := 820) (w := P.1) (by decide) (fun i K s h => mA_8 h) (by decide) (by omega) (wfN_sml hP1.2.2.2.2.2.2.2) P.1.length N 0 s1 _ (by omega) (by omega) hP1.2.1 h1 (by rw [List.length_append, lA]; omega)) (fun s2 h2 g2 => ?_)
      refine EmC.seq (l := [32]) (m_put (sml_nI (j := 32) (by decide)) h2 (by rw [List.length_append, List.length_append, lA]; show _ + 1 + P.1.length < _; omega)) (fun s3 h3 g3 => ?_)
      have hP3 := (hP1.p g2).p g3
      simp only [mR_16, r_nn, mA_9 ip, cp, hP3.2.2.1]
      refine EmC.seq (m_putVersion hN hv h3 (by rw [List.length_append, List.length_append, List.length_append, lA]; show _ + 1 + P.1.length + 1 + 20 ≤ _; omega)) (fun s4 h4 g4 => ?_)
      refine EmC.seq (l := [59]) (m_put (sml_nI (j := 59) (by decide)) h4 (by rw [List.length_append, List.length_append, List.length_append, List.length_append, lA]; show _ + 1 + P.1.length + 1 + _ < _; omega)) (fun s5 h5 g5 => ?_)
      have := m_print110 (N := N) (M := M) (m := m) (P := P) hN hq wP P.2.2.2.length N 0 s5 _ (by omega) (by have := hP.2.2.2.2.2.1; omega) ((hP3.p g4).p g5) (((((hc.p g1).p g2).p g3).p g4).p g5) h5 (by
        rw [List.drop_zero, show prv P 0 = none from rfl]
        simp only [List.length_append, List.length_cons, List.length_nil, List.drop_zero] at hB ⊢
        omega)
      rw [List.drop_zero, show prv P 0 = none from rfl] at this
      rw [show (200 : Int32) * nI q = nI (200 * q + 0) from nI_mul]
      exact this
    obtain ⟨s', x1, x2, x3⟩ := fin
    exact ⟨s', x1, x2, x3⟩
  | succ d ih =>
    intro fu i s h1 h2 hP hc hPs hz
    obtain ⟨fu, rfl⟩ : ∃ g, fu = g + 1 := ⟨fu - 1, by omega⟩
    have l0 : (sB.getD 0 []).length = 7 := by decide
    have hlen : ((sB.getD 0 []).take i).length = i := by rw [List.length_take]; omega
    have i1 : ¬ (nI (i + 1) < 0 ∨ 60000 ≤ (nI (i + 1)).toNatClampNeg) := nI_in (by omega) (by decide)
    have c1 := nI_clamp (n := i + 1) (by omega)
    have j1 : ¬ (nI i < 0 ∨ 60000 ≤ (nI i).toNatClampNeg) := nI_in (by omega) (by decide)
    have k1 := nI_clamp (n := i) (by omega)
    have hz1 := hz (i + 1) (by omega) (by omega)
    rw [Nat.add_sub_cancel] at hz1
    have h43 : s.1 43 = nI i := by rw [hPs.1, hlen]
    have hsm : sml ((sB.getD 0 []).getD i 0) := sB_s (t := 0) (by omega) _ (mem_getD (by omega))
    obtain ⟨s2, x1, x2, x3⟩ := ih fu (i + 1) (va_up s.1 43 (nI (i + 1)), s.2.1, va_up s.2.2.1 28 (va_up (s.2.2.1 28) i ((sB.getD 0 []).getD i 0)), s.2.2.2) (by omega) (by omega) hP hc ⟨by rw [List.length_take, l0]; show nI (i + 1) = nI (min (i + 1) 7); congr 1; omega, fun j c hj => by
        have hj' := (List.getElem?_eq_some_iff.mp hj).1
        rw [List.length_take] at hj'
        rw [List.getElem?_take_of_lt (by omega)] at hj
        show va_up (s.2.2.1 28) i ((sB.getD 0 []).getD i 0) j = c
        by_cases e : j = i
        · subst e; rw [ua_s, List.getD_eq_getElem?_getD, hj]; rfl
        · rw [ua_n e]; refine hPs.2 j c ?_; rw [List.getElem?_take_of_lt (by omega)]; exact hj⟩ (fun j a b => by
        show va_up (s.2.2.1 28) i _ j = _
        rw [ua_n (by omega)]; exact hz j (by omega) b)
    refine ⟨s2, ?_, x2, ⟨x3.1, x3.2.1, fun j hj => (x3.2.2.1 j hj).trans (ua_n hj), fun j a b c => (x3.2.2.2 j a b c).trans (ua_n c)⟩⟩
    rw [e_MD_print_34, r_if_f (show ¬ (7 : Int32) ≤ nI i from nI_ge (b := 7) (by omega) (by omega))]
    simp only [mR_44, r_nn, nI_1, mA_28 i1, c1, hz1, mI_is, r_callE, e_MD_put, mI_43, h43, mS_28 j1, k1, sml_nar hsm, mP_43, r_ret, Option.bind_some]
    exact x1
theorem m_print {x : Int32} (hN : 2001 ≤ N) (h : RInv s f n pk ch pr) (hW : ∀ P, P ∈ pk → (∀ x, x ∈ P.2.2.2 → wfA x) ∧ P.2.1 < 10 ^ 18 ∧ (prP P).length ≤ 59000) : match pkOf pk x with
    | none => ∃ s', (f_MD_print N m x).1 (ov M m s) = some (-1, ov M m s') ∧ RInv s' f n pk ch pr
    | some P => ∃ s', (f_MD_print N m x).1 (ov M m s) = some (nI (prP P).length, ov M m s') ∧ RInv s' f n pk ch (prP P) := by
  have go : (f_MD_print N m x).1 (ov M m s) = ((f_MD_isPackage N m x).1 (ov M m (va_up s.1 0 0, s.2))).bind (fun Z => (if Z.1 = 0 then b_ret (-1 : Int32) else b_put m 1 43 (.int 0) (b_is m 1 (b_call (f_MD_putKey N m 31632277022795621) (fun _ => b_put m 1 43 (.int 0) (f_MD_print_34 N m x N 0))))).1 Z.2) := by
    rw [e_MD_print, mP_0, mI_is, r_callE]
  rw [go, m_isPackage h.t, Option.bind_some]
  have ht := h.t
  clear go
  generalize ((va_up s.1 0 0, s.2) : rS) = s0 at *
  cases hp : pkOf pk x with
  | none => exact ⟨s0, rfl, ht⟩
  | some P =>
    obtain ⟨q, e, h1, h2, h3, h4, i1, c1⟩ := pkIn ht hp
    obtain ⟨w1, w2, w3⟩ := hW P (List.mem_of_getElem? h3)
    dsimp only
    rw [show bZ (some P).isSome = 1 from rfl, r_if_f (show ¬ (1 : Int32) = 0 by decide), mP_43, ← kC0]
    have P0 : Pst (va_up s0.1 43 0, s0.2) [] := ⟨rfl, fun i c hc => (nil_get hc).elim⟩
    obtain ⟨s1, u1, u2, u3⟩ := m_putKey (N := N) (M := M) (m := m) (t := 0) hN (by omega) P0 (by decide)
    have hP1 : RPk s1 q P := RPk.p (s := (va_up s0.1 43 0, s0.2)) h4 u3
    have hc1 : cS s1 := cS.p (s := (va_up s0.1 43 0, s0.2)) ht.2.2.2.1 u3
    obtain ⟨s2, x1, x2, x3⟩ := m_print34 (N := N) (M := M) (m := m) (P := P) hN h1 w1 w2 w3 7 N 0 (va_up s1.1 43 0, s1.2) (by omega) (by omega) hP1 hc1 ⟨rfl, fun i c hc => (nil_get hc).elim⟩ (fun j a b => by
      show s1.2.2.1 28 j = _
      have hl : (kwS 0).length = 8 := by decide
      have := u2.2 j ((kwS 0).getD j 0) (by
        rw [List.nil_append, List.getD_eq_getElem?_getD, List.getElem?_eq_getElem (by omega)]; rfl)
      rw [this]
      obtain ⟨k, rfl⟩ : ∃ k, j = k + 1 := ⟨j - 1, by omega⟩
      rfl)
    refine ⟨s2, ?_, ?_⟩
    · rw [mI_is, r_callE, u1, Option.bind_some]
      dsimp only
      rw [mP_43, e]
      exact x1
    · have k2 : kP s0 s2 := by
        refine ⟨x3.1.trans u3.1, x3.2.1.trans u3.2.1, fun j hj => ?_, fun j a b c => (x3.2.2.2 j a b c).trans (u3.2.2.2 j a b c)⟩
        rw [x3.2.2.1 j hj]
        show va_up s1.1 43 0 j = _
        rw [ua_n hj, u3.2.2.1 j hj]
        exact ua_n hj
      obtain ⟨a1, a2, a3, a4, a5, ⟨a6, a7, a8⟩, b⟩ := ht
      refine ⟨⟨(k2.2.2.1 2 (by omega)).trans a1.1, a1.2.1, a1.2.2.1, by rw [k2.2.2.2 1 (by omega) (by omega) (by omega)]; exact a1.2.2.2⟩, (k2.2.2.1 11 (by omega)).trans a2, a3, a4.p k2, fun q P hP => (a5 q P hP).p k2, ⟨(k2.2.2.1 39 (by omega)).trans a6, a7, fun i c hc => ?_⟩, x2.1, by omega, x2.2⟩
      rw [k2.2.2.2 25 (by omega) (by omega) (by omega), k2.2.2.2 26 (by omega) (by omega) (by omega)]
      exact a8 i c hc
end RPRT5
