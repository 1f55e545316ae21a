/-! LAYER 2: the class folds and reads -/
section CFR
variable {N z : Nat} {M M' M'' : hM} {f f' : Nat → Int32} {n n' : Nat} {pk : List aPk} {ch : List (Nat × Nat)} {pr pr' : List Int32}
theorem s_pFold {b : Nat} {w : List Int32} (hw : wfN w) : ∀ (d fu i : Nat) (M : hM) (L : List Int32), d + i = (fold w).length → d < fu → cPr z M L → nmA (z + 43) M b w → L.length + d ≤ 4181 → EmP z M L ((fold w).drop i) ((f_Printer_printFolded_7 N (z + 8) (some b) fu (nI i)).1 M) := by
  have hl := nmA_l hw
  intro d
  induction d with
  | zero =>
    intro fu i M L h1 h2 hP hA h5
    obtain ⟨fu, rfl⟩ : ∃ g, fu = g + 1 := ⟨fu - 1, by omega⟩
    obtain ⟨p1, p2, _, _, _, q1, q2, q3⟩ := hA
    rw [List.drop_eq_nil_of_le (by omega)]
    refine ⟨M, ?_, by rw [List.append_nil]; exact hP, pfr.rf⟩
    rw [e_Printer_printFolded_7, r_nn]
    refine (r_getI q1 rfl).trans ?_
    rw [r_if_t (show nI (fold w).length ≤ nI i from nI_le (by omega) (by omega))]; rfl
  | succ d ih =>
    intro fu i M L h1 h2 hP hA h5
    obtain ⟨fu, rfl⟩ : ∃ g, fu = g + 1 := ⟨fu - 1, by omega⟩
    have hA' := hA
    obtain ⟨p1, p2, _, _, _, q1, q2, q3⟩ := hA
    have hi : i < (fold w).length := by omega
    have i1 : ¬ (nI i < 0 ∨ w.length ≤ (nI i).toNatClampNeg) := nI_in (by omega) (by omega)
    have c1 := nI_clamp (n := i) (by omega)
    have hc : sml ((fold w).getD i 0) := by
      rw [List.getD_eq_getElem?_getD, List.getElem?_eq_getElem hi]
      exact fd_small w false (fun c hc => (hw.2.1 c hc).2) _ (List.getElem_mem hi)
    obtain ⟨M1, x1, x2, x3⟩ := s_put (N := N) (nar_ch hc) hP (by omega)
    have hp8 := hP.1
    obtain ⟨M2, y1, y2, y3⟩ := ih fu (i + 1) M1 (L ++ [(fold w).getD i 0]) (by omega) (by omega) x2 (hA'.f x3.d) (by rw [List.length_append]; show L.length + 1 + d ≤ _; omega)
    rw [drop_cons hi]
    refine ⟨M2, ?_, by rw [List.append_assoc] at y2; exact y2, x3.tr y3⟩
    rw [e_Printer_printFolded_7, r_nn]
    refine (r_getI q1 rfl).trans ?_
    rw [r_if_f (show ¬ nI (fold w).length ≤ nI i from nI_ge (by omega) (by omega))]
    refine (r_getR (r := some p2) q1 rfl).trans (r_nn.trans ((r_ald q3 i1).trans ((r_is hp8).trans (r_callE.trans ?_))))
    rw [c1, x1, Option.bind_some]
    dsimp only
    rw [nI_1]
    exact y1
theorem s_printFolded {b : Nat} {w : List Int32} (hN : 2001 ≤ N) (hw : wfN w) (hP : cPr z M pr) (hA : nmA (z + 43) M b w) : EmP z M [] (fold w) ((f_Printer_printFolded N (z + 8) (some b)).1 M) := by
  have hl := nmA_l hw
  obtain ⟨h1, h2, fp, h3, h4⟩ := hP
  have hP0 : cPr z (hm_up M (z + 8) (.inr (5, [.ref (z + 9), .int (nI 0)]))) [] := ⟨up_s, by decide, fp, (up_n (by omega)).trans h3, fun i c hc => (nil_get hc).elim⟩
  have pf : pfr z M (hm_up M (z + 8) (.inr (5, [.ref (z + 9), .int (nI 0)]))) := ⟨rfl, fun b n8 _ => up_n n8⟩
  obtain ⟨M1, x1, x2, x3⟩ := s_pFold (N := N) hw (fold w).length N 0 _ [] (by omega) (by omega) hP0 (hA.f pf.d) (by show 0 + _ ≤ _; omega)
  rw [List.drop_zero] at x2
  refine ⟨M1, ?_, x2, pf.tr x3⟩
  rw [e_Printer_printFolded]
  exact (r_put h1 (Nat.le_of_ble_eq_true rfl)).trans x1
theorem cfr_up {e : va_E} {b : Nat} (hb : b < z + 14) : cfr z M n (hm_up M b e) 0 := ⟨Nat.le_refl _, by show M.2.1 + 8 * 0 ≤ _; omega, by show M.2.2 + 100 * 0 ≤ _; omega, fun c hc _ => up_n (by omega)⟩
theorem s_fold (hN : 2001 ≤ N) (h : CI z M f n pk ch pr) : match fdR f n with
    | .inl w => ∃ M', (f_PR_fold N z).1 M = some ((-1) - nI w, M') ∧ CI z M' f 0 pk ch pr ∧ cfr z M n M' 0
    | .inr l => ∃ M', (f_PR_fold N z).1 M = some (nI l.length, M') ∧ CI z M' f 0 pk ch l ∧ cfr z M n M' 0 := by
  have h' := h
  have hz := h.lt
  obtain ⟨tf, h1, ⟨⟨v, k1, k2⟩, k3, k4, k5⟩, _, _, hPr, _⟩ := h
  -- the scan at the beginning
  have hS0 : sOk (hm_up M (z + 2) (scC (z + 3) (v.1, 0, 0, 0, 0, v.2.2.2.2.2))) (z + 2) (z + 3) (v.1, 0, 0, 0, 0, v.2.2.2.2.2) f n 0 := ⟨⟨up_s, (up_n (by omega)).trans k3, by omega⟩, k5, k2, rfl, k4, Nat.zero_le _⟩
  have pc : ∀ w : sV, (hm_up M (z + 2) (scC (z + 3) w)).1 z = some (prC z pk.length tf ch.length) := fun w => (up_n (by omega)).trans h1
  have hk1 : ∀ w, (hm_up M (z + 2) (scC (z + 3) w)).1 (z + 2) = some (scC (z + 3) w) := fun w => up_s
  -- a refusal
  have bad : ∀ (u : sV) (w : Nat) (X : Option (Int32 × hM)), u.2.2.1 = nI w → X = (b_getR z 0 1 (fun r1 => b_nn r1 (fun a2 => b_is a2 8 (b_call (f_Scan_useUp N a2) (fun _ => (if (0 : Int32) = 0 then b_getR z 0 1 (fun r22 => b_nn r22 (fun a23 => b_is a23 8 (b_call (f_Scan_refusal N a23) (fun v24 => b_ret v24)))) else b_getR z 0 4 (fun r7 => b_getR z 0 1 (fun r8 => b_nn r8 (fun a9 => b_is a9 8 (b_call (f_Scan_takenName N a9) (fun r10 => b_nn r7 (fun a14 => b_is a14 5 (b_call (f_Printer_printFolded N a14 r10) (fun _ => b_getR z 0 4 (fun r19 => b_nn r19 (fun a20 => b_getI a20 5 1 (fun v21 => b_ret v21)))))))))))))))) : hX Int32).1 (hm_up M (z + 2) (scC (z + 3) u)) → ∃ M', X = some ((-1) - nI w, M') ∧ CI z M' f 0 pk ch pr ∧ cfr z M n M' 0 := by
    intro u w X hu e
    refine ⟨hm_up M (z + 2) (scC (z + 3) (0, u.2)), ?_, h'.sc ⟨⟨_, up_s, rfl⟩, (up_n (by omega)).trans k3, Nat.zero_le _, k5⟩ (Nat.le_refl _) (fun b _ n2 _ => up_n n2), cfr_up (by omega)⟩
    rw [e]
    refine (r_getR (r := some (z + 2)) (pc u) rfl).trans (r_nn.trans ((r_is (hk1 _)).trans (r_callE.trans ?_)))
    rw [s_useUp (hk1 _), Option.bind_some, up_up]
    dsimp only
    rw [r_if_t rfl]
    refine (r_getR (r := some (z + 2)) (pc _) rfl).trans (r_nn.trans ((r_is (hk1 _)).trans (r_callE.trans ?_)))
    rw [s_refusal (hk1 _), Option.bind_some]
    dsimp only
    rw [hu]; rfl
  have good : ∀ (u : sV) (b e : Nat) (X : Option (Int32 × hM)), nmR f n 0 = .inr (b, e) → u.2.2.2.1 = nI b → u.2.2.2.2.1 = nI e → X = (b_getR z 0 1 (fun r1 => b_nn r1 (fun a2 => b_is a2 8 (b_call (f_Scan_useUp N a2) (fun _ => (if (1 : Int32) = 0 then b_getR z 0 1 (fun r22 => b_nn r22 (fun a23 => b_is a23 8 (b_call (f_Scan_refusal N a23) (fun v24 => b_ret v24)))) else b_getR z 0 4 (fun r7 => b_getR z 0 1 (fun r8 => b_nn r8 (fun a9 => b_is a9 8 (b_call (f_Scan_takenName N a9) (fun r10 => b_nn r7 (fun a14 => b_is a14 5 (b_call (f_Printer_printFolded N a14 r10) (fun _ => b_getR z 0 4 (fun r19 => b_nn r19 (fun a20 => b_getI a20 5 1 (fun v21 => b_ret v21)))))))))))))))) : hX Int32).1 (hm_up M (z + 2) (scC (z + 3) u)) → ∃ M', X = some (nI (fold (wd f b e)).length, M') ∧ CI z M' f 0 pk ch (fold (wd f b e)) ∧ cfr z M n M' 0 := by
    intro u b e X hr hb he eX
    obtain ⟨_, _, g1, g2, g3, g4, _⟩ := nmR_in hr
    have hwf := nmR_wf k5 hr
    have hA : sAt (hm_up M (z + 2) (scC (z + 3) (0, u.2))) (z + 2) (z + 3) (0, u.2) f := ⟨up_s, (up_n (by omega)).trans k3, by omega⟩
    obtain ⟨M2, t1, t2, t3, t4, t5⟩ := s_taken (N := N) (D := z + 43) (s := b) (e := e) hN hA hb he (by omega) (by omega) hwf.1 hz (by omega) (by omega)
    have hC0 : CI z (hm_up M (z + 2) (scC (z + 3) (0, u.2))) f 0 pk ch pr := h'.sc ⟨⟨_, up_s, rfl⟩, (up_n (by omega)).trans k3, Nat.zero_le _, k5⟩ (Nat.le_refl _) (fun b _ n2 _ => up_n n2)
    have hC2 : CI z M2 f 0 pk ch pr := hC0.fr (by omega) (fun b hb _ => t3 b hb)
    have e2 : (hm_up M (z + 2) (scC (z + 3) (0, u.2))).2 = M.2 := rfl
    have hC2' := hC2
    obtain ⟨tf2, m1, ⟨⟨v2, n1, _⟩, _⟩, _, _, hPr2, _⟩ := hC2
    obtain ⟨M3, y1, y2, y3⟩ := s_printFolded (N := N) hN hwf.1 hPr2 t2
    refine ⟨M3, ?_, hC2'.prt y2 y3, ?_⟩
    · rw [eX]
      refine (r_getR (r := some (z + 2)) (pc u) rfl).trans (r_nn.trans ((r_is (hk1 _)).trans (r_callE.trans ?_)))
      rw [s_useUp (hk1 _), Option.bind_some, up_up]
      dsimp only
      rw [r_if_f (show ¬ (1 : Int32) = 0 by decide)]
      refine (r_getR (r := some (z + 8)) (pc _) rfl).trans ((r_getR (r := some (z + 2)) (pc _) rfl).trans (r_nn.trans ((r_is (hk1 _)).trans (r_callE.trans ?_))))
      rw [show (f_Scan_takenName N (z + 2)).1 (hm_up M (z + 2) (scC (z + 3) (0, u.2))) = _ from t1, Option.bind_some]
      dsimp only
      rw [r_nn]
      refine (r_is hPr2.1).trans (r_callE.trans ?_)
      rw [y1, Option.bind_some]
      dsimp only
      refine (r_getR (r := some (z + 8)) ((y3.2 _ (by omega) (by omega)).trans m1) rfl).trans (r_nn.trans ((r_getI y2.1 rfl).trans rfl))
    · have e31 : M3.2.1 = M.2.1 + 3 := by rw [y3.1, t4, e2]
      have e32 : M3.2.2 = M.2.2 + 3 + 2 * (e - b) := by rw [y3.1, t5, e2]
      exact ⟨by omega, by omega, by omega, fun c hc1 hc2 => (y3.2 c (by omega) (by omega)).trans ((t3 c (by show c < M.2.1; omega)).trans (up_n (by omega)))⟩
  have hT := s_takeName (N := N) hN hS0
  have start : ∀ {P : Option (Int32 × hM) → Prop} (J32 : Int32 → hX Int32), P ((b_getR z 0 1 (fun r34 => b_nn r34 (fun a35 => b_is a35 8 (b_call (f_Scan_takeName N a35) (fun v36 => (if v36 = 0 then J32 0 else b_getR z 0 1 (fun r40 => b_nn r40 (fun a41 => b_is a41 8 (b_call (f_Scan_takeEnd N a41) (fun v42 => (if v42 = 0 then J32 0 else J32 1))))))))))).1 (hm_up M (z + 2) (scC (z + 3) (v.1, 0, 0, 0, 0, v.2.2.2.2.2)))) → P ((b_let (J32 0) (fun J31 => b_getR z 0 1 (fun r28 => b_nn r28 (fun a29 => b_is a29 8 (b_call (f_Scan_begin N a29) (fun _ => b_getR z 0 1 (fun r34 => b_nn r34 (fun a35 => b_is a35 8 (b_call (f_Scan_takeName N a35) (fun v36 => (if v36 = 0 then J31 else b_getR z 0 1 (fun r40 => b_nn r40 (fun a41 => b_is a41 8 (b_call (f_Scan_takeEnd N a41) (fun v42 => (if v42 = 0 then J31 else J32 1)))))))))))))))).1 M) := by
    intro P J32 hP
    rw [r_let]
    rw [(r_getR (r := some (z + 2)) h1 rfl).trans (r_nn.trans ((r_is k1).trans r_callE)), s_begin k1, Option.bind_some]
    exact hP
  unfold fdR
  rw [e_PR_fold]
  by_cases c : cL (sgn f n (sp f n 0)) ∧ nmOk f n (sp f n 0)
  · have hr : nmR f n 0 = .inr (sp f n 0, we f n (sp f n 0)) := if_pos c
    obtain ⟨_, _, g1, g2, g3, g4, _⟩ := nmR_in hr
    rw [if_pos c.1, if_pos c.2] at hT
    rw [hr]
    dsimp only
    have hS1 : sOk (hm_up M (z + 2) (scC (z + 3) (wSt (v.1, 0, 0, 0, 0, v.2.2.2.2.2) f n (sp f n 0)))) (z + 2) (z + 3) (wSt (v.1, 0, 0, 0, 0, v.2.2.2.2.2) f n (sp f n 0)) f n (we f n (sp f n 0)) := ⟨⟨up_s, (up_n (by omega)).trans k3, by omega⟩, k5, k2, rfl, k4, g3⟩
    rw [up_up] at hT
    by_cases ce : n ≤ sp f n (we f n (sp f n 0))
    · rw [if_pos ce]
      refine r_letP (P := fun X => ∃ M', X = some (nI (fold (wd f (sp f n 0) (we f n (sp f n 0)))).length, M') ∧ CI z M' f 0 pk ch (fold (wd f (sp f n 0) (we f n (sp f n 0)))) ∧ cfr z M n M' 0) (fun J32 eJ => start (P := fun X => ∃ M', X = some (nI (fold (wd f (sp f n 0) (we f n (sp f n 0)))).length, M') ∧ CI z M' f 0 pk ch (fold (wd f (sp f n 0) (we f n (sp f n 0)))) ∧ cfr z M n M' 0) J32 ?_)
      refine good (v.1, nI (sp f n (we f n (sp f n 0))), (wSt (v.1, 0, 0, 0, 0, v.2.2.2.2.2) f n (sp f n 0)).2.2) _ _ _ hr rfl rfl ?_
      refine ((r_getR (r := some (z + 2)) (pc _) rfl).trans (r_nn.trans ((r_is (hk1 _)).trans r_callE))).trans ?_
      rw [hT, Option.bind_some]
      dsimp only
      rw [r_if_f (show ¬ (1 : Int32) = 0 by decide)]
      refine ((r_getR (r := some (z + 2)) (pc _) rfl).trans (r_nn.trans ((r_is (hk1 _)).trans r_callE))).trans ?_
      rw [s_takeEnd hN hS1, if_pos ce, Option.bind_some, up_up]
      dsimp only
      rw [r_if_f (show ¬ (1 : Int32) = 0 by decide), eJ]
      rfl
    · rw [if_neg ce]
      refine r_letP (P := fun X => ∃ M', X = some ((-1) - nI (sp f n (we f n (sp f n 0))), M') ∧ CI z M' f 0 pk ch pr ∧ cfr z M n M' 0) (fun J32 eJ => start (P := fun X => ∃ M', X = some ((-1) - nI (sp f n (we f n (sp f n 0))), M') ∧ CI z M' f 0 pk ch pr ∧ cfr z M n M' 0) J32 ?_)
      refine bad (v.1, nI (sp f n (we f n (sp f n 0))), nI (sp f n (we f n (sp f n 0))), (wSt (v.1, 0, 0, 0, 0, v.2.2.2.2.2) f n (sp f n 0)).2.2.2) _ _ rfl ?_
      refine ((r_getR (r := some (z + 2)) (pc _) rfl).trans (r_nn.trans ((r_is (hk1 _)).trans r_callE))).trans ?_
      rw [hT, Option.bind_some]
      dsimp only
      rw [r_if_f (show ¬ (1 : Int32) = 0 by decide)]
      refine ((r_getR (r := some (z + 2)) (pc _) rfl).trans (r_nn.trans ((r_is (hk1 _)).trans r_callE))).trans ?_
      rw [s_takeEnd hN hS1, if_neg ce, Option.bind_some, up_up]
      dsimp only
      rw [r_if_t rfl, eJ]
      rfl
  · have hr : nmR f n 0 = .inl (sp f n 0) := if_neg c
    rw [hr]
    dsimp only
    by_cases c1 : cL (sgn f n (sp f n 0))
    · rw [if_pos c1, if_neg (fun z => c ⟨c1, z⟩), up_up] at hT
      refine r_letP (P := fun X => ∃ M', X = some ((-1) - nI (sp f n 0), M') ∧ CI z M' f 0 pk ch pr ∧ cfr z M n M' 0) (fun J32 eJ => start (P := fun X => ∃ M', X = some ((-1) - nI (sp f n 0), M') ∧ CI z M' f 0 pk ch pr ∧ cfr z M n M' 0) J32 ?_)
      refine bad (v.1, nI (we f n (sp f n 0)), nI (sp f n 0), nI (sp f n 0), nI (we f n (sp f n 0)), v.2.2.2.2.2) _ _ rfl ?_
      refine ((r_getR (r := some (z + 2)) (pc _) rfl).trans (r_nn.trans ((r_is (hk1 _)).trans r_callE))).trans ?_
      rw [hT, Option.bind_some]
      dsimp only
      rw [r_if_t rfl, eJ]
    · rw [if_neg c1, up_up] at hT
      refine r_letP (P := fun X => ∃ M', X = some ((-1) - nI (sp f n 0), M') ∧ CI z M' f 0 pk ch pr ∧ cfr z M n M' 0) (fun J32 eJ => start (P := fun X => ∃ M', X = some ((-1) - nI (sp f n 0), M') ∧ CI z M' f 0 pk ch pr ∧ cfr z M n M' 0) J32 ?_)
      refine bad (v.1, nI (sp f n 0), nI (sp f n 0), 0, 0, v.2.2.2.2.2) _ _ rfl ?_
      refine ((r_getR (r := some (z + 2)) (pc _) rfl).trans (r_nn.trans ((r_is (hk1 _)).trans r_callE))).trans ?_
      rw [hT, Option.bind_some]
      dsimp only
      rw [r_if_t rfl, eJ]
end CFR
