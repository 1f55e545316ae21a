/-! LAYER 2: the class's names: made, ordered, compared -/
section CNAM2
variable {N D : Nat} {M M' M'' : hM} {a p : Nat} {v : sV} {f : Nat → Int32} {n k : Nat}
theorem s_taken {s e : Nat} (hN : 2001 ≤ N) (h : sAt M a p v f) (h4 : v.2.2.2.1 = nI s) (h5 : v.2.2.2.2.1 = nI e) (hse : s ≤ e) (he : e ≤ 2000) (hw : wfN (wd f s e)) (hD : D ≤ M.2.1) (ha : a < D) (hp : p < D) :
    ∃ M', (f_Scan_takenName N a).1 M = some (some M.2.1, M') ∧ nmA D M' M.2.1 (wd f s e) ∧ (∀ b, b < M.2.1 → M'.1 b = M.1 b) ∧ M'.2.1 = M.2.1 + 3 ∧ M'.2.2 = M.2.2 + 3 + 2 * (e - s) := by
  have hlen : (wd f s e).length = e - s := wd_len
  have hl20 := hw.1
  rw [hlen] at hl20
  have na : a ≠ M.2.1 := by omega
  have np : p ≠ M.2.1 := by omega
  have nz : ¬ (nI (e - s) < 0 ∨ 60000000 < (nI (e - s)).toNatClampNeg) := fun z => z.elim (nI_pos (by omega)) (fun z => by rw [nI_clamp (by omega)] at z; omega)
  have cl := nI_clamp (n := e - s) (by omega)
  rw [e_Scan_takenName]
  refine Exists.elim (p := fun M' => (f_Name_init N M.2.1 (some p) (nI s) (nI e)).1 (hm_nw M (.inr (2, [.null, .null, .int 0])) 3) = some ((), M') ∧ nmA D M' M.2.1 (wd f s e) ∧ (∀ b, b < M.2.1 → M'.1 b = M.1 b) ∧ M'.2.1 = M.2.1 + 3 ∧ M'.2.2 = M.2.2 + 3 + 2 * (e - s)) ?_ (fun M' hM' => ?_)
  · rw [e_Name_init, r_let, r_let, r_if_f (nI_pos (by omega)), r_if_f (nI_nlt hse (by omega)), r_nn]
    refine Exists.elim (p := fun M' => ((fun (y0 : Int32) => b_newa 0 y0 (fun q16 => b_put M.2.1 2 0 (.ref q16) (b_newa 0 y0 (fun q17 => b_put M.2.1 2 1 (.ref q17) (f_Name_init_50 N M.2.1 (some p) (nI s) (nI e) N y0 0 0))))) (nI (e - s))).1 (hm_nw M (.inr (2, [.null, .null, .int 0])) 3) = some ((), M') ∧ nmA D M' M.2.1 (wd f s e) ∧ (∀ b, b < M.2.1 → M'.1 b = M.1 b) ∧ M'.2.1 = M.2.1 + 3 ∧ M'.2.2 = M.2.2 + 3 + 2 * (e - s)) ?_ (fun M' hM' => ⟨M', ?_, hM'.2⟩)
    · dsimp only
      rw [r_newa nz, cl]
      have E1 : hm_nw M (.inr (2, [.null, .null, .int 0])) 3 = ((hm_nw M (.inr (2, [.null, .null, .int 0])) 3) : hM) := rfl
      -- the three cells
      have b0 : (hm_nw M (.inr (2, [.null, .null, .int 0])) 3).2.1 = M.2.1 + 1 := rfl
      rw [b0]
      have c0 : (hm_nw (hm_nw M (.inr (2, [.null, .null, .int 0])) 3) (.inl (0, e - s, .inl (fun _ => 0))) (e - s)).1 M.2.1 = some (.inr (2, [.null, .null, .int 0])) := (nw_n (by show M.2.1 ≠ M.2.1 + 1; omega)).trans nw_s
      rw [r_put c0 (Nat.le_of_ble_eq_true rfl), r_newa nz, cl]
      have b1 : (hm_up (hm_nw (hm_nw M (.inr (2, [.null, .null, .int 0])) 3) (.inl (0, e - s, .inl (fun _ => 0))) (e - s)) M.2.1 (.inr (2, [Value.null, Value.null, Value.int 0].set 0 (.ref (M.2.1 + 1))))).2.1 = M.2.1 + 2 := rfl
      rw [b1]
      generalize hX : hm_nw (hm_up (hm_nw (hm_nw M (.inr (2, [.null, .null, .int 0])) 3) (.inl (0, e - s, .inl (fun _ => 0))) (e - s)) M.2.1 (.inr (2, [Value.null, Value.null, Value.int 0].set 0 (.ref (M.2.1 + 1))))) (.inl (0, e - s, .inl (fun _ => 0))) (e - s) = X
      have x0 : X.1 M.2.1 = some (.inr (2, [.ref (M.2.1 + 1), .null, .int 0])) := by
        rw [← hX]; exact (nw_n (by show M.2.1 ≠ M.2.1 + 2; omega)).trans up_s
      have x1 : X.1 (M.2.1 + 1) = some (.inl (0, e - s, .inl (fun _ => 0))) := by
        rw [← hX]; exact (nw_n (by show M.2.1 + 1 ≠ M.2.1 + 2; omega)).trans ((up_n (by omega)).trans nw_s)
      have x2 : X.1 (M.2.1 + 2) = some (.inl (0, e - s, .inl (fun _ => 0))) := by rw [← hX]; exact nw_s
      have xo : ∀ b, b < M.2.1 → X.1 b = M.1 b := by
        intro b hb
        rw [← hX]
        exact (nw_n (by show b ≠ M.2.1 + 2; omega)).trans ((up_n (by omega)).trans ((nw_n (by show b ≠ M.2.1 + 1; omega)).trans (nw_n (by omega))))
      have xs : X.2.1 = M.2.1 + 3 := by rw [← hX]; rfl
      have xt : X.2.2 = M.2.2 + 3 + 2 * (e - s) := by rw [← hX]; show M.2.2 + 3 + (e - s) + (e - s) = _; omega
      rw [r_put x0 (Nat.le_of_ble_eq_true rfl)]
      have hp2 : M.1 p = some (.inl (0, 2000, .inl f)) := h.2.1
      have L := s_nam_loop (N := N) (h0 := M.2.1) (pw := M.2.1 + 1) (pf := M.2.1 + 2) (p0 := p) (b := s) (L := e - s) (f := f) (w := wd f s e) (p2 := nI e) hw hlen.symm (by omega) (fun j hj => (wd_get hj).symm) (by omega) (by omega) (by omega) (by omega) (by omega) (by omega) (e - s) N 0 0 (fun _ => 0) (fun _ => 0) false (hm_up X M.2.1 (.inr (2, [.ref (M.2.1 + 1), .ref (M.2.1 + 2), .int 0]))) (by omega) (by omega) (by omega) ⟨fun z => (by cases z), fun z => absurd rfl z.1⟩ up_s ((up_n (by omega)).trans x1) ((up_n (by omega)).trans x2) ((up_n (by omega)).trans ((xo p (by omega)).trans hp2))
      rw [List.drop_zero, Nat.zero_add] at L
      have eW : cpA (fun _ => 0) 0 (e - s) (fun j => (wd f s e).getD (0 + j) 0) = fun j => (wd f s e).getD j 0 := by
        funext j
        unfold cpA
        by_cases c : 0 ≤ j ∧ j < 0 + (e - s)
        · rw [if_pos c]; dsimp only; rw [Nat.zero_add, Nat.sub_zero]
        · rw [if_neg c, List.getD_eq_getElem?_getD, List.getElem?_eq_none (by omega)]; rfl
      have eG : cpA (fun _ => 0) 0 (fd false (wd f s e)).length (fun j => (fd false (wd f s e)).getD j 0) = fun j => (fold (wd f s e)).getD j 0 := by
        funext j
        unfold cpA
        by_cases c : 0 ≤ j ∧ j < 0 + (fd false (wd f s e)).length
        · rw [if_pos c, Nat.sub_zero]; rfl
        · rw [if_neg c, List.getD_eq_getElem?_getD, List.getElem?_eq_none (by show (fd false (wd f s e)).length ≤ j; omega)]; rfl
      rw [eW, eG] at L
      refine ⟨_, L, ⟨M.2.1 + 1, M.2.1 + 2, ⟨hD, ?_⟩, ⟨by omega, ?_⟩, ⟨by omega, ?_⟩, up_s, ?_, ?_⟩, ?_, xs, xt⟩
      · show M.2.1 < X.2.1; omega
      · show M.2.1 + 1 < X.2.1; omega
      · show M.2.1 + 2 < X.2.1; omega
      · rw [hlen]; exact (up_n (by omega)).trans ((up_n (by omega)).trans up_s)
      · rw [hlen]; exact (up_n (by omega)).trans up_s
      · intro b hb
        exact (up_n (by omega)).trans ((up_n (by omega)).trans ((up_n (by omega)).trans ((up_n (by omega)).trans (xo b hb))))
    · refine (r_len ((nw_n np).trans h.2.1)).trans ?_
      rw [r_if_f (show ¬ nI 2000 < nI e from nI_nlt he (by omega)), pk_sub hse]
      exact hM'.1
  · refine ⟨M', ?_, hM'.2⟩
    refine r_new.trans ?_
    have s1 : (hm_nw M (.inr (2, [.null, .null, .int 0])) 3).1 a = some (scC p v) := (nw_n na).trans h.1
    refine (r_getR (r := some p) s1 rfl).trans ((r_getI s1 rfl).trans ((r_getI s1 rfl).trans ?_))
    rw [h4, h5, r_callE, hM'.1, Option.bind_some]
    rfl
end CNAM2
