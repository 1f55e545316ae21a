/-! LAYER 2: the reference prints a package -/
def rwT (N m : Nat) (p1 x3 : Int32) : hX Unit := b_let (b_is m 1 (b_call (f_MD_putRange N m p1) (fun _ => b_ret ()))) (fun J104 => b_is m 1 (b_call (f_MD_put N m 32) (fun _ => b_getR m 1 23 (fun r9 => b_getR m 1 21 (fun r10 => b_nn r10 (fun a11 => b_ald a11 2 p1 (fun v12 => b_is m 1 (b_call (f_MD_putName N m r9 (20 * p1) v12) (fun _ => (if x3 < 7 then J104 else (if x3 = 8 then J104 else (if x3 = 7 then b_is m 1 (b_call (f_MD_put N m 32) (fun _ => b_getR m 1 25 (fun r44 => b_nn r44 (fun a45 => b_aldL a45 7 p1 (fun v46 => b_is m 1 (b_call (f_MD_putVersion N m v46) (fun _ => b_ret ()))))))) else (if x3 = 14 then b_is m 1 (b_call (f_MD_put N m 32) (fun _ => b_getR m 1 24 (fun r32 => b_getR m 1 22 (fun r33 => b_nn r33 (fun a34 => b_ald a34 2 p1 (fun v35 => b_is m 1 (b_call (f_MD_putName N m r32 (20 * p1) v35) (fun _ => b_ret ())))))))) else (if x3 = 15 then b_is m 1 (b_call (f_MD_put N m 32) (fun _ => b_getR m 1 25 (fun r21 => b_nn r21 (fun a22 => b_aldL a22 7 p1 (fun v23 => b_is m 1 (b_call (f_MD_putNumber N m v23) (fun _ => b_ret ()))))))) else b_ret ()))))))))))))))
def rwG (N m : Nat) (p1 x3 : Int32) : hX Unit := b_let (fun (x3 : Int32) (y0 : Int32) (y1 : Option Nat) => b_nn y1 (fun a51 => b_is a51 1 (b_call (f_MD_put N a51 y0) (fun _ => rwT N m p1 x3)))) (fun J42 => (if x3 = 8 then J42 x3 124 (some m) else J42 x3 44 (some m)))
section RPRT3
variable {N : Nat} {M : hM} {m : Nat} {s s' s'' : rS} {L l l' : List Int32}
theorem m_putRow {q i : Nat} {P : aPk} {a : aR} {o : Option aR} (hN : 2001 ≤ N) (hq : q < 40) (hP : RPk s q P) (hc : cS s) (hi : P.2.2.2[i]? = some a) (wa : wfA a) (ho : o = if i = 0 then none else P.2.2.2[i - 1]?) (hPs : Pst s L) (hL : L.length + 200 ≤ 60000) : Emt M m s L (rwS o a) ((f_MD_putRow N m (nI q) (nI (200 * q + i))).1 (ov M m s)) := by
  have hlt := (List.getElem?_eq_some_iff.mp hi).1
  have hl := hP.2.2.2.2.2.1
  obtain ⟨hR, wr⟩ := hP.2.2.2.2.2.2.1 i a hi
  have hr : 200 * q + i < 8200 := by omega
  have i1 : ¬ (nI (200 * q + i) < 0 ∨ 8200 ≤ (nI (200 * q + i)).toNatClampNeg) := nI_in hr (by decide)
  have c1 := nI_clamp (n := 200 * q + i) (by omega)
  have hk := wa.1
  have hol := hR.2.2
  have bl : (bgS a).length ≤ 50 := by
    unfold bgS
    rw [List.length_append, List.length_append]
    have h1 : (kwS (if a.1 < 5 then 12 else a.1 - 4)).length ≤ 9 := kwS_len (by split <;> omega)
    have h2 : (if a.1 < 5 then kwS (ntx a.1) else []).length ≤ 9 := by
      split
      · rename_i c; exact kwS_len (by unfold ntx; split <;> omega)
      · exact Nat.zero_le _
    have h3 : (if a.1 = 9 then [32] ++ (a.2.2.2.1 ++ [58]) else []).length ≤ 22 := by
      split
      · rw [List.length_append, List.length_append]; show 1 + (_ + 1) ≤ 22; omega
      · exact Nat.zero_le _
    omega
  rw [e_MD_putRow, r_let, r_let, r_let]
  simp only [mR_19, r_nn, mA_12 i1, c1, hR.1.1]
  unfold rwS hdS
  rcases Nat.eq_zero_or_pos i with z | z
  · rw [if_pos z] at ho
    subst ho z
    dsimp only
    have g0 := m_goesOn0 (N := N) (M := M) (m := m) (s := s) (q := q)
    rw [mI_is, r_callE, show nI (200 * q + 0) = nI (200 * q) from rfl, g0, Option.bind_some, r_if_t rfl, r_if_t (show nI (200 * q) ≤ 200 * nI q by rw [show (200 : Int32) * nI q = nI (200 * q) from nI_mul]; exact Int32.le_refl _)]
    refine Emt.seq (m_putBegin hN hr hR wr hc hPs (by omega)) (fun s1 h1 g1 => ?_)
    exact m_rowTail hN hr (hR.p g1) wa h1 (by rw [List.length_append]; omega)
  · obtain ⟨j, rfl⟩ : ∃ j, i = j + 1 := ⟨i - 1, by omega⟩
    rw [if_neg (by omega), Nat.add_sub_cancel] at ho
    have hj : P.2.2.2[j]? = some P.2.2.2[j] := List.getElem?_eq_getElem (by omega)
    rw [hj] at ho
    subst ho
    obtain ⟨hR0, wr0⟩ := hP.2.2.2.2.2.2.1 j _ hj
    obtain ⟨s1, u1, u2⟩ := m_goesOn (N := N) (M := M) (m := m) hN hq (by omega) hR0 hR wr0 wr
    have hR1 := hR.k u2
    have hPs1 := hPs.ks u2
    dsimp only
    rw [mI_is, r_callE, u1, Option.bind_some]
    refine Emt.mono ?_ u2.p
    by_cases c : goS P.2.2.2[j] a = true
    · rw [c, r_if_f (show ¬ bZ true = 0 by decide), if_pos rfl]
      have tl : ∀ (s2 : rS) (L2 : List Int32), Pst s2 L2 → kP s1 s2 → L2.length ≤ L.length + 1 → Emt M m s2 L2 ([if a.1 = 8 then 124 else 44] ++ ([32] ++ (a.2.2.1 ++ rsS a))) ((rwG N m (nI (200 * q + (j + 1))) (nI a.1)).1 (ov M m s2)) := by
        intro s2 L2 h2 g2 hl2
        have hR2 := hR1.p g2
        unfold rwG
        rw [r_let]
        by_cases d8 : a.1 = 8
        · rw [r_if_t (show nI a.1 = 8 by rw [d8]; rfl), if_pos d8]
          dsimp only
          rw [r_nn]
          refine Emt.seq (l := [124]) (m_put (sml_nI (j := 124) (by decide)) h2 (by omega)) (fun s3 h3 g3 => ?_)
          exact m_rowTail hN hr (hR2.p g3) wa h3 (by rw [List.length_append]; show _ + 1 + 100 ≤ _; omega)
        · rw [r_if_f (show ¬ nI a.1 = 8 from fun z => d8 ((nI_eq (b := 8) (by omega) (by omega)).mp z)), if_neg d8]
          dsimp only
          rw [r_nn]
          refine Emt.seq (l := [44]) (m_put (sml_nI (j := 44) (by decide)) h2 (by omega)) (fun s3 h3 g3 => ?_)
          exact m_rowTail hN hr (hR2.p g3) wa h3 (by rw [List.length_append]; show _ + 1 + 100 ≤ _; omega)
      rw [List.append_assoc]
      by_cases d8 : a.1 = 8
      · rw [r_if_t (show nI a.1 = 8 by rw [d8]; rfl), if_pos d8]
        refine Emt.seq (l := [32]) (m_put (sml_nI (j := 32) (by decide)) hPs1 (by omega)) (fun s2 h2 g2 => ?_)
        have := tl s2 _ h2 g2 (by rw [List.length_append]; exact Nat.le_refl _)
        exact this
      · rw [r_if_f (show ¬ nI a.1 = 8 from fun z => d8 ((nI_eq (b := 8) (by omega) (by omega)).mp z)), if_neg d8, List.nil_append]
        have := tl s1 _ hPs1 kP.rf (by omega)
        exact this
    · have c' : goS P.2.2.2[j] a = false := by cases h : goS P.2.2.2[j] a; rfl; exact absurd h c
      rw [c', r_if_t (show bZ false = 0 by decide), if_neg (show ¬ (false = true) by decide), r_if_f (show ¬ nI (200 * q + (j + 1)) ≤ 200 * nI q by rw [show (200 : Int32) * nI q = nI (200 * q) from nI_mul]; exact nI_ge (by omega) (by omega)), List.append_assoc]
      refine Emt.seq (l := [59]) (m_put (sml_nI (j := 59) (by decide)) hPs1 (by omega)) (fun s2 h2 g2 => ?_)
      have hR2 := hR1.p g2
      refine Emt.seq (m_putBegin hN hr hR2 wr ((hc.p u2.p).p g2) h2 (by rw [List.length_append]; show _ + 1 + 60 ≤ _; omega)) (fun s3 h3 g3 => ?_)
      exact m_rowTail hN hr (hR2.p g3) wa h3 (by rw [List.length_append, List.length_append]; show _ + 1 + _ + 100 ≤ _; omega)
end RPRT3
