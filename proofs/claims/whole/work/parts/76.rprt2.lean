/-! LAYER 2: the reference prints a package -/
section RPRT2
variable {N : Nat} {M : hM} {m : Nat} {s s' s'' : rS} {L l l' : List Int32}
theorem m_goesOn0 {q : Nat} : (f_MD_goesOn N m (nI q) (nI (200 * q))).1 (ov M m s) = some (0, ov M m s) := by
  rw [e_MD_goesOn, r_let, r_let, r_let, r_if_t (show nI (200 * q) = 200 * nI q from nI_mul.symm)]
  exact rZ0
theorem m_goesOn {q i : Nat} {x y : aR} (hN : 2001 ≤ N) (hq : q < 40) (hi : i + 1 < 200) (hx : RR s (200 * q + i) x) (hy : RR s (200 * q + (i + 1)) y) (wx : wfR x) (wy : wfR y) : ∃ s', (f_MD_goesOn N m (nI q) (nI (200 * q + (i + 1)))).1 (ov M m s) = some (bZ (goS x y), ov M m s') ∧ ks s s' := by
  have i1 : ¬ (nI (200 * q + i) < 0 ∨ 8200 ≤ (nI (200 * q + i)).toNatClampNeg) := nI_in (by omega) (by decide)
  have c1 := nI_clamp (n := 200 * q + i) (by omega)
  have i2 : ¬ (nI (200 * q + (i + 1)) < 0 ∨ 8200 ≤ (nI (200 * q + (i + 1))).toNatClampNeg) := nI_in (by omega) (by decide)
  have c2 := nI_clamp (n := 200 * q + (i + 1)) (by omega)
  have em : nI (200 * q + (i + 1)) - 1 = nI (200 * q + i) := nI_pred (200 * q + i)
  have ne : ¬ nI (200 * q + (i + 1)) = 200 * nI q := fun z => by
    rw [show (200 : Int32) * nI q = nI (200 * q) from nI_mul] at z
    have := (nI_eq (by omega) (by omega)).mp z
    omega
  have e20 : (20 : Int32) * nI (200 * q + i) = nI (20 * (200 * q + i)) := nI_mul
  have e20' : (20 : Int32) * nI (200 * q + (i + 1)) = nI (20 * (200 * q + (i + 1))) := nI_mul
  rw [e_MD_goesOn, r_let, r_let, r_let, r_if_f ne]
  simp only [em, mR_19, r_nn, mA_12 i1, mA_12 i2, c1, c2, hx.1.1, hy.1.1]
  have wxk := wx.1
  have wyk := wy.1
  unfold goS
  by_cases d1 : x.1 = y.1
  · rw [r_if_t (show nI x.1 = nI y.1 by rw [d1]), show (x.1 == y.1) = true from by rw [beq_iff_eq]; exact d1, Bool.true_and]
    simp only [mR_19, r_nn, mA_12 i2, c2, hy.1.1]
    by_cases d9 : y.1 = 9
    · rw [r_if_t (show nI y.1 = 9 by rw [d9]; rfl), if_pos d9]
      obtain ⟨s1, u1, u2⟩ := m_compare (N := N) (M := M) (m := m) hN (hy.o wy (by omega)) (hx.o wx (by omega))
      simp only [mR_24, mR_22, r_nn, mA_15 i1, mA_15 i2, c1, c2, hx.1.2.2.2.2.1, hy.1.2.2.2.2.1, e20, e20', mI_is, r_callE, u1, Option.bind_some]
      refine ⟨s1, ?_, u2⟩
      by_cases c : cmpN y.2.2.2.1 x.2.2.2.1 = 0
      · rw [r_if_t c, show (cmpN y.2.2.2.1 x.2.2.2.1 == 0) = true from by rw [beq_iff_eq]; exact c]; exact rZ1
      · rw [r_if_f c, show (cmpN y.2.2.2.1 x.2.2.2.1 == 0) = false from by rw [beq_eq_false_iff_ne]; exact c]; exact rZ0
    · rw [r_if_f (show ¬ nI y.1 = 9 from fun z => d9 ((nI_eq (b := 9) (by omega) (by omega)).mp z)), if_neg d9]
      refine ⟨s, ?_, ks.rf⟩
      by_cases d8 : y.1 = 8
      · rw [r_if_t (show nI y.1 = 8 by rw [d8]; rfl), if_pos d8]
        simp only [mR_20, r_nn, mA_13 i1, mA_13 i2, c1, c2, hx.1.2.1, hy.1.2.1]
        by_cases c : y.2.1 = x.2.1
        · rw [r_if_t c, show (y.2.1 == x.2.1) = true from by rw [beq_iff_eq]; exact c]; exact rZ1
        · rw [r_if_f c, show (y.2.1 == x.2.1) = false from by rw [beq_eq_false_iff_ne]; exact c]; exact rZ0
      · rw [r_if_f (show ¬ nI y.1 = 8 from fun z => d8 ((nI_eq (b := 8) (by omega) (by omega)).mp z)), if_neg d8]
        by_cases da : y.1 ≤ 9
        · rw [r_if_t (show nI y.1 ≤ 9 from nI_le (b := 9) da (by omega)), decide_eq_false (show ¬ (9 < y.1 ∧ y.1 < 14) by omega)]; exact rZ0
        · rw [r_if_f (show ¬ nI y.1 ≤ 9 from nI_ge (a := 9) (by omega) (by omega))]
          by_cases db : 14 ≤ y.1
          · rw [r_if_t (show 14 ≤ nI y.1 from nI_le (a := 14) db (by omega)), decide_eq_false (show ¬ (9 < y.1 ∧ y.1 < 14) by omega)]; exact rZ0
          · rw [r_if_f (show ¬ 14 ≤ nI y.1 from nI_ge (b := 14) (by omega) (by omega)), decide_eq_true (show (9 < y.1 ∧ y.1 < 14) by omega)]; exact rZ1
  · rw [r_if_f (show ¬ nI x.1 = nI y.1 from fun z => d1 ((nI_eq (by omega) (by omega)).mp z)), show (x.1 == y.1) = false from by rw [beq_eq_false_iff_ne]; exact d1, Bool.false_and]
    exact ⟨s, rZ0, ks.rf⟩
theorem kwS_len {t : Nat} (h : t < 18) : (kwS t).length ≤ 9 := by
  have := (kC_dec ⟨t, h⟩).1
  show _ + 1 ≤ 9
  dsimp only at this
  omega
theorem m_putBegin {r : Nat} {a : aR} (hN : 2001 ≤ N) (hr : r < 8200) (hR : RR s r a) (wa : wfR a) (hc : cS s) (hP : Pst s L) (hL : L.length + 60 ≤ 60000) : Emt M m s L (bgS a) ((f_MD_putBegin N m (nI r)).1 (ov M m s)) := by
  have i1 : ¬ (nI r < 0 ∨ 8200 ≤ (nI r).toNatClampNeg) := nI_in hr (by decide)
  have c1 := nI_clamp (n := r) (by omega)
  have e20 : (20 : Int32) * nI r = nI (20 * r) := nI_mul
  have hk := wa.1
  have hol := hR.2.2
  rw [e_MD_putBegin, r_let]
  simp only [mR_19, r_nn, mA_12 i1, c1, hR.1.1]
  unfold bgS
  -- the feature's name
  have t9 : ∀ (s1 : rS) (L1 : List Int32), Pst s1 L1 → kP s s1 → L1.length ≤ L.length + 18 → Emt M m s1 L1 (if a.1 = 9 then [32] ++ (a.2.2.2.1 ++ [58]) else []) (((if nI a.1 = 9 then b_is m 1 (b_call (f_MD_put N m 32) (fun _ => b_getR m 1 24 (fun r5 => b_getR m 1 22 (fun r6 => b_nn r6 (fun a7 => b_ald a7 2 (nI r) (fun v8 => b_is m 1 (b_call (f_MD_putName N m r5 (20 * (nI r)) v8) (fun _ => b_is m 1 (b_call (f_MD_put N m 58) (fun _ => b_ret ())))))))))) else b_ret ()) : hX Unit).1 (ov M m s1)) := by
    intro s1 L1 h1 g hl
    by_cases c9 : a.1 = 9
    · rw [r_if_t (show nI a.1 = 9 by rw [c9]; rfl), if_pos c9]
      refine Emt.seq (l := [32]) (m_put (sml_nI (j := 32) (by decide)) h1 (by omega)) (fun s2 h2 g2 => ?_)
      have hR2 := (hR.p g).p g2
      simp only [mR_24, mR_22, r_nn, mA_15 i1, c1, hR2.1.2.2.2.2.1, e20]
      refine Emt.seq (m_putN17 hN hR2 wa hr h2 (by rw [List.length_append]; show _ + 1 + _ ≤ _; omega)) (fun s3 h3 g3 => ?_)
      exact Emt.nil (m_put (sml_nI (j := 58) (by decide)) h3 (by rw [List.length_append, List.length_append]; show _ + 1 + _ < _; omega))
    · rw [r_if_f (show ¬ nI a.1 = 9 from fun z => c9 ((nI_eq (b := 9) (by omega) (by omega)).mp z)), if_neg c9]
      exact Emt.ret h1
  by_cases d5 : 5 ≤ a.1
  · have ei : nI a.1 = nI (kdf (a.1 - 4)) := by unfold kdf; rw [if_neg (by omega), show a.1 - 4 + 4 = a.1 by omega]
    have ek : ktx (a.1 - 4) = a.1 - 4 := by unfold ktx; rw [if_neg (by omega)]
    have key := m_keyOf (N := N) (M := M) (m := m) (s := s) (i0 := a.1 - 4) hN hc (by omega)
    rw [← ei, ek] at key
    rw [r_if_t (show (5 : Int32) ≤ nI a.1 from nI_le (a := 5) d5 (by omega)), if_neg (by omega), if_neg (by omega), List.nil_append]
    rw [r_let, r_nn, mI_is, r_callE, key, Option.bind_some, r_nn]
    have hkl := kwS_len (t := a.1 - 4) (by omega)
    refine Emt.seq (m_putKey hN (by omega) hP (by omega)) (fun s1 h1 g1 => ?_)
    rw [r_if_t (show (5 : Int32) ≤ nI a.1 from nI_le (a := 5) d5 (by omega))]
    exact t9 s1 _ h1 g1 (by rw [List.length_append]; omega)
  · have key := m_keyOf (N := N) (M := M) (m := m) (s := s) (i0 := 0) hN hc (by omega)
    rw [r_if_f (show ¬ (5 : Int32) ≤ nI a.1 from nI_ge (b := 5) (by omega) (by omega)), if_pos (by omega), if_pos (by omega)]
    rw [r_let, r_nn, mI_is, r_callE, show f_MD_keyOf N m 0 = f_MD_keyOf N m (nI (kdf 0)) from rfl, key, Option.bind_some, r_nn]
    have hkl := kwS_len (t := 12) (by omega)
    refine Emt.seq (l := kwS 12) (m_putKey (t := 12) hN (by omega) hP (by omega)) (fun s1 h1 g1 => ?_)
    have hn5 : a.1 < 5 := by omega
    have i5 : ¬ (nI a.1 < 0 ∨ 5 ≤ (nI a.1).toNatClampNeg) := nI_in hn5 (by decide)
    have c5 := nI_clamp (n := a.1) (by omega)
    have hcs := (hc.p g1).2 a.1 hn5
    have hnt : ntx a.1 < 18 := by unfold ntx; split <;> omega
    have hnl := kwS_len hnt
    rw [r_if_f (show ¬ (5 : Int32) ≤ nI a.1 from nI_ge (b := 5) (by omega) (by omega))]
    simp only [mR_8, r_nn, mA_2 i5, c5, hcs]
    refine Emt.seq (m_putKey hN hnt h1 (by rw [List.length_append]; omega)) (fun s2 h2 g2 => ?_)
    exact t9 s2 _ h2 (g1.tr g2) (by rw [List.length_append, List.length_append]; omega)
theorem rsS_e {a : aR} (hw : wfA a) : rsS a = if a.1 < 7 ∨ a.1 = 8 then rngS (lnN a.2.2.2.2.1) (lnN a.2.2.2.2.2.1) else if a.1 = 7 then [32] ++ verS (lnN a.2.2.2.2.1) else if a.1 = 14 then [32] ++ a.2.2.2.1 else if a.1 = 15 then [32] ++ numS (lnN a.2.2.2.2.1) else [] := rfl
/-- a row from its name on -/
theorem m_rowTail {r : Nat} {a : aR} (hN : 2001 ≤ N) (hr : r < 8200) (hR : RR s r a) (wa : wfA a) (hP : Pst s L) (hL : L.length + 100 ≤ 60000) : Emt M m s L ([32] ++ (a.2.2.1 ++ rsS a)) ((b_let (b_is m 1 (b_call (f_MD_putRange N m (nI r)) (fun _ => b_ret ()))) (fun J104 => b_is m 1 (b_call (f_MD_put N m 32) (fun _ => b_getR m 1 23 (fun r9 => b_getR m 1 21 (fun r10 => b_nn r10 (fun a11 => b_ald a11 2 (nI r) (fun v12 => b_is m 1 (b_call (f_MD_putName N m r9 (20 * (nI r)) v12) (fun _ => (if nI a.1 < 7 then J104 else (if nI a.1 = 8 then J104 else (if nI a.1 = 7 then b_is m 1 (b_call (f_MD_put N m 32) (fun _ => b_getR m 1 25 (fun r44 => b_nn r44 (fun a45 => b_aldL a45 7 (nI r) (fun v46 => b_is m 1 (b_call (f_MD_putVersion N m v46) (fun _ => b_ret ()))))))) else (if nI a.1 = 14 then b_is m 1 (b_call (f_MD_put N m 32) (fun _ => b_getR m 1 24 (fun r32 => b_getR m 1 22 (fun r33 => b_nn r33 (fun a34 => b_ald a34 2 (nI r) (fun v35 => b_is m 1 (b_call (f_MD_putName N m r32 (20 * (nI r)) v35) (fun _ => b_ret ())))))))) else (if nI a.1 = 15 then b_is m 1 (b_call (f_MD_put N m 32) (fun _ => b_getR m 1 25 (fun r21 => b_nn r21 (fun a22 => b_aldL a22 7 (nI r) (fun v23 => b_is m 1 (b_call (f_MD_putNumber N m v23) (fun _ => b_ret ()))))))) else b_ret ())))))))))))))) : hX Unit).1 (ov M m s)) := by
  have i1 : ¬ (nI r < 0 ∨ 8200 ≤ (nI r).toNatClampNeg) := nI_in hr (by decide)
  have c1 := nI_clamp (n := r) (by omega)
  have e20 : (20 : Int32) * nI r = nI (20 * r) := nI_mul
  have hk := wa.1
  have hnl := hR.2.1
  have hol := hR.2.2
  have wr := wfA_R wa
  have p18 : (10 : Nat) ^ 18 < 2 ^ 63 := by decide
  rw [r_let]
  refine Emt.seq (l := [32]) (m_put (sml_nI (j := 32) (by decide)) hP (by omega)) (fun s1 h1 g1 => ?_)
  have hR1 := hR.p g1
  simp only [mR_23, mR_21, r_nn, mA_14 i1, c1, hR1.1.2.2.1, e20]
  refine Emt.seq (m_putN16 hN hR1 wr hr h1 (by rw [List.length_append]; show _ + 1 + _ ≤ _; omega)) (fun s2 h2 g2 => ?_)
  have hR2 := hR1.p g2
  have hl2 : ((L ++ [32]) ++ a.2.2.1).length ≤ L.length + 21 := by rw [List.length_append, List.length_append]; show _ + 1 + _ ≤ _; omega
  unfold rsS
  have rg : (a.1 < 7 ∨ a.1 = 8) → Emt M m s2 ((L ++ [32]) ++ a.2.2.1) (rngS (lnN a.2.2.2.2.1) (lnN a.2.2.2.2.2.1)) ((b_is m 1 (b_call (f_MD_putRange N m (nI r)) (fun _ => b_ret ()))).1 (ov M m s2)) := by
    intro h
    obtain ⟨lo, hi, e1, e2, hb⟩ := wa.2.2.2.2.2.2.2.1 h
    have b1 : lo < 2 ^ 63 := by omega
    have b2 : hi < 2 ^ 63 := by omega
    rw [e1, e2, lnN_l b1, lnN_l b2]
    exact Emt.nil (m_putRange hN hr (hR2.1.2.2.2.2.2.2.1.trans e1) (hR2.1.2.2.2.2.2.2.2.1.trans e2) hb h2 (by omega))
  by_cases d1 : a.1 < 7
  · rw [r_if_t (show nI a.1 < 7 from nI_lt (b := 7) d1 (by omega)), if_pos (Or.inl d1)]
    exact rg (Or.inl d1)
  · rw [r_if_f (show ¬ nI a.1 < 7 from nI_nlt (b := 7) (by omega) (by omega))]
    by_cases d2 : a.1 = 8
    · rw [r_if_t (show nI a.1 = 8 by rw [d2]; rfl), if_pos (Or.inr d2)]
      exact rg (Or.inr d2)
    · rw [r_if_f (show ¬ nI a.1 = 8 from fun z => d2 ((nI_eq (b := 8) (by omega) (by omega)).mp z)), if_neg (c := a.1 < 7 ∨ a.1 = 8) (by omega)]
      by_cases d7 : a.1 = 7
      · rw [r_if_t (show nI a.1 = 7 by rw [d7]; rfl), if_pos d7]
        obtain ⟨v, hv, e1, e2⟩ := wa.2.2.2.2.2.2.2.2.1 d7
        refine Emt.seq (l := [32]) (m_put (sml_nI (j := 32) (by decide)) h2 (by omega)) (fun s3 h3 g3 => ?_)
        have hR3 := hR2.p g3
        rw [e1, lnN_l (by omega)]
        simp only [mR_25, r_nn, mA_18 i1, c1, hR3.1.2.2.2.2.2.2.1.trans e1]
        exact Emt.nil (m_putVersion hN hv h3 (by rw [List.length_append]; show _ + 1 + 20 ≤ _; omega))
      · rw [r_if_f (show ¬ nI a.1 = 7 from fun z => d7 ((nI_eq (b := 7) (by omega) (by omega)).mp z)), if_neg d7]
        by_cases d14 : a.1 = 14
        · rw [r_if_t (show nI a.1 = 14 by rw [d14]; rfl), if_pos d14]
          refine Emt.seq (l := [32]) (m_put (sml_nI (j := 32) (by decide)) h2 (by omega)) (fun s3 h3 g3 => ?_)
          have hR3 := hR2.p g3
          simp only [mR_24, mR_22, r_nn, mA_15 i1, c1, hR3.1.2.2.2.2.1, e20]
          exact Emt.nil (m_putN17 hN hR3 wr hr h3 (by rw [List.length_append]; show _ + 1 + _ ≤ _; omega))
        · rw [r_if_f (show ¬ nI a.1 = 14 from fun z => d14 ((nI_eq (b := 14) (by omega) (by omega)).mp z)), if_neg d14]
          by_cases d15 : a.1 = 15
          · rw [r_if_t (show nI a.1 = 15 by rw [d15]; rfl), if_pos d15]
            obtain ⟨v, hv, e1, e2⟩ := wa.2.2.2.2.2.2.2.2.2.1 d15
            refine Emt.seq (l := [32]) (m_put (sml_nI (j := 32) (by decide)) h2 (by omega)) (fun s3 h3 g3 => ?_)
            have hR3 := hR2.p g3
            rw [e1, lnN_l (by omega)]
            simp only [mR_25, r_nn, mA_18 i1, c1, hR3.1.2.2.2.2.2.2.1.trans e1]
            exact Emt.nil (m_putNumber hN hv h3 (by rw [List.length_append]; show _ + 1 + 6 ≤ _; omega))
          · rw [r_if_f (show ¬ nI a.1 = 15 from fun z => d15 ((nI_eq (b := 15) (by omega) (by omega)).mp z)), if_neg d15]
            exact Emt.ret h2
end RPRT2
