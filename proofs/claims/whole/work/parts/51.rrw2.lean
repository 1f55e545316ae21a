/-! LAYER 2: the reference reads a row of the text -/
section RRW2
variable {N : Nat} {M : hM} {m p : Nat} {s s' s'' : rS} {f : Nat → Int32} {n k : Nat} {st : aP}
theorem pRow_s : pRow f n st k = if cL (sgn f n (sp f n k)) then (if fsI (fun i => isTx f (sp f n k) (we f n (sp f n k)) (ktx i)) 12 0 = 12 then .inl (sp f n k) else semi f n (pBd f n (sp f n k) st (we f n (sp f n k)) (fsI (fun i => isTx f (sp f n k) (we f n (sp f n k)) (ktx i)) 12 0))) else .inl (sp f n k) := rfl
theorem ktx_lt {j : Nat} (h : j < 12) : ktx j < 18 := by unfold ktx; split <;> omega
theorem m_readRow (hN : 2001 ≤ N) (hF : st.2.1.length < 250) (h : tkW s f n k) (h7 : s.1 7 = 0) (hP : PI p s st) : uSp M m p s f n ((f_MD_readRow N m).1 (ov M m s)) (pRow f n st k) := by
  have hn := h.1.2.1
  have h8 := h.1.2.2.1
  have hk := h.2.2.2.2
  have hsl := sp_le (f := f) hk
  have k30 : kr p s (va_up s.1 30 (nI (sp f n k)), s.2) := kr_I (by omega)
  have h' : tkW (va_up s.1 30 (nI (sp f n k)), s.2) f n k := h
  have e1 : (f_MD_readRow N m).1 (ov M m s) = (f_MD_readRow_15 N m N (kvl f n (sp f n k)) 0).1 (ov M m (va_up s.1 30 (nI (sp f n k)), s.2)) := by
    rw [e_MD_readRow]
    refine (mI_3.trans ?_)
    rw [h.2.1]
    refine mP_30.trans ?_
    refine (mI_is.trans r_callE).trans ?_
    rw [m_key hN h', Option.bind_some]
  rw [e1]
  refine uSp.mono ?_ k30
  have hP' : PI p (va_up s.1 30 (nI (sp f n k)), s.2) st := hP
  have g30 : (va_up s.1 30 (nI (sp f n k)), s.2).1 30 = nI (sp f n k) := rfl
  have g7 : (va_up s.1 30 (nI (sp f n k)), s.2).1 7 = 0 := h7
  clear e1 k30 hP h h7
  generalize (va_up s.1 30 (nI (sp f n k)), s.2) = s0 at *
  have hc := hP'.1.2.2.2.2.2.2.2.2
  have bad : ∀ kv, (rwE N m kv (nI 12)).1 (ov M m s0) = some ((), ov M m (va_up s0.1 7 (wr (sp f n k)), s0.2)) := by
    intro kv
    unfold rwE
    rw [r_let, r_let, r_let, r_let, r_if_t (show nI 12 = 12 from rfl)]
    simp only [mI_3, h'.2.1, mI_is, r_callE, m_fail0 g7, Option.bind_some, r_ret]
    rfl
  rw [pRow_s]
  by_cases c1 : cL (sgn f n (sp f n k))
  · rw [if_pos c1]
    obtain ⟨q1, q2⟩ := cL_in c1
    have hL := m_row_loop (N := N) (M := M) (m := m) (s := s0) (P := fun i => isTx f (sp f n k) (we f n (sp f n k)) (ktx i)) (kv := kvl f n (sp f n k)) hc (fun j hj => by
      have := key_iff (t := ktx j) (f := f) (n := n) (q := sp f n k) (ktx_lt hj) h8
      exact ⟨fun z => (this.mp z).2, fun z => this.mpr ⟨⟨q1, q2⟩, z⟩⟩) 12 N 0 (by omega) (by omega)
    rw [show (0 : Int32) = nI 0 from rfl, hL]
    have hle := fsI_ge (P := fun i => isTx f (sp f n k) (we f n (sp f n k)) (ktx i)) 12 0
    have hpp := fsI_P (P := fun i => isTx f (sp f n k) (we f n (sp f n k)) (ktx i)) 12 0
    generalize fsI (fun i => isTx f (sp f n k) (we f n (sp f n k)) (ktx i)) 12 0 = i at *
    by_cases c2 : i = 12
    · rw [if_pos c2, c2]
      exact ⟨_, bad _, kr_I (by omega), rfl⟩
    · rw [if_neg c2]
      have hi : i < 12 := by omega
      have kne : ¬ lg_cmp (kvl f n (sp f n k)) 0 = 0 := fun z => by
        have e1 := lg_eq.mp z
        have e2 := (key_iff (t := ktx i) (f := f) (n := n) (q := sp f n k) (ktx_lt hi) h8).mpr ⟨⟨q1, q2⟩, hpp (by omega)⟩
        exact (kC_dec ⟨ktx i, ktx_lt hi⟩).2.2.1 (e2.symm.trans e1)
      have hi1 : ¬ (nI i < 0 ∨ 12 ≤ (nI i).toNatClampNeg) := nI_in (by omega) (by decide)
      have hcl := nI_clamp (n := i) (by omega)
      have e4 := te_L (f := f) q1 q2
      have hwe := we_le (f := f) (Nat.le_of_lt q1)
      obtain ⟨s1, r1, r2, r3, r4, r5⟩ := m_nextK (N := N) (M := M) (m := m) (s := (va_up s0.1 31 (nI (kdf i)), s0.2)) (k := we f n (sp f n k)) hN h'.1 (by rw [← e4]; exact h'.2.2.2.1) hwe
      have k31 : kr p s0 (va_up s0.1 31 (nI (kdf i)), s0.2) := kr_I (by omega)
      have hP1 : PI p s1 st := PI.q (s := (va_up s0.1 31 (nI (kdf i)), s0.2)) hP' r3.q
      have w30 : s1.1 30 = nI (sp f n k) := (r3.2 30 (by omega) (by omega)).trans g30
      have w31 : s1.1 31 = nI (kdf i) := r3.2 31 (by omega) (by omega)
      have w7 : s1.1 7 = 0 := r4.trans g7
      obtain ⟨le1, le2⟩ := pBd_le (f := f) (n := n) (st := st) (q0 := sp f n k) (i := i) (q := sp f n k) hsl hsl rfl
      refine uSp.mono ?_ (k31.tr r3.q.r)
      unfold rwE
      rw [r_let, r_let, r_let, r_let, r_if_f (show ¬ nI i = 12 from fun z => c2 ((nI_eq (b := 12) (by omega) (by omega)).mp z)), r_if_f kne]
      simp only [mR_10, r_nn, mA_4 hi1, hcl, (hc.1 i hi).2, mP_31, mI_is, r_callE, r1, Option.bind_some]
      have hcase : i = 0 ∨ i = 1 ∨ i = 2 ∨ i = 3 ∨ i = 4 ∨ i = 5 ∨ i = 6 ∨ i = 7 ∨ i = 8 ∨ i = 9 ∨ i = 10 ∨ i = 11 := by omega
      clear hL r1 hpp kne bad hcl hi1 hle hi c2
      rcases hcase with e | e | e | e | e | e | e | e | e | e | e | e <;> subst e
      · have w : s1.1 31 = 0 := w31
        have hq0 := hsl
        have hB := m_readNeed (N := N) (M := M) (m := m) (q0 := sp f n k) hN hsl r2.w w7 hP1 w30 w31
        have hU : uSp M m p s1 f n ((f_MD_readNeed N m).1 (ov M m s1)) (pNd f n (sp f n k) st (we f n (sp f n k))) := by
          revert hB
          cases pNd f n (sp f n k) st (we f n (sp f n k)) with
          | inl w => exact id
          | inr x => rintro ⟨s2, a, b, c, d, e, _⟩; exact ⟨s2, a, b, c, d, e⟩
        refine uSp.eq mI_31 ?_
        rw [w, r_if_t (show (0 : Int32) = 0 by decide)]
        exact m_rowEnd hN hn le1 hU
      · have w : s1.1 31 = 5 := w31
        have hq0 := hsl
        have hU := (m_readRanged (N := N) (M := M) (m := m) (q0 := sp f n k) (kd := 5) hN r2.w w7 hP1 w31 (by omega) (by omega) w30).u
        refine uSp.eq mI_31 ?_
        rw [w, r_if_f (show ¬ (5 : Int32) = 0 by decide)]
        refine uSp.eq mI_31 ?_
        rw [w, r_if_t (show (5 : Int32) = 5 by decide)]
        exact m_rowEnd hN hn le1 hU
      · have w : s1.1 31 = 6 := w31
        have hq0 := hsl
        have hU := (m_readRanged (N := N) (M := M) (m := m) (q0 := sp f n k) (kd := 6) hN r2.w w7 hP1 w31 (by omega) (by omega) w30).u
        refine uSp.eq mI_31 ?_
        rw [w, r_if_f (show ¬ (6 : Int32) = 0 by decide)]
        refine uSp.eq mI_31 ?_
        rw [w, r_if_f (show ¬ (6 : Int32) = 5 by decide)]
        refine uSp.eq mI_31 ?_
        rw [w, r_if_t (show (6 : Int32) = 6 by decide)]
        exact m_rowEnd hN hn le1 hU
      · have w : s1.1 31 = 7 := w31
        have hq0 := hsl
        have hU := (m_readPlain (N := N) (M := M) (m := m) (q0 := sp f n k) (kd := 7) hN hsl (by omega) r2.w w7 hP1 w31 w30).u
        refine uSp.eq mI_31 ?_
        rw [w, r_if_f (show ¬ (7 : Int32) = 0 by decide)]
        refine uSp.eq mI_31 ?_
        rw [w, r_if_f (show ¬ (7 : Int32) = 5 by decide)]
        refine uSp.eq mI_31 ?_
        rw [w, r_if_f (show ¬ (7 : Int32) = 6 by decide)]
        refine uSp.eq mI_31 ?_
        rw [w, r_if_f (show ¬ (7 : Int32) = 8 by decide)]
        refine uSp.eq mI_31 ?_
        rw [w, r_if_f (show ¬ (7 : Int32) = 9 by decide)]
        refine uSp.eq mI_31 ?_
        rw [w, r_if_t (show (7 : Int32) ≤ 9 by decide)]
        exact m_rowEnd hN hn le1 hU
      · have w : s1.1 31 = 8 := w31
        have hq0 := hsl
        have hU := (m_readAny (N := N) (M := M) (m := m) (q0 := sp f n k) hN hsl r2.w w7 hP1 w31 w30).u
        refine uSp.eq mI_31 ?_
        rw [w, r_if_f (show ¬ (8 : Int32) = 0 by decide)]
        refine uSp.eq mI_31 ?_
        rw [w, r_if_f (show ¬ (8 : Int32) = 5 by decide)]
        refine uSp.eq mI_31 ?_
        rw [w, r_if_f (show ¬ (8 : Int32) = 6 by decide)]
        refine uSp.eq mI_31 ?_
        rw [w, r_if_t (show (8 : Int32) = 8 by decide)]
        exact m_rowEnd hN hn le1 hU
      · have w : s1.1 31 = 9 := w31
        have hq0 := hsl
        have hU := (m_readFeature (N := N) (M := M) (m := m) (q0 := sp f n k) hN hsl hF r2.w w7 hP1 w31 w30).u
        refine uSp.eq mI_31 ?_
        rw [w, r_if_f (show ¬ (9 : Int32) = 0 by decide)]
        refine uSp.eq mI_31 ?_
        rw [w, r_if_f (show ¬ (9 : Int32) = 5 by decide)]
        refine uSp.eq mI_31 ?_
        rw [w, r_if_f (show ¬ (9 : Int32) = 6 by decide)]
        refine uSp.eq mI_31 ?_
        rw [w, r_if_f (show ¬ (9 : Int32) = 8 by decide)]
        refine uSp.eq mI_31 ?_
        rw [w, r_if_t (show (9 : Int32) = 9 by decide)]
        exact m_rowEnd hN hn le1 hU
      · have w : s1.1 31 = 10 := w31
        have hq0 := hsl
        have hU := (m_readNames (N := N) (M := M) (m := m) (b2 := 0) (L2 := 0) (q0 := sp f n k) (kd := 10) (ot := []) hN hsl (by omega) (by omega) (by omega) rfl r2.w w7 hP1 w31 w30).u
        refine uSp.eq mI_31 ?_
        rw [w, r_if_f (show ¬ (10 : Int32) = 0 by decide)]
        refine uSp.eq mI_31 ?_
        rw [w, r_if_f (show ¬ (10 : Int32) = 5 by decide)]
        refine uSp.eq mI_31 ?_
        rw [w, r_if_f (show ¬ (10 : Int32) = 6 by decide)]
        refine uSp.eq mI_31 ?_
        rw [w, r_if_f (show ¬ (10 : Int32) = 8 by decide)]
        refine uSp.eq mI_31 ?_
        rw [w, r_if_f (show ¬ (10 : Int32) = 9 by decide)]
        refine uSp.eq mI_31 ?_
        rw [w, r_if_f (show ¬ (10 : Int32) ≤ 9 by decide)]
        refine uSp.eq mI_31 ?_
        rw [w, r_if_f (show ¬ (14 : Int32) ≤ 10 by decide)]
        exact m_rowEnd hN hn le1 hU
      · have w : s1.1 31 = 11 := w31
        have hq0 := hsl
        have hU := (m_readNames (N := N) (M := M) (m := m) (b2 := 0) (L2 := 0) (q0 := sp f n k) (kd := 11) (ot := []) hN hsl (by omega) (by omega) (by omega) rfl r2.w w7 hP1 w31 w30).u
        refine uSp.eq mI_31 ?_
        rw [w, r_if_f (show ¬ (11 : Int32) = 0 by decide)]
        refine uSp.eq mI_31 ?_
        rw [w, r_if_f (show ¬ (11 : Int32) = 5 by decide)]
        refine uSp.eq mI_31 ?_
        rw [w, r_if_f (show ¬ (11 : Int32) = 6 by decide)]
        refine uSp.eq mI_31 ?_
        rw [w, r_if_f (show ¬ (11 : Int32) = 8 by decide)]
        refine uSp.eq mI_31 ?_
        rw [w, r_if_f (show ¬ (11 : Int32) = 9 by decide)]
        refine uSp.eq mI_31 ?_
        rw [w, r_if_f (show ¬ (11 : Int32) ≤ 9 by decide)]
        refine uSp.eq mI_31 ?_
        rw [w, r_if_f (show ¬ (14 : Int32) ≤ 11 by decide)]
        exact m_rowEnd hN hn le1 hU
      · have w : s1.1 31 = 12 := w31
        have hq0 := hsl
        have hU := (m_readNames (N := N) (M := M) (m := m) (b2 := 0) (L2 := 0) (q0 := sp f n k) (kd := 12) (ot := []) hN hsl (by omega) (by omega) (by omega) rfl r2.w w7 hP1 w31 w30).u
        refine uSp.eq mI_31 ?_
        rw [w, r_if_f (show ¬ (12 : Int32) = 0 by decide)]
        refine uSp.eq mI_31 ?_
        rw [w, r_if_f (show ¬ (12 : Int32) = 5 by decide)]
        refine uSp.eq mI_31 ?_
        rw [w, r_if_f (show ¬ (12 : Int32) = 6 by decide)]
        refine uSp.eq mI_31 ?_
        rw [w, r_if_f (show ¬ (12 : Int32) = 8 by decide)]
        refine uSp.eq mI_31 ?_
        rw [w, r_if_f (show ¬ (12 : Int32) = 9 by decide)]
        refine uSp.eq mI_31 ?_
        rw [w, r_if_f (show ¬ (12 : Int32) ≤ 9 by decide)]
        refine uSp.eq mI_31 ?_
        rw [w, r_if_f (show ¬ (14 : Int32) ≤ 12 by decide)]
        exact m_rowEnd hN hn le1 hU
      · have w : s1.1 31 = 13 := w31
        have hq0 := hsl
        have hU := (m_readNames (N := N) (M := M) (m := m) (b2 := 0) (L2 := 0) (q0 := sp f n k) (kd := 13) (ot := []) hN hsl (by omega) (by omega) (by omega) rfl r2.w w7 hP1 w31 w30).u
        refine uSp.eq mI_31 ?_
        rw [w, r_if_f (show ¬ (13 : Int32) = 0 by decide)]
        refine uSp.eq mI_31 ?_
        rw [w, r_if_f (show ¬ (13 : Int32) = 5 by decide)]
        refine uSp.eq mI_31 ?_
        rw [w, r_if_f (show ¬ (13 : Int32) = 6 by decide)]
        refine uSp.eq mI_31 ?_
        rw [w, r_if_f (show ¬ (13 : Int32) = 8 by decide)]
        refine uSp.eq mI_31 ?_
        rw [w, r_if_f (show ¬ (13 : Int32) = 9 by decide)]
        refine uSp.eq mI_31 ?_
        rw [w, r_if_f (show ¬ (13 : Int32) ≤ 9 by decide)]
        refine uSp.eq mI_31 ?_
        rw [w, r_if_f (show ¬ (14 : Int32) ≤ 13 by decide)]
        exact m_rowEnd hN hn le1 hU
      · have w : s1.1 31 = 14 := w31
        have hq0 := hsl
        have hU := (m_readPlain (N := N) (M := M) (m := m) (q0 := sp f n k) (kd := 14) hN hsl (by omega) r2.w w7 hP1 w31 w30).u
        refine uSp.eq mI_31 ?_
        rw [w, r_if_f (show ¬ (14 : Int32) = 0 by decide)]
        refine uSp.eq mI_31 ?_
        rw [w, r_if_f (show ¬ (14 : Int32) = 5 by decide)]
        refine uSp.eq mI_31 ?_
        rw [w, r_if_f (show ¬ (14 : Int32) = 6 by decide)]
        refine uSp.eq mI_31 ?_
        rw [w, r_if_f (show ¬ (14 : Int32) = 8 by decide)]
        refine uSp.eq mI_31 ?_
        rw [w, r_if_f (show ¬ (14 : Int32) = 9 by decide)]
        refine uSp.eq mI_31 ?_
        rw [w, r_if_f (show ¬ (14 : Int32) ≤ 9 by decide)]
        refine uSp.eq mI_31 ?_
        rw [w, r_if_t (show (14 : Int32) ≤ 14 by decide)]
        exact m_rowEnd hN hn le1 hU
      · have w : s1.1 31 = 15 := w31
        have hq0 := hsl
        have hU := (m_readPlain (N := N) (M := M) (m := m) (q0 := sp f n k) (kd := 15) hN hsl (by omega) r2.w w7 hP1 w31 w30).u
        refine uSp.eq mI_31 ?_
        rw [w, r_if_f (show ¬ (15 : Int32) = 0 by decide)]
        refine uSp.eq mI_31 ?_
        rw [w, r_if_f (show ¬ (15 : Int32) = 5 by decide)]
        refine uSp.eq mI_31 ?_
        rw [w, r_if_f (show ¬ (15 : Int32) = 6 by decide)]
        refine uSp.eq mI_31 ?_
        rw [w, r_if_f (show ¬ (15 : Int32) = 8 by decide)]
        refine uSp.eq mI_31 ?_
        rw [w, r_if_f (show ¬ (15 : Int32) = 9 by decide)]
        refine uSp.eq mI_31 ?_
        rw [w, r_if_f (show ¬ (15 : Int32) ≤ 9 by decide)]
        refine uSp.eq mI_31 ?_
        rw [w, r_if_t (show (14 : Int32) ≤ 15 by decide)]
        exact m_rowEnd hN hn le1 hU
  · rw [if_neg c1]
    have hL := m_row_loop (N := N) (M := M) (m := m) (s := s0) (P := fun _ => False) (kv := kvl f n (sp f n k)) hc (fun j hj => by
      have := key_iff (t := ktx j) (f := f) (n := n) (q := sp f n k) (ktx_lt hj) h8
      exact ⟨fun z => c1 (by have y := (this.mp z).1; rw [sgn_at y.1]; exact y.2), fun z => z.elim⟩) 12 N 0 (by omega) (by omega)
    have e5 : fsI (fun _ => False) 12 0 = 12 := by
      have a := fsI_ge (P := fun _ => False) 12 0
      by_cases c : fsI (fun _ => False) 12 0 < 0 + 12
      · exact (fsI_P (P := fun _ => False) 12 0 c).elim
      · omega
    rw [show (0 : Int32) = nI 0 from rfl, hL, e5]
    exact ⟨_, bad _, kr_I (by omega), rfl⟩
end RRW2
