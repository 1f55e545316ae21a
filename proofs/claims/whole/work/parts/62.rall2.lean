/-! LAYER 2: the reference reads a text -/
/-- the first default that names no feature -/
def dfS (D : List (aR × Nat)) (fs : List (List Int32)) : Option Nat := (D.find? (fun x => !hasF x.1.2.2.1 fs)).map (fun x => x.2)
/-- a whole text: NAME, VERSION, rows and features -/
noncomputable def pTx (f : Nat → Int32) (n : Nat) : Nat ⊕ (List Int32 × Nat × aP) := match pHd f n with
  | .inl w => .inl w
  | .inr (q, nm, v) => match pRows f n (n + 1) ([], [], 0) q with
    | .inl w => .inl w
    | .inr st => match dfS (dfl st) st.2.1 with
      | some w => .inl w
      | none => .inr (nm, v, st)
section RALL2
variable {N : Nat} {M : hM} {m p : Nat} {s s' s'' : rS} {f : Nat → Int32} {n k : Nat} {st : aP}
theorem tw_E {q : Nat} (h8 : fit8 f) : tw f n q = -1 ↔ n ≤ q := by
  have hh := sx_no h8 (j := q)
  unfold tw
  by_cases h0 : n ≤ q
  · rw [if_pos h0]; exact ⟨fun _ => h0, fun _ => rfl⟩
  · rw [if_neg h0]
    refine ⟨fun z => ?_, fun z => absurd z h0⟩
    split at z
    · exact absurd z (by decide)
    · split at z
      · exact absurd z (by decide)
      · split at z
        · rename_i h3
          rcases h3.1 with e | e <;> rw [e] at z <;> exact absurd z (by decide)
        · exact absurd z hh.1
theorem PI0.pf (h : PI0 p s st) (hX : XS f n st) (hl : st.2.1.length < 250) : PF s p st.2.1 := by
  obtain ⟨a1, a2, a3, a4, a5, a6, a7, a8, a9⟩ := h
  refine ⟨a7, hl, fun i w hw => ⟨a8 i w hw, (hX.2.1 w ?_).1⟩⟩
  exact List.mem_of_getElem? hw
theorem PI.ks (h : PI p s st) (g : ks s s') : PI p s' st := by
  obtain ⟨⟨a1, a2, a3, a4, a5, a6, a7, a8, a9⟩, d1, d2⟩ := h
  refine ⟨⟨by rw [g.1]; exact a1, a2, by rw [g.1]; exact a3, a4, by rw [g.1]; exact a5, fun i x hx => (a6 i x hx).k g, by rw [g.2.2.2 7 (by omega) (by omega)]; exact a7, fun i w hw => ?_, ?_⟩, by rw [g.1]; exact d1, fun i x hx => ?_⟩
  · unfold FF; rw [g.2.2.2 11 (by omega) (by omega), g.2.2.2 10 (by omega) (by omega)]; exact a8 i w hw
  · unfold cS; rw [g.2.2.2 4 (by omega) (by omega), g.2.2.1]; exact a9
  · rw [g.2.2.2 21 (by omega) (by omega), g.2.2.2 22 (by omega) (by omega)]; exact d2 i x hx
theorem ks.r (g : ks s s') : kr p s s' := by
  refine ⟨by rw [g.1]; exact ⟨rfl, rfl, rfl, rfl⟩, fun j i c => ?_, fun j i _ => by rw [g.2.2.1]⟩
  rw [g.2.2.2 j (fun e => by subst e; exact c) (fun e => by subst e; exact c)]
/-- what the reading of the rows leaves -/
def wSp (M : hM) (m p : Nat) (s : rS) (X : Option (Unit × hM)) (res : Nat ⊕ aP) : Prop := match res with
  | .inl w => ∃ s', X = some ((), ov M m s') ∧ kr p s s' ∧ s'.1 7 = wr w
  | .inr st' => ∃ s', X = some ((), ov M m s') ∧ kr p s s' ∧ s'.1 7 = 0 ∧ PI p s' st'
theorem dflt_W {fu : Nat} {x1 x4 : Int32} (h7 : ¬ s.1 7 = 0) : (f_MD_readAll_144 N m (fu + 1) x1 x4).1 (ov M m s) = some ((), ov M m s) := by
  rw [e_MD_readAll_144, r_let]
  simp only [mI_34]
  by_cases c : s.1 34 ≤ x4
  · rw [r_if_t c]; rfl
  · rw [r_if_f c]
    simp only [mI_is, r_callE, m_isWrong, h7, not_false_eq_true, Option.bind_some, bI, if_true, show ¬ (1 : Int32) = 0 by decide, if_false, r_ret]
theorem m_dflt (hN : 2001 ≤ N) (h8 : fit8 f) (hn : n ≤ 2000) (hX : XS f n st) (hl : st.2.1.length < 250) : ∀ (d fu i : Nat) (s : rS), d + i = (dfl st).length → d < fu → tS s f n → s.1 7 = 0 → PI p s st →
    wSp M m p s ((f_MD_readAll_144 N m (fu + 1) (nI p) (nI i)).1 (ov M m s)) (match dfS ((dfl st).drop i) st.2.1 with
      | some w => .inl w
      | none => .inr st) := by
  have hD : (dfl st).length ≤ 200 := Nat.le_trans (List.length_filter_le _ _) hX.2.2
  intro d
  induction d with
  | zero =>
    intro fu i s h1 h2 hS h7 hP
    rw [List.drop_eq_nil_of_le (by omega)]
    refine ⟨s, ?_, kr.rf, h7, hP⟩
    rw [e_MD_readAll_144, r_let]
    simp only [mI_34, hP.2.1, show nI (dfl st).length ≤ nI i from nI_le (by omega) (by omega), if_true, r_ret]
  | succ d ih =>
    intro fu i s h1 h2 hS h7 hP
    have hi : i < (dfl st).length := by omega
    have hget : (dfl st)[i]? = some (dfl st)[i] := List.getElem?_eq_getElem hi
    have hmem : (dfl st)[i] ∈ dfl st := List.getElem_mem hi
    have hmem2 : (dfl st)[i] ∈ st.1 := (List.mem_filter.mp hmem).1
    obtain ⟨⟨w1, w2, w3, w4, w5, w6, w7, w8⟩, w9, w10, w11⟩ := hX.1 _ hmem2
    obtain ⟨e21, e22⟩ := hP.2.2 i _ hget
    have i1 : ¬ (nI i < 0 ∨ 201 ≤ (nI i).toNatClampNeg) := nI_in (by omega) (by decide)
    have c1 := nI_clamp (n := i) (by omega)
    have hA : nAt M m s 1 (dfl st)[i].2 (dfl st)[i].1.2.2.1 := by
      refine ⟨2000, by decide, ld_1, by omega, fun j hj => ?_, w2, by decide, by decide⟩
      rw [hS.2.2.2]
      have e := w10 j hj
      have hm : (dfl st)[i].1.2.2.1.getD j 0 ∈ (dfl st)[i].1.2.2.1 := by rw [List.getD_eq_getElem?_getD, List.getElem?_eq_getElem hj]; exact List.getElem_mem hj
      have hc := (w2.2.1 _ hm).1
      rw [← e] at hc ⊢
      refine sx_id h8 ?_
      rcases hc with z | z | z
      · exact Or.inl z
      · exact Or.inr (Or.inl z)
      · exact Or.inr (Or.inr (Or.inl z))
    obtain ⟨s1, r1, r2⟩ := m_isFeature (N := N) (M := M) (m := m) hN hP.1.2.1 hA (hP.1.pf hX hl)
    rw [e_MD_readAll_144, r_let]
    simp only [mI_34, hP.2.1, show ¬ nI (dfl st).length ≤ nI i from nI_ge (by omega) (by omega), if_false, mI_is, r_callE, m_isWrong, h7, not_true_eq_false, Option.bind_some, bI, if_true, mR_1, mR_35, r_nn, mA_21 i1, c1, e21, mR_36, mA_22 i1, e22, r1]
    rw [List.drop_eq_getElem_cons hi]
    unfold dfS
    rw [List.find?_cons]
    have hP1 := hP.ks r2
    have hS1 : tS s1 f n := ⟨by rw [r2.1]; exact hS.1, hn, h8, by rw [r2.2.2.2 1 (by omega) (by omega)]; exact hS.2.2.2⟩
    by_cases c : hasF (dfl st)[i].1.2.2.1 st.2.1 = true
    · rw [c, show (!true) = false from rfl, r_if_f (show ¬ bZ true = 0 by decide), nI_1]
      dsimp only
      obtain ⟨fu', rfl⟩ : ∃ g, fu = g + 1 := ⟨fu - 1, by omega⟩
      have := ih fu' (i + 1) s1 (by omega) (by omega) hS1 (by rw [r2.1]; exact h7) hP1
      unfold dfS at this
      revert this
      generalize (match Option.map (fun x => x.snd) (List.find? (fun x => !hasF x.fst.snd.snd.fst st.snd.fst) (List.drop (i + 1) (dfl st))) with
        | some w => (Sum.inl w : Nat ⊕ aP)
        | none => Sum.inr st) = res
      intro this
      rcases res with w | st'
      · obtain ⟨s2, x1, x2, x3⟩ := this
        exact ⟨s2, x1, r2.r.tr x2, x3⟩
      · obtain ⟨s2, x1, x2, x3⟩ := this
        exact ⟨s2, x1, r2.r.tr x2, x3⟩
    · have c' : hasF (dfl st)[i].1.2.2.1 st.2.1 = false := by cases h : hasF (dfl st)[i].1.2.2.1 st.2.1; rfl; exact absurd h c
      rw [c']

      rw [r_if_t (show bZ false = 0 by decide)]
      have g21 : s1.2.2.1 21 i = nI (dfl st)[i].2 := by rw [r2.2.2.2 21 (by omega) (by omega)]; exact e21
      have w7' : s1.1 7 = 0 := by rw [r2.1]; exact h7
      have hw : ¬ (va_up s1.1 7 (wr (dfl st)[i].2), s1.2).1 7 = 0 := wr_ne (q := (dfl st)[i].2) (by omega)
      obtain ⟨fu', rfl⟩ : ∃ g, fu = g + 1 := ⟨fu - 1, by omega⟩
      refine ⟨(va_up s1.1 7 (wr (dfl st)[i].2), s1.2), ?_, r2.r.tr (kr_I (by omega)), rfl⟩
      simp only [mR_35, r_nn, mA_21 i1, c1, g21, mI_is, r_callE, m_fail0 w7', Option.bind_some]
      exact dflt_W hw
theorem pRow_le {w : Nat} (hk : k ≤ n) (h : pRow f n st k = .inl w) : w ≤ n := by
  have hsl := sp_le (f := f) hk
  rw [pRow_s] at h
  split at h
  · split at h
    · cases h; exact hsl
    · obtain ⟨l1, l2⟩ := pBd_le (f := f) (n := n) (st := st) (q0 := sp f n k) (i := fsI (fun i => isTx f (sp f n k) (we f n (sp f n k)) (ktx i)) 12 0) (q := sp f n k) hsl hsl rfl
      cases hb : pBd f n (sp f n k) st (we f n (sp f n k)) (fsI (fun i => isTx f (sp f n k) (we f n (sp f n k)) (ktx i)) 12 0) with
      | inl w' => rw [hb] at h; cases h; exact l1 w hb
      | inr x =>
        obtain ⟨q, st'⟩ := x
        rw [hb] at h
        unfold semi at h
        dsimp only at h
        split at h
        · cases h
        · cases h; exact sp_le (l2 q st' hb).2.1
  · cases h; exact hsl
theorem m_rows_loop (hN : 2001 ≤ N) : ∀ (u fu k : Nat) (s : rS) (st : aP), n - k < u → u < fu → tkW s f n k → s.1 7 = 0 → PI p s st → XS f n st → st.2.2 ≤ k → 11 * st.2.1.length ≤ k →
    wSp M m p s ((f_MD_readAll_119 N m fu (nI p)).1 (ov M m s)) (match pRows f n u st k with
      | .inl w => .inl w
      | .inr st' => match dfS (dfl st') st'.2.1 with
        | some w => .inl w
        | none => .inr st') := by
  obtain ⟨N', hN'⟩ : ∃ g, N = g + 1 := ⟨N - 1, by omega⟩
  intro u
  induction u with
  | zero => intro fu k s st h1; omega
  | succ u ih =>
    intro fu k s st h1 h2 hW h7 hP hX hs hF
    obtain ⟨fu, rfl⟩ : ∃ g, fu = g + 1 := ⟨fu - 1, by omega⟩
    have hn := hW.1.2.1
    have h8 := hW.1.2.2.1
    have hk := hW.2.2.2.2
    have hE := tw_E (f := f) (n := n) (q := sp f n k) h8
    rw [e_MD_readAll_119, r_let]
    simp only [mI_is, r_callE, m_isWrong, h7, not_true_eq_false, Option.bind_some, bI, if_false, if_true, mI_5, hW.2.2.1]
    rw [show pRows f n (u + 1) st k = if n ≤ sp f n k then .inr st else match pRow f n st (sp f n k) with
      | .inl w => .inl w
      | .inr (q, st') => pRows f n u st' q from rfl]
    by_cases c : n ≤ sp f n k
    · rw [r_if_t (hE.mpr c), if_pos c]
      dsimp only
      have := m_dflt (N := N) (M := M) (m := m) (p := p) hN h8 hn hX (by omega) (dfl st).length N' 0 s (by omega) (by have : (dfl st).length ≤ 200 := Nat.le_trans (List.length_filter_le _ _) hX.2.2; omega) hW.1 h7 hP
      rw [List.drop_zero, ← hN'] at this
      exact this
    · rw [r_if_f (fun z => c (hE.mp z)), if_neg c]
      have hR := m_readRow (N := N) (M := M) (m := m) hN (by omega) hW.sp h7 hP
      have hsl := sp_le (f := f) hk
      have hsg := sp_ge (f := f) (n := n) (k := k)
      simp only [mI_is, r_callE]
      cases hr : pRow f n st (sp f n k) with
      | inl w =>
        rw [hr] at hR
        obtain ⟨s1, x1, x2, x3⟩ := hR
        have hw : w ≤ 2000 := by
          have := pRow_le hsl hr
          omega
        have hw' := wNe x3 hw
        refine ⟨s1, ?_, x2, x3⟩
        rw [x1, Option.bind_some]
        obtain ⟨fu', rfl⟩ : ∃ g, fu = g + 1 := ⟨fu - 1, by omega⟩
        rw [e_MD_readAll_119, r_let]
        simp only [mI_is, r_callE, m_isWrong, hw', not_false_eq_true, Option.bind_some, bI, if_true, show ¬ (1 : Int32) = 0 by decide, if_false]
        have := dflt_W (N := N) (M := M) (m := m) (s := s1) (fu := N') (x1 := nI p) (x4 := 0) hw'
        rw [← hN'] at this
        exact this
      | inr x =>
        obtain ⟨q, st'⟩ := x
        rw [hr] at hR
        obtain ⟨s1, x1, x2, x3, x4, x5⟩ := hR
        obtain ⟨i1, i2, i3, i4, i5⟩ := pRow_inv h8 hn hsl hX (by omega) (by omega) hr
        rw [x1, Option.bind_some]
        dsimp only
        have := ih fu q s1 st' (by omega) (by omega) x2 x4 x5 i1 i2 i3
        revert this
        generalize (match pRows f n u st' q with
          | .inl w => (Sum.inl w : Nat ⊕ aP)
          | .inr st' => match dfS (dfl st') st'.2.1 with
            | some w => .inl w
            | none => .inr st') = res
        intro this
        rcases res with w | st''
        · obtain ⟨s2, y1, y2, y3⟩ := this
          exact ⟨s2, y1, x3.tr y2, y3⟩
        · obtain ⟨s2, y1, y2, y3⟩ := this
          exact ⟨s2, y1, x3.tr y2, y3⟩
end RALL2
