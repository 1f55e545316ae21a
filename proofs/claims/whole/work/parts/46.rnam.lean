/-! LAYER 2: the reference reads names with commas -/
section RNAM
variable {N : Nat} {M : hM} {m p : Nat} {s s' s'' : rS} {f : Nat → Int32} {n k : Nat} {st : aP}
theorem PI0.d (h : PI0 p s st) (h1 : ∀ j, j ≠ 34 → s'.1 j = s.1 j) (h2 : ∀ j, j ≠ 21 → j ≠ 22 → s'.2.2.1 j = s.2.2.1 j) (h3 : s'.2.2.2 = s.2.2.2) : PI0 p s' st := by
  obtain ⟨a1, a2, a3, a4, a5, a6, a7, a8, a9⟩ := h
  refine ⟨(h1 11 (by omega)).trans a1, a2, (h1 28 (by omega)).trans a3, a4, (h1 29 (by omega)).trans a5, fun i x hx => ⟨?_, (a6 i x hx).2⟩, ?_, ?_, ?_⟩
  · have := (a6 i x hx).1
    unfold RRow at *
    rw [h2 12 (by omega) (by omega), h2 13 (by omega) (by omega), h2 14 (by omega) (by omega), h2 15 (by omega) (by omega), h2 16 (by omega) (by omega), h2 17 (by omega) (by omega), h2 20 (by omega) (by omega), h3]
    exact this
  · rw [h2 7 (by omega) (by omega)]; exact a7
  · intro i w hw; unfold FF; rw [h2 11 (by omega) (by omega), h2 10 (by omega) (by omega)]; exact a8 i w hw
  · unfold cS; rw [h2 4 (by omega) (by omega), h3]; exact a9
theorem kr.d (h1 : ∀ j, j ≠ 34 → s'.1 j = s.1 j) (h2 : ∀ j, j ≠ 21 → j ≠ 22 → s'.2.2.1 j = s.2.2.1 j) (h3 : s'.2.2.2 = s.2.2.2) : kr p s s' := by
  refine ⟨⟨h1 2 (by omega), h1 11 (by omega), h1 39 (by omega), h1 43 (by omega)⟩, fun j i c => ?_, fun j i c => by rw [h3]⟩
  rw [h2 j (fun e => by subst e; exact c) (fun e => by subst e; exact c)]
theorem nam_stop {fu : Nat} {p0 p1 : Int32} : (f_MD_readNames_2 N m p0 p1 (fu + 1) 0).1 (ov M m s) = some ((), ov M m s) := by
  rw [e_MD_readNames_2, r_let, r_if_t rfl]; rfl
/-- behind a name: is there a comma -/
def nmE (N m : Nat) (p0 p1 : Int32) (fu : Nat) : hX Unit := b_let (fun (y0 : Int32) => b_let (fun (x3 : Int32) => f_MD_readNames_2 N m p0 p1 fu x3) (fun J119 => (if y0 = 0 then J119 y0 else b_is m 1 (b_call (f_MD_next N m) (fun _ => J119 y0))))) (fun J110 => b_let (J110 0) (fun J109 => b_is m 1 (b_call (f_MD_isWrong N m) (fun v5 => (if v5 = 0 then b_getI m 1 5 (fun v9 => (if v9 = 44 then J110 1 else J109)) else J109)))))
theorem nmE_W {fu : Nat} {p0 p1 : Int32} (h7 : ¬ s.1 7 = 0) : (nmE N m p0 p1 (fu + 1)).1 (ov M m s) = some ((), ov M m s) := by
  unfold nmE
  simp only [r_let, mI_is, r_callE, m_isWrong, h7, not_false_eq_true, Option.bind_some, bI, if_true, show ¬ (1 : Int32) = 0 by decide, if_false, nam_stop]
theorem m_names_loop {b2 L2 q0 kd : Nat} {ot : List Int32} (hN : 2001 ≤ N) (hq0 : q0 ≤ n) (hkd : kd < 16) (hb2 : b2 + L2 ≤ 2000) (hL2 : L2 ≤ 20) (e2 : wd (tx f) b2 (b2 + L2) = ot) : ∀ (u fu : Nat) (s : rS) (st : aP) (k : Nat), 200 < u + st.1.length → u + 1 < fu → tkW s f n k → s.1 7 = 0 → PI p s st → s.1 31 = nI kd → s.1 30 = nI q0 →
    pSp M m p s f n ((f_MD_readNames_2 N m (nI b2) (nI L2) fu 1).1 (ov M m s)) (pNm f n q0 kd ot u st k) := by
  intro u
  induction u with
  | zero => intro fu s st k h1 h2 hW h7 hP h31 h30; exact absurd hP.1.2.2.2.1 (by omega)
  | succ u ih =>
    intro fu s st k h1 h2 hW h7 hP h31 h30
    obtain ⟨fu, rfl⟩ : ∃ g, fu = g + 1 := ⟨fu - 1, by omega⟩
    obtain ⟨fu', hfu'⟩ : ∃ g, fu = g + 1 := ⟨fu - 1, by omega⟩
    have hn := hW.1.2.1
    have hk := hW.2.2.2.2
    have h8 := hW.1.2.2.1
    rw [e_MD_readNames_2, r_let, r_if_f (show ¬ (1 : Int32) = 0 by decide)]
    refine pSp.eq (mI_is.trans r_callE) ?_
    rw [m_isWrong, Option.bind_some, bI_f (show ¬ ¬ s.1 7 = 0 from fun z => z h7), r_if_t rfl]
    refine pSp.eq (mI_is.trans r_callE) ?_
    have hT := m_takeName (N := N) (M := M) (m := m) hN hW h7
    rw [show pNm f n q0 kd ot (u + 1) st k = match nmR f n k with
      | .inl w => .inl w
      | .inr (b, e) => match adR st q0 kd b (wd f b e) ot (-1) (-1) e with
        | .inl w => .inl w
        | .inr (q, st') => if sgn f n (sp f n q) = 44 then pNm f n q0 kd ot u st' (sp f n q + 1) else .inr (sp f n q, st') from rfl]
    cases hr : nmR f n k with
    | inl w =>
      rw [hr] at hT
      obtain ⟨s1, v, r1, r2, r3⟩ := hT
      have hw := wNe r3 (by have := nmR_le hk hr; omega)
      refine ⟨s1, ?_, r2.q.r, r3⟩
      rw [r1, Option.bind_some]
      refine (mI_45.trans (mI_is.trans r_callE)).trans ?_
      rw [m_addW hw, Option.bind_some, r_if_t rfl]
      rw [hfu']
      exact nmE_W hw
    | inr be =>
      obtain ⟨b, e⟩ := be
      rw [hr] at hT
      obtain ⟨s1, r1, r2, r3, r4, r5⟩ := hT
      obtain ⟨_, _, g1, g2, g3, g4, _⟩ := nmR_in hr
      dsimp only
      rw [r1, Option.bind_some]
      refine pSp.eq (mI_45.trans (mI_is.trans r_callE)) ?_
      rw [r5]
      have e30 := r3.2 30 (by omega) (by omega)
      have e31 := r3.2 31 (by omega) (by omega)
      have hA := m_add (N := N) (M := M) (m := m) (lo := -1) (hi := -1) (b2 := b2) (L2 := L2) hN r2.1 r4 (hP.q r3.q).1 (e31.trans h31) hkd (e30.trans h30) (by omega) g4 hb2 hL2 (nmR_tx h8 hr) e2 b
      unfold adR
      by_cases c : st.1.length = 200
      · rw [if_pos c] at hA ⊢
        obtain ⟨s2, u1, u2, u3⟩ := hA
        have hw := wNe u3 (by omega)
        refine ⟨s2, ?_, r3.q.r.tr u2, u3⟩
        rw [u1, Option.bind_some, r_if_t rfl, hfu']
        exact nmE_W hw
      · rw [if_neg c] at hA ⊢
        dsimp only
        obtain ⟨s2, u1, u2, u3, u4, u5, u6⟩ := hA
        rw [u1, Option.bind_some, r_if_f (show ¬ (1 : Int32) = 0 by decide)]
        have w31 : s2.1 31 = nI kd := (u3 31 (by omega)).trans (e31.trans h31)
        have w30 : s2.1 30 = nI q0 := (u3 30 (by omega)).trans (e30.trans h30)
        have hPD := (hP.q r3.q).2.add (u3 34 (by omega)) u5 u6
        have w7 : s2.1 7 = 0 := (u3 7 (by omega)).trans r4
        have hW2 : tkW s2 f n e := r2.w.of (fun j h1 h2 => u3 j (by omega)) u2.txt
        refine pSp.mono ?_ (r3.q.r.tr u2) ((u3 30 (by omega)).trans e30) ((u3 31 (by omega)).trans e31)
        refine pSp.eq mI_31 ?_
        rw [w31]
        have fin : ∀ s3 : rS, tkW s3 f n e → kr p s2 s3 → s3.1 7 = 0 → PI p s3 (st.1 ++ [((kd, if kd = 8 then nI st.2.2 else -1, wd f b e, ot, -1, -1, false), b)], st.2) → s3.1 30 = s2.1 30 → s3.1 31 = s2.1 31 → pSp M m p s2 f n ((nmE N m (nI b2) (nI L2) fu).1 (ov M m s3)) (if sgn f n (sp f n e) = 44 then pNm f n q0 kd ot u (st.1 ++ [((kd, if kd = 8 then nI st.2.2 else -1, wd f b e, ot, -1, -1, false), b)], st.2) (sp f n e + 1) else .inr (sp f n e, st.1 ++ [((kd, if kd = 8 then nI st.2.2 else -1, wd f b e, ot, -1, -1, false), b)], st.2)) := by
          intro s3 x1 x2 x3 x4 x5 x6
          refine pSp.mono ?_ x2 x5 x6
          unfold nmE
          rw [r_let, r_let]
          refine pSp.eq (mI_is.trans r_callE) ?_
          rw [m_isWrong, Option.bind_some, bI_f (show ¬ ¬ s3.1 7 = 0 from fun z => z x3), r_if_t rfl]
          refine pSp.eq mI_5 ?_
          have c44 := tw_c (f := f) (n := n) (q := sp f n e) (c := 44) h8 (by decide) (by decide) (by decide) (by decide) (by decide) (by decide)
          rw [x1.2.2.1]
          by_cases d : sgn f n (sp f n e) = 44
          · rw [r_if_t (c44.mpr d), if_pos d]
            obtain ⟨q1, q2⟩ := te_c (f := f) (n := n) (c := 44) (by decide) (by decide) (by decide) (by decide) (by decide) d
            obtain ⟨s4, y1, y2, y3, y4, y5⟩ := m_nextK (N := N) (M := M) (m := m) (k := sp f n e + 1) hN x1.1 (by rw [x1.2.2.2.1, q2]) (by omega)
            dsimp only
            rw [r_let, r_if_f (show ¬ (1 : Int32) = 0 by decide)]
            refine pSp.eq (mI_is.trans r_callE) ?_
            rw [y1, Option.bind_some]
            have f30 := y3.2 30 (by omega) (by omega)
            have f31 := y3.2 31 (by omega) (by omega)
            refine (ih fu s4 _ _ ?_ (by omega) y2.w (y4.trans x3) (x4.q y3.q) (f31.trans (x6.trans w31)) (f30.trans (x5.trans w30))).mono y3.q.r f30 f31
            show 200 < u + (st.1 ++ _).length
            rw [List.length_append]
            show 200 < u + (st.1.length + 1)
            omega
          · rw [r_if_f (fun z => d (c44.mp z)), if_neg d]
            refine ⟨s3, ?_, x1.sp, kr.rf, x3, x4, rfl, rfl⟩
            rw [r_let, r_if_t rfl, hfu']
            exact nam_stop
        by_cases c10 : kd = 10
        · rw [r_if_t (show nI kd = 10 by rw [c10]; rfl)]
          have hD : (dfl st).length ≤ 200 := Nat.le_trans (List.length_filter_le _ _) hP.1.2.2.2.1
          have hi1 : ¬ (nI (dfl st).length < 0 ∨ 201 ≤ (nI (dfl st).length).toNatClampNeg) := nI_in (by omega) (by decide)
          have hcl := nI_clamp (n := (dfl st).length) (by omega)
          have w34 : s2.1 34 = nI (dfl st).length := hPD.1
          refine pSp.eq ?_ (fin (va_up s2.1 34 (nI ((dfl st).length + 1)), s2.2.1, va_up (va_up s2.2.2.1 21 (va_up (s2.2.2.1 21) (dfl st).length (nI b))) 22 (va_up (s2.2.2.1 22) (dfl st).length (nI (e - b))), s2.2.2.2) hW2 ?_ w7 ⟨?_, ?_⟩ rfl rfl)
          · simp only [mR_35, mI_34, w34, r_nn, mS_21 hi1, hcl, mR_36, mS_22 hi1, nI_1, mP_34, ua_n (show ¬ 22 = 21 by decide)]
            rfl
          · exact kr.d (fun j hj => ua_n hj) (fun j h1 h2 => (ua_n h2).trans (ua_n h1)) rfl
          · exact u4.d (fun j hj => ua_n hj) (fun j h1 h2 => (ua_n h2).trans (ua_n h1)) rfl
          · rw [dfl_add10 c10]
            refine ⟨by rw [List.length_append]; rfl, fun i x hx => ?_⟩
            show va_up (s2.2.2.1 21) (dfl st).length (nI b) i = nI x.2 ∧ va_up (s2.2.2.1 22) (dfl st).length (nI (e - b)) i = nI x.1.2.2.1.length
            rcases app_get hx with d | ⟨d1, d2⟩
            · have hi : i < (dfl st).length := (List.getElem?_eq_some_iff.mp d).1
              rw [ua_n (by omega), ua_n (by omega)]
              exact hPD.2 i x d
            · rw [d1, d2, ua_s, ua_s]
              exact ⟨rfl, by show nI (e - b) = nI (wd f b e).length; rw [wd_len]⟩
        · rw [r_if_f (show ¬ nI kd = 10 from fun z => c10 ((nI_eq (b := 10) (by omega) (by omega)).mp z))]
          exact fin s2 hW2 kr.rf w7 ⟨u4, by rw [dfl_add c10]; exact hPD⟩ rfl rfl
theorem m_readNames {b2 L2 q0 kd : Nat} {ot : List Int32} (hN : 2001 ≤ N) (hq0 : q0 ≤ n) (hkd : kd < 16) (hb2 : b2 + L2 ≤ 2000) (hL2 : L2 ≤ 20) (e2 : wd (tx f) b2 (b2 + L2) = ot) (h : tkW s f n k) (h7 : s.1 7 = 0) (hP : PI p s st) (h31 : s.1 31 = nI kd) (h30 : s.1 30 = nI q0) :
    pSp M m p s f n ((f_MD_readNames N m (nI b2) (nI L2)).1 (ov M m s)) (pNm f n q0 kd ot 201 st k) :=
  m_names_loop hN hq0 hkd hb2 hL2 e2 201 N s st k (by omega) (by omega) h h7 hP h31 h30
end RNAM
