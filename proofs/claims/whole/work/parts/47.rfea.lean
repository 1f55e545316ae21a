/-! LAYER 2: the reference reads features, scripts, files -/
section RFEA
variable {N : Nat} {M : hM} {m p : Nat} {s s' s'' : rS} {f : Nat → Int32} {n k : Nat} {st : aP}
theorem lm_f {r j i : Nat} (hr : 250 * p ≤ r) (h : lm p j i) : ¬ ((j = 11 ∧ i = r) ∨ (j = 10 ∧ 20 * r ≤ i ∧ i < 20 * r + 20) ∨ (j = 7 ∧ i = p)) := by
  intro c
  rcases c with ⟨e, hi⟩ | ⟨e, hi⟩ | ⟨e, hi⟩ <;> subst e
  · have : i < 250 * p := h; omega
  · have : i < 5000 * p := h; omega
  · have : i < p := h; omega
/-- a feature is noted -/
theorem PI.feat {w : List Int32} (h : PI p s st) (hl : st.2.1.length < 250) (e1 : s'.1 = s.1) (hF : FF s' (250 * p + st.2.1.length) w) (h7 : s'.2.2.1 7 p = nI (st.2.1.length + 1)) (h1 : ∀ j i, ¬ ((j = 11 ∧ i = 250 * p + st.2.1.length) ∨ (j = 10 ∧ 20 * (250 * p + st.2.1.length) ≤ i ∧ i < 20 * (250 * p + st.2.1.length) + 20) ∨ (j = 7 ∧ i = p)) → s'.2.2.1 j i = s.2.2.1 j i) (h2 : s'.2.2.2 = s.2.2.2) : PI p s' (st.1, st.2.1 ++ [w], st.2.2) ∧ kr p s s' := by
  obtain ⟨⟨a1, a2, a3, a4, a5, a6, a7, a8, a9⟩, d1, d2⟩ := h
  have hA : ∀ j, j ≠ 11 → j ≠ 10 → j ≠ 7 → s'.2.2.1 j = s.2.2.1 j := fun j x y z => by funext i; exact h1 j i (by omega)
  refine ⟨⟨⟨by rw [e1]; exact a1, a2, by rw [e1]; exact a3, a4, by rw [e1]; exact a5, fun i x hx => ⟨?_, (a6 i x hx).2⟩, ?_, ?_, ?_⟩, ⟨by rw [e1]; exact d1, fun i x hx => ?_⟩⟩, ⟨by rw [e1]; exact ⟨rfl, rfl, rfl, rfl⟩, fun j i c => h1 j i (lm_f (by omega) c), fun j i c => by rw [h2]⟩⟩
  · have := (a6 i x hx).1
    unfold RRow at *
    rw [hA 12 (by omega) (by omega) (by omega), hA 13 (by omega) (by omega) (by omega), hA 14 (by omega) (by omega) (by omega), hA 15 (by omega) (by omega) (by omega), hA 16 (by omega) (by omega) (by omega), hA 17 (by omega) (by omega) (by omega), hA 20 (by omega) (by omega) (by omega), h2]
    exact this
  · rw [h7, List.length_append]; rfl
  · intro i x hx
    rcases app_get hx with c | ⟨c1, c2⟩
    · have hi : i < st.2.1.length := (List.getElem?_eq_some_iff.mp c).1
      obtain ⟨b1, b2, b3⟩ := a8 i x c
      refine ⟨?_, fun j hj => ?_, b3⟩
      · rw [h1 11 _ (by omega)]; exact b1
      · rw [h1 10 _ (by omega)]; exact b2 j hj
    · rw [c1, c2]; exact hF
  · unfold cS; rw [hA 4 (by omega) (by omega) (by omega), h2]; exact a9
  · rw [hA 21 (by omega) (by omega) (by omega), hA 22 (by omega) (by omega) (by omega)]; exact d2 i x hx
theorem m_readFeature {q0 : Nat} (hN : 2001 ≤ N) (hq0 : q0 ≤ n) (hF : st.2.1.length < 250) (h : tkW s f n k) (h7 : s.1 7 = 0) (hP : PI p s st) (h31 : s.1 31 = nI 9) (h30 : s.1 30 = nI q0) :
    pSp M m p s f n ((f_MD_readFeature N m).1 (ov M m s)) (pFt f n q0 st k) := by
  have hn := h.1.2.1
  have h8 := h.1.2.2.1
  have hk := h.2.2.2.2
  rw [e_MD_readFeature]
  have hT := m_takeName (N := N) (M := M) (m := m) hN h h7
  refine pSp.eq (mI_is.trans r_callE) ?_
  unfold pFt
  cases hr : nmR f n k with
  | inl w =>
    rw [hr] at hT
    obtain ⟨s1, v, r1, r2, r3⟩ := hT
    have hw := wNe r3 (by have := nmR_le hk hr; omega)
    refine ⟨s1, ?_, r2.q.r, r3⟩
    rw [r1, Option.bind_some]
    simp only [mI_45, mI_is, r_callE, m_signW hw, m_isWrong, hw, not_false_eq_true, Option.bind_some, bI, if_true, show ¬ (1 : Int32) = 0 by decide, if_false, r_ret]
  | inr be =>
    obtain ⟨b, e⟩ := be
    rw [hr] at hT
    obtain ⟨s1, r1, r2, r3, r4, r5⟩ := hT
    obtain ⟨_, _, g1, g2, g3, g4, _⟩ := nmR_in hr
    dsimp only
    rw [r1, Option.bind_some]
    refine pSp.eq (mI_45.trans (mI_is.trans r_callE)) ?_
    rw [r5]
    have hs := m_sign (M := M) (m := m) (c := 58) hN r2.w r4 (by decide) (by decide) (by decide) (by decide) (by decide) (by decide)
    by_cases c : sgn f n (sp f n e) = 58
    · rw [if_pos c] at hs ⊢
      obtain ⟨s2, u1, u2, u3, u4, u5⟩ := hs
      rw [u1, Option.bind_some]
      refine pSp.eq (mI_is.trans r_callE) ?_
      rw [m_isWrong, Option.bind_some, bI_f (show ¬ ¬ s2.1 7 = 0 from fun z => z u4), r_if_t rfl]
      have kk : kq s s2 := (r3.tr u3).q
      have hP2 := hP.q kk
      have e30 := kk.2 30 (by omega) (by omega)
      have e31 := kk.2 31 (by omega) (by omega)
      have hP2' := hP2
      obtain ⟨⟨a1, a2, a3, a4, a5, a6, a7, a8, a9⟩, d1, d2⟩ := hP2
      have hip : ¬ (nI p < 0 ∨ 41 ≤ (nI p).toNatClampNeg) := nI_in (by omega) (by decide)
      have hcp := nI_clamp (n := p) (by omega)
      have er : (250 : Int32) * nI p + nI st.2.1.length = nI (250 * p + st.2.1.length) := by rw [show (250 : Int32) * nI p = nI (250 * p) from nI_mul, nI_add]
      have e20 : (20 : Int32) * nI (250 * p + st.2.1.length) = nI (20 * (250 * p + st.2.1.length)) := nI_mul
      have hi1 : ¬ (nI (250 * p + st.2.1.length) < 0 ∨ 10250 ≤ (nI (250 * p + st.2.1.length)).toNatClampNeg) := nI_in (by omega) (by decide)
      have hcl := nI_clamp (n := 250 * p + st.2.1.length) (by omega)
      have eA : ∀ A, va_up s2.2.2.1 11 A 1 = tx f := fun A => u2.1.2.2.2
      have e7 : ∀ A B, va_up (va_up s2.2.2.1 11 A) 10 B 7 p = nI st.2.1.length := fun A B => a7
      refine pSp.mono ?_ kk.r e30 e31
      have cp := m_copyName (N := N) (M := M) (m := m) (s := (s2.1, s2.2.1, va_up s2.2.2.1 11 (va_up (s2.2.2.1 11) (250 * p + st.2.1.length) (nI (e - b))), s2.2.2.2)) (f := f) (tj := 10) (Z := 205000) (b := b) (L := e - b) (t := 20 * (250 * p + st.2.1.length)) hN (by decide) (by decide) (fun i x K s h => mS_10 h) (eA (va_up (s2.2.2.1 11) (250 * p + st.2.1.length) (nI (e - b)))) (by omega) (by omega)
      simp only [mI_11, a1, mR_14, r_nn, mA_7 hip, hcp, a7, mR_18, er, mS_11 hi1, hcl, mR_17, mI_is, r_callE, e20, cp, Option.bind_some, e7, mS_7 hip, nI_1, mI_5]
      have PP : PI p (s2.1, s2.2.1, va_up (va_up (va_up s2.2.2.1 11 (va_up (s2.2.2.1 11) (250 * p + st.2.1.length) (nI (e - b)))) 10 (cpA (va_up s2.2.2.1 11 (va_up (s2.2.2.1 11) (250 * p + st.2.1.length) (nI (e - b))) 10) (20 * (250 * p + st.2.1.length)) (e - b) fun j => tx f (b + j))) 7 (va_up (va_up (va_up s2.2.2.1 11 (va_up (s2.2.2.1 11) (250 * p + st.2.1.length) (nI (e - b)))) 10 (cpA (va_up s2.2.2.1 11 (va_up (s2.2.2.1 11) (250 * p + st.2.1.length) (nI (e - b))) 10) (20 * (250 * p + st.2.1.length)) (e - b) fun j => tx f (b + j)) 7) p (nI (st.2.1.length + 1))), s2.2.2.2) (st.1, st.2.1 ++ [wd f b e], st.2.2) ∧ kr p s2 (s2.1, s2.2.1, va_up (va_up (va_up s2.2.2.1 11 (va_up (s2.2.2.1 11) (250 * p + st.2.1.length) (nI (e - b)))) 10 (cpA (va_up s2.2.2.1 11 (va_up (s2.2.2.1 11) (250 * p + st.2.1.length) (nI (e - b))) 10) (20 * (250 * p + st.2.1.length)) (e - b) fun j => tx f (b + j))) 7 (va_up (va_up (va_up s2.2.2.1 11 (va_up (s2.2.2.1 11) (250 * p + st.2.1.length) (nI (e - b)))) 10 (cpA (va_up s2.2.2.1 11 (va_up (s2.2.2.1 11) (250 * p + st.2.1.length) (nI (e - b))) 10) (20 * (250 * p + st.2.1.length)) (e - b) fun j => tx f (b + j)) 7) p (nI (st.2.1.length + 1))), s2.2.2.2) := by
        refine PI.feat (w := wd f b e) hP2' hF rfl ?_ ua_s ?_ rfl
        · refine ⟨?_, ?_, ?_⟩
          · show va_up (s2.2.2.1 11) (250 * p + st.2.1.length) (nI (e - b)) (250 * p + st.2.1.length) = nI (wd f b e).length
            rw [ua_s, wd_len]
          · rw [← nmR_tx h8 hr]; exact nmI_cp
          · rw [wd_len]; exact g4
        · intro j i hj
          show va_up (va_up (va_up s2.2.2.1 11 _) 10 _) 7 _ j i = s2.2.2.1 j i
          by_cases c7 : j = 7
          · subst c7; exact (congrFun ua_s i).trans (ua_n (by omega))
          · rw [ua_n c7]
            by_cases c10 : j = 10
            · subst c10; rw [ua_s]; exact (cpA_out (i := i) (b := 20 * (250 * p + st.2.1.length)) (L := e - b) (by omega)).trans rfl
            · rw [ua_n c10]
              by_cases c11 : j = 11
              · subst c11; exact (congrFun ua_s i).trans (ua_n (by omega))
              · rw [ua_n c11]
      obtain ⟨P1, P2⟩ := PP
      have hW3 := u2.w.of (s' := (s2.1, s2.2.1, va_up (va_up (va_up s2.2.2.1 11 (va_up (s2.2.2.1 11) (250 * p + st.2.1.length) (nI (e - b)))) 10 (cpA (va_up s2.2.2.1 11 (va_up (s2.2.2.1 11) (250 * p + st.2.1.length) (nI (e - b))) 10) (20 * (250 * p + st.2.1.length)) (e - b) fun j => tx f (b + j))) 7 (va_up (va_up (va_up s2.2.2.1 11 (va_up (s2.2.2.1 11) (250 * p + st.2.1.length) (nI (e - b)))) 10 (cpA (va_up s2.2.2.1 11 (va_up (s2.2.2.1 11) (250 * p + st.2.1.length) (nI (e - b))) 10) (20 * (250 * p + st.2.1.length)) (e - b) fun j => tx f (b + j)) 7) p (nI (st.2.1.length + 1))), s2.2.2.2)) (fun _ _ _ => rfl) P2.txt
      have c59 := tw_c (f := f) (n := n) (q := sp f n (sp f n e + 1)) (c := 59) h8 (by decide) (by decide) (by decide) (by decide) (by decide) (by decide)
      have t5 : s2.1 5 = tw f n (sp f n (sp f n e + 1)) := u2.w.2.2.1
      rw [t5]
      by_cases d : sgn f n (sp f n (sp f n e + 1)) = 59
      · rw [r_if_t (c59.mpr d), if_pos d]
        exact ⟨_, rfl, hW3.sp, P2, u4, P1, rfl, rfl⟩
      · rw [r_if_f (fun z => d (c59.mp z)), if_neg d]
        refine pSp.eq (mI_is.trans r_callE) ?_
        have hM := m_readNames (N := N) (M := M) (m := m) (b2 := b) (L2 := e - b) (q0 := q0) (kd := 9) hN hq0 (by omega) (by omega) g4 (nmR_tx h8 hr) hW3.sp u4 P1 (e31.trans h31) (e30.trans h30)
        refine pSp.mono ?_ P2 rfl rfl
        revert hM
        cases pNm f n q0 9 (wd f b e) 201 (st.1, st.2.1 ++ [wd f b e], st.2.2) (sp f n (sp f n e + 1)) with
        | inl w => rintro ⟨s3, x1, x2, x3⟩; exact ⟨s3, by rw [x1]; rfl, x2, x3⟩
        | inr x => rintro ⟨s3, x1, x2⟩; exact ⟨s3, by rw [x1]; rfl, x2⟩
    · rw [if_neg c] at hs ⊢
      obtain ⟨s2, u1, u2, u3, u4⟩ := hs
      have hw := wNe u3 (by have := sp_le (f := f) g3; omega)
      refine ⟨s2, ?_, (r3.tr u2).q.r, u3⟩
      rw [u1, Option.bind_some]
      simp only [mI_is, r_callE, m_isWrong, hw, not_false_eq_true, Option.bind_some, bI, if_true, show ¬ (1 : Int32) = 0 by decide, if_false, r_ret]
end RFEA
