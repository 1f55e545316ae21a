/-! LAYER 2: the reference reads any -/
section RANY
variable {N : Nat} {M : hM} {m p : Nat} {s s' s'' : rS} {f : Nat → Int32} {n k : Nat} {st : aP}
theorem adR_len {q0 kd b q q' : Nat} {nm ot : List Int32} {lo hi : Int64} {st' : aP} (h : adR st q0 kd b nm ot lo hi q = .inr (q', st')) : st'.1.length = st.1.length + 1 ∧ q' = q ∧ st'.2 = st.2 ∧ st.1.length ≠ 200 := by
  unfold adR at h
  split at h
  · cases h
  · rename_i c
    cases h
    exact ⟨by rw [List.length_append]; rfl, rfl, rfl, c⟩
theorem pRg_len {q0 kd q' : Nat} {st' : aP} (h : pRg f n q0 kd st k = .inr (q', st')) : st'.1.length = st.1.length + 1 ∧ st'.2 = st.2 := by
  unfold pRg at h
  cases hr : nmR f n k with
  | inl w => rw [hr] at h; cases h
  | inr be =>
    rw [hr] at h
    dsimp only at h
    cases hr2 : rgR f n be.2 with
    | inl w => rw [hr2] at h; cases h
    | inr x =>
      rw [hr2] at h
      have := adR_len h
      exact ⟨this.1, this.2.2.1⟩
theorem wNe {w : Nat} (h : s.1 7 = wr w) (hw : w ≤ 2000) : ¬ s.1 7 = 0 := by rw [h]; exact wr_ne hw
theorem adR_le {q0 kd b q w : Nat} {nm ot : List Int32} {lo hi : Int64} (h : adR st q0 kd b nm ot lo hi q = .inl w) : w = q0 := by
  unfold adR at h
  split at h
  · cases h; rfl
  · cases h
theorem pRg_le {q0 kd w : Nat} (hk : k ≤ n) (hq : q0 ≤ n) (h : pRg f n q0 kd st k = .inl w) : w ≤ n := by
  unfold pRg at h
  cases hr : nmR f n k with
  | inl w => rw [hr] at h; cases h; exact nmR_le hk hr
  | inr be =>
    obtain ⟨b, e⟩ := be
    rw [hr] at h
    dsimp only at h
    have hb := nmR_in hr
    cases hr2 : rgR f n e with
    | inl w => rw [hr2] at h; cases h; exact rgR_le hb.2.2.2.2.1 hr2
    | inr x =>
      rw [hr2] at h
      rw [adR_le h]; exact hq
theorem m_any14W {fu : Nat} (h7 : ¬ s.1 7 = 0) : ∃ s', (f_MD_readAny_14 N m (fu + 1)).1 (ov M m s) = some ((), ov M m s') ∧ kr p s s' ∧ s'.1 7 = s.1 7 := by
  refine ⟨(va_up s.1 29 (s.1 29 + 1), s.2), ?_, kr_I (by omega), rfl⟩
  rw [e_MD_readAny_14, r_let]
  simp only [mI_is, r_callE, m_isWrong, h7, not_false_eq_true, Option.bind_some, bI, if_true, show ¬ (1 : Int32) = 0 by decide, if_false, mI_29, mP_29, r_ret]
/-- a set is done -/
def inc (r : Nat ⊕ (Nat × aP)) : Nat ⊕ (Nat × aP) := match r with
  | .inl w => .inl w
  | .inr (q, st) => .inr (q, st.1, st.2.1, st.2.2 + 1)
theorem m_any_loop {q0 : Nat} (hN : 2001 ≤ N) (hq0 : q0 ≤ n) : ∀ (u fu : Nat) (s : rS) (st : aP) (q : Nat), 200 < u + st.1.length → u < fu → tkW s f n q → s.1 7 = 0 → PI p s st → s.1 31 = nI 8 → s.1 30 = nI q0 →
    pSp M m p s f n ((f_MD_readAny_14 N m fu).1 (ov M m s)) (inc (if sgn f n (sp f n q) = 124 then pAn f n q0 u false st (sp f n q + 1) else .inr (sp f n q, st))) := by
  intro u
  induction u with
  | zero => intro fu s st q h1 h2 hW h7 hP h31 h30; exact absurd hP.1.2.2.2.1 (by omega)
  | succ u ih =>
    intro fu s st q h1 h2 hW h7 hP h31 h30
    obtain ⟨fu, rfl⟩ : ∃ g, fu = g + 1 := ⟨fu - 1, by omega⟩
    have hn := hW.1.2.1
    rw [e_MD_readAny_14, r_let]
    refine pSp.eq (mI_is.trans r_callE) ?_
    rw [m_isWrong, Option.bind_some, bI_f (show ¬ ¬ s.1 7 = 0 from fun z => z h7), r_if_t rfl]
    refine pSp.eq mI_5 ?_
    have c124 := tw_c (f := f) (n := n) (q := sp f n q) (c := 124) hW.1.2.2.1 (by decide) (by decide) (by decide) (by decide) (by decide) (by decide)
    rw [hW.2.2.1]
    by_cases c : sgn f n (sp f n q) = 124
    · rw [r_if_t (c124.mpr c), if_pos c]
      obtain ⟨q1, q2⟩ := te_c (f := f) (n := n) (c := 124) (by decide) (by decide) (by decide) (by decide) (by decide) c
      obtain ⟨s1, r1, r2, r3, r4, r5⟩ := m_nextK (N := N) (M := M) (m := m) (k := sp f n q + 1) hN hW.1 (by rw [hW.2.2.2.1, q2]) (by omega)
      refine pSp.eq (mI_is.trans r_callE) ?_
      rw [r1, Option.bind_some]
      refine pSp.eq (mI_is.trans r_callE) ?_
      have e30 := r3.2 30 (by omega) (by omega)
      have e31 := r3.2 31 (by omega) (by omega)
      have hR := m_readRanged (N := N) (M := M) (m := m) (q0 := q0) hN r2.w (r4.trans h7) (hP.q r3.q) (e31.trans h31) (by omega) (by omega) (e30.trans h30)
      refine pSp.mono ?_ r3.q.r e30 e31
      rw [show pAn f n q0 (u + 1) false st (sp f n q + 1) = match pRg f n q0 8 st (sp f n q + 1) with
        | .inl w => .inl w
        | .inr (q, st') => if sgn f n (sp f n q) = 124 then pAn f n q0 u false st' (sp f n q + 1) else if false = true then .inl (sp f n q) else .inr (sp f n q, st') from rfl]
      cases hr : pRg f n q0 8 st (sp f n q + 1) with
      | inl w =>
        rw [hr] at hR
        obtain ⟨s2, u1, u2, u3⟩ := hR
        have hw := wNe u3 (by have := pRg_le (by omega) hq0 hr; omega)
        obtain ⟨fu', rfl⟩ : ∃ g, fu = g + 1 := ⟨fu - 1, by omega⟩
        obtain ⟨s3, v1, v2, v3⟩ := m_any14W (N := N) (M := M) (m := m) (p := p) (fu := fu') hw
        exact ⟨s3, by rw [u1, Option.bind_some]; exact v1, u2.tr v2, v3.trans u3⟩
      | inr x =>
        obtain ⟨q', st'⟩ := x
        rw [hr] at hR
        obtain ⟨s2, u1, u2, u3, u4, u5, u6, u7⟩ := hR
        have hl := (pRg_len hr).1
        rw [u1, Option.bind_some]
        exact (ih fu s2 st' q' (by omega) (by omega) u2 u4 u5 (u7.trans (e31.trans h31)) (u6.trans (e30.trans h30))).mono u3 u6 u7
    · rw [r_if_f (fun z => c (c124.mp z)), if_neg c]
      obtain ⟨⟨a1, a2, a3, a4, a5, a6, a7, a8, a9⟩, d⟩ := hP
      refine ⟨(va_up s.1 29 (nI (st.2.2 + 1)), s.2), ?_, hW.sp, kr_I (by omega), h7, ⟨⟨a1, a2, a3, a4, rfl, a6, a7, a8, a9⟩, d⟩, rfl, rfl⟩
      simp only [mI_29, a5, mP_29, nI_1, r_ret]
theorem m_readAny {q0 : Nat} (hN : 2001 ≤ N) (hq0 : q0 ≤ n) (h : tkW s f n k) (h7 : s.1 7 = 0) (hP : PI p s st) (h31 : s.1 31 = nI 8) (h30 : s.1 30 = nI q0) :
    pSp M m p s f n ((f_MD_readAny N m).1 (ov M m s)) (pAny f n q0 st k) := by
  have hn := h.1.2.1
  have hk := h.2.2.2.2
  obtain ⟨N', hN'⟩ : ∃ g, N = g + 1 := ⟨N - 1, by omega⟩
  rw [show pAny f n q0 st k = inc (pAn f n q0 201 true st k) from rfl, e_MD_readAny]
  refine pSp.eq (mI_is.trans r_callE) ?_
  rw [show pAn f n q0 201 true st k = match pRg f n q0 8 st k with
        | .inl w => .inl w
        | .inr (q, st') => if sgn f n (sp f n q) = 124 then pAn f n q0 200 false st' (sp f n q + 1) else if true = true then .inl (sp f n q) else .inr (sp f n q, st') from rfl]
  have hR := m_readRanged (N := N) (M := M) (m := m) (q0 := q0) hN h h7 hP h31 (by omega) (by omega) h30
  have bad : ∀ (s1 : rS) (w : Nat), s1.1 7 = wr w → w ≤ 2000 → kr p s s1 → pSp M m p s f n ((b_is m 1 (b_call (f_MD_readRanged N m) (fun _ => f_MD_readAny_14 N m N))).1 (ov M m s1)) (.inl w) := by
    intro s1 w e1 hw g
    obtain ⟨s2, u1, u2, u3⟩ := m_readRangedW (N := N) (M := M) (m := m) (wNe e1 hw)
    obtain ⟨s3, v1, v2, v3⟩ := m_any14W (N := N) (M := M) (m := m) (p := p) (fu := N') (wNe (u3.trans e1) hw)
    refine ⟨s3, ?_, (g.tr u2.r).tr v2, v3.trans (u3.trans e1)⟩
    refine (mI_is.trans r_callE).trans ?_
    rw [u1, Option.bind_some]
    rw [← hN'] at v1
    exact v1
  cases hr : pRg f n q0 8 st k with
  | inl w =>
    rw [hr] at hR
    obtain ⟨s1, u1, u2, u3⟩ := hR
    have hw := pRg_le hk hq0 hr
    rw [u1, Option.bind_some]
    refine pSp.eq (mI_is.trans r_callE) ?_
    rw [m_signW (wNe u3 (by omega)), Option.bind_some]
    exact bad s1 w u3 (by omega) u2
  | inr x =>
    obtain ⟨q', st'⟩ := x
    rw [hr] at hR
    obtain ⟨s1, u1, u2, u3, u4, u5, u6, u7⟩ := hR
    dsimp only
    rw [u1, Option.bind_some]
    refine pSp.eq (mI_is.trans r_callE) ?_
    have hs := m_sign (M := M) (m := m) (c := 124) hN u2 u4 (by decide) (by decide) (by decide) (by decide) (by decide) (by decide)
    by_cases c : sgn f n (sp f n q') = 124
    · rw [if_pos c] at hs ⊢
      obtain ⟨s2, v1, v2, v3, v4, v5⟩ := hs
      rw [v1, Option.bind_some]
      refine pSp.eq (mI_is.trans r_callE) ?_
      have e30 := v3.2 30 (by omega) (by omega)
      have e31 := v3.2 31 (by omega) (by omega)
      have hR2 := m_readRanged (N := N) (M := M) (m := m) (q0 := q0) hN v2.w v4 (u5.q v3.q) (e31.trans (u7.trans h31)) (by omega) (by omega) (e30.trans (u6.trans h30))
      rw [show pAn f n q0 200 false st' (sp f n q' + 1) = match pRg f n q0 8 st' (sp f n q' + 1) with
        | .inl w => .inl w
        | .inr (q, st') => if sgn f n (sp f n q) = 124 then pAn f n q0 199 false st' (sp f n q + 1) else if false = true then .inl (sp f n q) else .inr (sp f n q, st') from rfl]
      cases hr2 : pRg f n q0 8 st' (sp f n q' + 1) with
      | inl w =>
        rw [hr2] at hR2
        obtain ⟨s3, w1, w2, w3⟩ := hR2
        have hw := wNe w3 (by have := pRg_le (v2.w.2.2.2.2) hq0 hr2; omega)
        obtain ⟨s4, x1, x2, x3⟩ := m_any14W (N := N) (M := M) (m := m) (p := p) (fu := N') hw
        refine ⟨s4, ?_, (u3.tr v3.q.r).tr (w2.tr x2), x3.trans w3⟩
        rw [w1, Option.bind_some]; rw [← hN'] at x1; exact x1
      | inr x =>
        obtain ⟨q'', st''⟩ := x
        rw [hr2] at hR2
        obtain ⟨s3, w1, w2, w3, w4, w5, w6, w7⟩ := hR2
        have hl := (pRg_len hr).1
        have hl2 := (pRg_len hr2).1
        rw [w1, Option.bind_some]
        exact (m_any_loop hN hq0 199 N s3 st'' q'' (by omega) (by omega) w2 w4 w5 (w7.trans (e31.trans (u7.trans h31))) (w6.trans (e30.trans (u6.trans h30)))).mono ((u3.tr v3.q.r).tr w3) (w6.trans (e30.trans u6)) (w7.trans (e31.trans u7))
    · rw [if_neg c] at hs ⊢
      obtain ⟨s2, v1, v2, v3, v4⟩ := hs
      rw [v1, Option.bind_some]
      exact bad s2 _ v3 (by have := sp_le (f := f) u2.2.2.2.2; omega) (u3.tr v2.q.r)
end RANY
