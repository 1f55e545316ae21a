/-! LAYER 2: the reference reads rows -/
/-- what the reading of a piece leaves -/
def pSp (M : hM) (m p : Nat) (s : rS) (f : Nat → Int32) (n : Nat) (X : Option (Unit × hM)) (res : Nat ⊕ (Nat × aP)) : Prop := match res with
  | .inl w => ∃ s', X = some ((), ov M m s') ∧ kr p s s' ∧ s'.1 7 = wr w
  | .inr (q, st') => ∃ s', X = some ((), ov M m s') ∧ tkW s' f n q ∧ kr p s s' ∧ s'.1 7 = 0 ∧ PI p s' st' ∧ s'.1 30 = s.1 30 ∧ s'.1 31 = s.1 31
section RROW
variable {N : Nat} {M : hM} {m p : Nat} {s s' s'' : rS} {f : Nat → Int32} {n k : Nat} {st : aP}
theorem pSp.eq {X Y : Option (Unit × hM)} {res : Nat ⊕ (Nat × aP)} (e : X = Y) (h : pSp M m p s f n Y res) : pSp M m p s f n X res := by rw [e]; exact h
theorem pSp.mono {X : Option (Unit × hM)} {res : Nat ⊕ (Nat × aP)} (h : pSp M m p s' f n X res) (g : kr p s s') (e1 : s'.1 30 = s.1 30) (e2 : s'.1 31 = s.1 31) : pSp M m p s f n X res := by
  rcases res with w | ⟨q, x⟩
  · obtain ⟨s'', a, b, c⟩ := h
    exact ⟨s'', a, g.tr b, c⟩
  · obtain ⟨s'', a, b, c, d, e, i, j⟩ := h
    exact ⟨s'', a, b, g.tr c, d, e, i.trans e1, j.trans e2⟩
theorem tkW.of (h : tkW s f n k) (h1 : ∀ j, 2 ≤ j → j ≤ 5 → s'.1 j = s.1 j) (h2 : s'.2.2.1 1 = s.2.2.1 1) : tkW s' f n k := by
  obtain ⟨⟨a1, a2, a3, a4⟩, b, c, d, e⟩ := h
  exact ⟨⟨(h1 2 (by omega) (by omega)).trans a1, a2, a3, h2.trans a4⟩, (h1 3 (by omega) (by omega)).trans b, (h1 5 (by omega) (by omega)).trans c, (h1 4 (by omega) (by omega)).trans d, e⟩
theorem kr.txt (h : kr p s s') : s'.2.2.1 1 = s.2.2.1 1 := by funext i; exact h.2.1 1 i trivial
/-- the end of a row's reading -/
theorem m_addE {kd b L b2 L2 q0 : Nat} {lo hi : Int64} {nm nm2 : List Int32} (hN : 2001 ≤ N) {q : Nat} (hW : tkW s f n q) (h7 : s.1 7 = 0) (hP : PI p s st) (h31 : s.1 31 = nI kd) (hkd : kd < 16) (hk10 : kd ≠ 10) (h30 : s.1 30 = nI q0) (hb : b + L ≤ 2000) (hL : L ≤ 20) (hb2 : b2 + L2 ≤ 2000) (hL2 : L2 ≤ 20) (e1 : wd (tx f) b (b + L) = nm) (e2 : wd (tx f) b2 (b2 + L2) = nm2) (pl : Nat) :
    pSp M m p s f n ((b_is m 1 (b_call (f_MD_addRow N m (nI b) (nI L) (nI b2) (nI L2) lo hi) (fun _ => b_ret ()))).1 (ov M m s)) (adR st q0 kd pl nm nm2 lo hi q) := by
  refine pSp.eq (mI_is.trans r_callE) ?_
  have h := m_add (N := N) (M := M) (m := m) (lo := lo) (hi := hi) hN hW.1 h7 hP.1 h31 hkd h30 hb hL hb2 hL2 e1 e2 pl
  unfold adR
  by_cases c : st.1.length = 200
  · rw [if_pos c] at h ⊢
    obtain ⟨s1, r1, r2, r3⟩ := h
    exact ⟨s1, by rw [r1]; rfl, r2, r3⟩
  · rw [if_neg c] at h ⊢
    obtain ⟨s1, r1, r2, r3, r4, r5, r6⟩ := h
    refine ⟨s1, by rw [r1]; rfl, hW.of (fun j h1 h2 => r3 j (by omega)) r2.txt, r2, (r3 7 (by omega)).trans h7, ⟨r4, ?_⟩, r3 30 (by omega), r3 31 (by omega)⟩
    rw [dfl_add hk10]
    exact hP.2.add (r3 34 (by omega)) r5 r6
theorem m_readRanged {kd q0 : Nat} (hN : 2001 ≤ N) (h : tkW s f n k) (h7 : s.1 7 = 0) (hP : PI p s st) (h31 : s.1 31 = nI kd) (hkd : kd < 16) (hk10 : kd ≠ 10) (h30 : s.1 30 = nI q0) :
    pSp M m p s f n ((f_MD_readRanged N m).1 (ov M m s)) (pRg f n q0 kd st k) := by
  have hn := h.1.2.1
  have h8 := h.1.2.2.1
  have hk := h.2.2.2.2
  rw [e_MD_readRanged]
  have hT := m_takeName (N := N) (M := M) (m := m) hN h h7
  refine pSp.eq (mI_is.trans r_callE) ?_
  unfold pRg
  cases hr : nmR f n k with
  | inl w =>
    rw [hr] at hT
    obtain ⟨s1, v, r1, r2, r3⟩ := hT
    have hw : ¬ s1.1 7 = 0 := by rw [r3]; exact wr_ne (by have := nmR_le hk hr; omega)
    obtain ⟨l, r4⟩ := m_readRangeW (N := N) (M := M) (m := m) hw
    refine ⟨(s1.1, l, s1.2.2), ?_, r2.q.r.tr kq_L.r, r3⟩
    have hw2 : ¬ ((s1.1, l, s1.2.2) : rS).1 7 = 0 := hw
    rw [r1, Option.bind_some]
    simp only [mI_45, mI_is, r_callE, r4, Option.bind_some, mL_32, mL_33, m_addW hw2, r_ret]
  | inr be =>
    obtain ⟨b, e⟩ := be
    rw [hr] at hT
    obtain ⟨s1, r1, r2, r3, r4, r5⟩ := hT
    obtain ⟨_, _, g1, g2, g3, g4, _⟩ := nmR_in hr
    dsimp only
    rw [r1, Option.bind_some]
    refine pSp.eq (mI_45.trans (mI_is.trans r_callE)) ?_
    rw [r5]
    have hR := m_readRange (N := N) (M := M) (m := m) hN r2.w r4
    cases hr2 : rgR f n e with
    | inl w =>
      rw [hr2] at hR
      obtain ⟨s2, u1, u2, u3⟩ := hR
      have hw : ¬ s2.1 7 = 0 := by rw [u3]; exact wr_ne (by have := rgR_le g3 hr2; omega)
      refine ⟨s2, ?_, r3.q.r.tr u2.r, u3⟩
      rw [u1, Option.bind_some]
      simp only [mI_is, r_callE, Option.bind_some, mL_32, mL_33, m_addW hw, r_ret]
    | inr qlh =>
      obtain ⟨q, lo, hi⟩ := qlh
      rw [hr2] at hR
      obtain ⟨s2, u1, u2, u3, u4, u5, u6⟩ := hR
      rw [u1, Option.bind_some]
      refine pSp.eq (mL_32.trans mL_33) ?_
      rw [u5, u6]
      have kk : kq s s2 := r3.q.tr u3
      have e30 := kk.2 30 (by omega) (by omega)
      have e31 := kk.2 31 (by omega) (by omega)
      exact (m_addE (b2 := 0) (L2 := 0) hN u2 u4 (hP.q kk) (e31.trans h31) hkd hk10 (e30.trans h30) (by omega) g4 (by omega) (by omega) (nmR_tx h8 hr) rfl b).mono kk.r e30 e31
theorem m_readRangedW (h7 : ¬ s.1 7 = 0) : ∃ s', (f_MD_readRanged N m).1 (ov M m s) = some ((), ov M m s') ∧ kq s s' ∧ s'.1 7 = s.1 7 := by
  obtain ⟨s1, v, r1, r2, r3⟩ := m_takeNameW (N := N) (M := M) (m := m) h7
  have hw : ¬ s1.1 7 = 0 := by rw [r3]; exact h7
  obtain ⟨l, r4⟩ := m_readRangeW (N := N) (M := M) (m := m) hw
  have hw2 : ¬ ((s1.1, l, s1.2.2) : rS).1 7 = 0 := hw
  refine ⟨(s1.1, l, s1.2.2), ?_, r2.q.tr kq_L, r3⟩
  rw [e_MD_readRanged]
  simp only [mI_is, r_callE, r1, mI_45, r4, Option.bind_some, mL_32, mL_33, m_addW hw2, r_ret]
end RROW
