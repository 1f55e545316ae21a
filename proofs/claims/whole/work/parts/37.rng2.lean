/-! LAYER 2: the reference's ranges -/
section RNGR2
variable {N : Nat} {M : hM} {m : Nat} {s : rS} {f : Nat → Int32} {n k : Nat}
theorem m_isBound : (f_MD_isBound N m).1 (ov M m s) = some (bI (s.1 5 = 61 ∨ s.1 5 = 60 ∨ s.1 5 = 62 ∨ s.1 5 = 360 ∨ s.1 5 = 362), ov M m s) := by
  rw [e_MD_isBound]
  unfold bI
  by_cases h1 : s.1 5 = 61
  · simp only [r_let, mI_5, h1, if_true, true_or, rZ1]
  · by_cases h2 : s.1 5 = 60
    · simp only [r_let, mI_5, h2, if_true, true_or, or_true, if_false, show ¬ (60 : Int32) = 61 by decide, rZ1]
    · by_cases h3 : s.1 5 = 62
      · simp only [r_let, mI_5, h3, if_true, true_or, or_true, if_false, show ¬ (62 : Int32) = 61 by decide, show ¬ (62 : Int32) = 60 by decide, rZ1]
      · by_cases h4 : s.1 5 = 360
        · simp only [r_let, mI_5, h4, if_true, true_or, or_true, if_false, show ¬ (360 : Int32) = 61 by decide, show ¬ (360 : Int32) = 60 by decide, show ¬ (360 : Int32) = 62 by decide, rZ1]
        · by_cases h5 : s.1 5 = 362
          · simp only [r_let, mI_5, h5, if_true, or_true, if_false, show ¬ (362 : Int32) = 61 by decide, show ¬ (362 : Int32) = 60 by decide, show ¬ (362 : Int32) = 62 by decide, show ¬ (362 : Int32) = 360 by decide, rZ1]
          · simp only [r_let, mI_5, h1, h2, h3, h4, h5, or_self, if_false, rZ0]
theorem vst_le : ∀ (r q x w : Nat), q ≤ n → vst f n r q x = .inl w → w ≤ n
  | 0, q, x, w, _, h => by cases h
  | r + 1, q, x, w, hq, h => by
    rw [show vst f n (r + 1) q x = if sgn f n q = 46 then (if cD (sgn f n (q + 1)) then (if nuOk f (q + 1) (den f (n - (q + 1)) (q + 1) - (q + 1)) then vst f n r (den f (n - (q + 1)) (q + 1)) (x * 1000000 + nv f (q + 1) (den f (n - (q + 1)) (q + 1) - (q + 1))) else .inl (q + 1)) else .inl (sp f n (q + 1))) else .inl (sp f n q) from rfl] at h
    by_cases c1 : sgn f n q = 46
    · have c1' := sgn_0 (by decide) c1
      rw [if_pos c1] at h
      by_cases c2 : cD (sgn f n (q + 1))
      · rw [if_pos c2] at h
        by_cases c3 : nuOk f (q + 1) (den f (n - (q + 1)) (q + 1) - (q + 1))
        · rw [if_pos c3] at h
          exact vst_le r _ _ w (by have := den_le (f := f) (n - (q + 1)) (q + 1); omega) h
        · rw [if_neg c3] at h; cases h; omega
      · rw [if_neg c2] at h; cases h; exact sp_le (by omega)
    · rw [if_neg c1] at h; cases h; exact sp_le hq
theorem verR_le {w : Nat} (hk : k ≤ n) (h : verR f n k = .inl w) : w ≤ n := by
  have hs := sp_le (f := f) hk
  unfold verR at h
  split at h
  · exact vst_le 2 _ _ w (by have := den_le (f := f) (n - sp f n k) (sp f n k); omega) h
  · cases h; exact hs
/-- what a bound leaves -/
def oSp (M : hM) (m : Nat) (s : rS) (f : Nat → Int32) (n : Nat) (op : Int32) (X : Option (Unit × hM)) (res : Nat ⊕ (Nat × Nat)) : Prop := match res with
  | .inl w => ∃ s', X = some ((), ov M m s') ∧ kq s s' ∧ s'.1 7 = wr w
  | .inr (q, x) => ∃ s', X = some ((), ov M m s') ∧ tkS s' f n q ∧ kq s s' ∧ s'.1 7 = 0 ∧ s'.2.1 32 = xlo op (lN x) (s.2.1 32) ∧ s'.2.1 33 = xhi op (lN x) (s.2.1 33)
theorem m_bound (hN : 2001 ≤ N) (h : tkW s f n k) (h7 : s.1 7 = 0) (hb : sgn f n (sp f n k) = 61 ∨ sgn f n (sp f n k) = 60 ∨ sgn f n (sp f n k) = 62) :
    oSp M m s f n (tw f n (sp f n k)) ((f_MD_bound N m).1 (ov M m s)) (verR f n (bq f n (sp f n k))) := by
  obtain ⟨hS, h3, h5, h4, hk⟩ := h
  have hq : sp f n k < n := by rcases hb with h | h | h <;> exact sgn_0 (by decide) h
  have e4 := (bd_eq (f := f) (n := n) (x := 0) (lo := 0) (hi := 0) hb).1
  have hop := (tw_bd (f := f) (n := n) (q := sp f n k) hS.2.2.1).mpr hb
  obtain ⟨s1, r1, r2, r3, r4, r5⟩ := m_nextK (N := N) (M := M) (m := m) hN hS (h4.trans (by rw [e4])) (bq_le hq)
  have hv := m_version (N := N) (M := M) (m := m) hN r2.w (r4.trans h7)
  have hL : s1.2.1 = s.2.1 := by rw [r3.1]
  have go : (f_MD_bound N m).1 (ov M m s) = ((f_MD_readVersion N m).1 (ov M m s1)).bind (fun Z => (bTail N m (tw f n (sp f n k)) Z.1).1 Z.2) := by
    rw [e_MD_bound, r_let, r_let]
    refine mI_5.trans ?_
    refine (mI_is.trans r_callE).trans ?_
    rw [r1, Option.bind_some]
    refine (mI_is.trans r_callE).trans ?_
    rw [h5]
    rfl
  rw [go]
  cases hr : verR f n (bq f n (sp f n k)) with
  | inl w =>
    rw [hr] at hv
    obtain ⟨s2, v, u1, u2, u3⟩ := hv
    obtain ⟨l, t1, t2, t3⟩ := m_bTail (N := N) (M := M) (m := m) (s := s2) (x := v) hop
    refine ⟨(s2.1, l, s2.2.2), ?_, ((r3.tr u2).q).tr kq_L, u3⟩
    rw [u1, Option.bind_some]; exact t1
  | inr qx =>
    obtain ⟨q, x⟩ := qx
    rw [hr] at hv
    obtain ⟨s2, u1, u2, u3, u4⟩ := hv
    obtain ⟨l, t1, t2, t3⟩ := m_bTail (N := N) (M := M) (m := m) (s := s2) (x := lN x) hop
    have e2 : s2.2.1 = s.2.1 := by rw [u3.1, r3.1]
    refine ⟨(s2.1, l, s2.2.2), ?_, u2, ((r3.tr u3).q).tr kq_L, u4, ?_, ?_⟩
    · rw [u1, Option.bind_some]; exact t1
    · rw [← e2]; exact t2
    · rw [← e2]; exact t3
/-- what a RANGE leaves -/
def qSp (M : hM) (m : Nat) (s : rS) (f : Nat → Int32) (n : Nat) (X : Option (Unit × hM)) (res : Nat ⊕ (Nat × Nat × Nat)) : Prop := match res with
  | .inl w => ∃ s', X = some ((), ov M m s') ∧ kq s s' ∧ s'.1 7 = wr w
  | .inr (q, lo, hi) => ∃ s', X = some ((), ov M m s') ∧ tkW s' f n q ∧ kq s s' ∧ s'.1 7 = 0 ∧ s'.2.1 32 = lN lo ∧ s'.2.1 33 = lN hi
theorem qSp.eq {X Y : Option (Unit × hM)} {res : Nat ⊕ (Nat × Nat × Nat)} (e : X = Y) (h : qSp M m s f n Y res) : qSp M m s f n X res := by rw [e]; exact h
theorem qSp.mono {s' : rS} {X : Option (Unit × hM)} {res : Nat ⊕ (Nat × Nat × Nat)} (h : qSp M m s' f n X res) (g : kq s s') : qSp M m s f n X res := by
  rcases res with w | ⟨q, x, y⟩
  · obtain ⟨s'', a, b, c⟩ := h
    exact ⟨s'', a, g.tr b, c⟩
  · obtain ⟨s'', a, b, c, d⟩ := h
    exact ⟨s'', a, b, g.tr c, d⟩
theorem qSp.badc {w : Nat} {s' : rS} {X : Option (Unit × hM)} (g : kq s s') (h7 : s'.1 7 = wr w) (e : X = (b_is m 1 (b_call (f_MD_close N m) (fun _ => b_ret ()))).1 (ov M m s')) : qSp M m s f n X (.inl w) := by
  obtain ⟨l, hl⟩ := m_closeX (N := N) (M := M) (m := m) (s := s')
  refine ⟨(s'.1, l, s'.2.2), ?_, g.tr kq_L, h7⟩
  rw [e]
  simp only [mI_is, r_callE, hl, Option.bind_some, r_ret]
theorem qSp.good {q lo hi : Nat} {s' : rS} {X : Option (Unit × hM)} (g : kq s s') (h7 : s'.1 7 = 0) (hw : tkW s' f n q) (h1 : s'.2.1 32 = lN lo) (h2 : s'.2.1 33 = lN hi) (bl : lo ≤ 10 ^ 18) (bh : hi ≤ 10 ^ 18) (e : X = (b_is m 1 (b_call (f_MD_close N m) (fun _ => b_ret ()))).1 (ov M m s')) : qSp M m s f n X (.inr (q, clo lo hi)) := by
  obtain ⟨l, hl, e1, e2⟩ := m_close (N := N) (M := M) (m := m) (s := s') h1 h2 bl bh
  refine ⟨(s'.1, l, s'.2.2), ?_, hw.L, g.tr kq_L, h7, e1, e2⟩
  rw [e]
  simp only [mI_is, r_callE, hl, Option.bind_some, r_ret]
theorem m_readRange (hN : 2001 ≤ N) (h : tkW s f n k) (h7 : s.1 7 = 0) : qSp M m s f n ((f_MD_readRange N m).1 (ov M m s)) (rgR f n k) := by
  have h' := h
  obtain ⟨hS, h3, h5, h4, hk⟩ := h
  have hn := hS.2.1
  have hsq := sp_le (f := f) hk
  rw [e_MD_readRange, r_let]
  refine qSp.eq (mP_32.trans (mP_33.trans (mI_is.trans r_callE))) ?_
  rw [m_isWrong, Option.bind_some]
  refine qSp.mono (s' := (s.1, va_up (va_up s.2.1 32 0) 33 1000000000000000000, s.2.2)) ?_ kq_L
  generalize hs0 : ((s.1, va_up (va_up s.2.1 32 0) 33 1000000000000000000, s.2.2) : rS) = s0
  have g0 : s0.1 = s.1 := by rw [← hs0]
  have gW : tkW s0 f n k := by rw [← hs0]; exact h'
  have g7 : s0.1 7 = 0 := by rw [g0]; exact h7
  have l32 : s0.2.1 32 = lN 0 := by rw [← hs0]; rfl
  have l33 : s0.2.1 33 = lN 1000000000000000000 := by rw [← hs0]; rfl
  rw [bI_f (show ¬ ¬ s0.1 7 = 0 from fun z => z g7), r_if_t rfl]
  refine qSp.eq mI_5 ?_
  rw [g0, h5]
  have c42 := tw_c (f := f) (n := n) (q := sp f n k) (c := 42) hS.2.2.1 (by decide) (by decide) (by decide) (by decide) (by decide) (by decide)
  unfold rgR
  by_cases c1 : sgn f n (sp f n k) = 42
  · rw [if_pos c1, r_if_t (c42.mpr c1)]
    obtain ⟨q1, q2⟩ := te_c (f := f) (n := n) (c := 42) (by decide) (by decide) (by decide) (by decide) (by decide) c1
    obtain ⟨s1, r1, r2, r3, r4, r5⟩ := m_nextK (N := N) (M := M) (m := m) (k := sp f n k + 1) hN gW.1 (by rw [g0, h4, q2]) (by omega)
    refine qSp.eq (mI_is.trans r_callE) ?_
    rw [r1, Option.bind_some]
    exact qSp.good (lo := 0) (hi := 1000000000000000000) r3.q (r4.trans g7) r2.w (by rw [r3.1]; exact l32) (by rw [r3.1]; exact l33) (by omega) (by decide) rfl
  · rw [if_neg c1, r_if_f (fun z => c1 (c42.mp z))]
    refine qSp.eq (mI_is.trans r_callE) ?_
    rw [m_isBound, Option.bind_some]
    have hbd := tw_bd (f := f) (n := n) (q := sp f n k) hS.2.2.1
    have st : rst f n 2 (sp f n k) 0 1000000000000000000 = if sgn f n (sp f n (sp f n k)) = 61 ∨ sgn f n (sp f n (sp f n k)) = 60 ∨ sgn f n (sp f n (sp f n k)) = 62 then (match verR f n (bq f n (sp f n (sp f n k))) with
      | .inl w => .inl w
      | .inr (q', x) => rst f n 1 q' (nlo (sgn f n (sp f n (sp f n k))) (bb f n (sp f n (sp f n k))) x 0) (nhi (sgn f n (sp f n (sp f n k))) (bb f n (sp f n (sp f n k))) x 1000000000000000000))
      else if 1 = 1 then .inl (sp f n (sp f n k)) else .inr (sp f n (sp f n k), clo 0 1000000000000000000) := rfl
    rw [st, sp_sp hk]
    by_cases c2 : sgn f n (sp f n k) = 61 ∨ sgn f n (sp f n k) = 60 ∨ sgn f n (sp f n k) = 62
    · rw [bI_t (show s0.1 5 = 61 ∨ s0.1 5 = 60 ∨ s0.1 5 = 62 ∨ s0.1 5 = 360 ∨ s0.1 5 = 362 by rw [g0, h5]; exact hbd.mpr c2), r_if_f (show ¬ (1 : Int32) = 0 by decide), if_pos c2]
      refine qSp.eq (mI_is.trans r_callE) ?_
      have hB := m_bound (N := N) (M := M) (m := m) hN gW g7 c2
      cases hr : verR f n (bq f n (sp f n k)) with
      | inl w =>
        rw [hr] at hB
        obtain ⟨s1, u1, u2, u3⟩ := hB
        dsimp only
        have hw : w ≤ n := verR_le (bq_le (by rcases c2 with h | h | h <;> exact sgn_0 (by decide) h)) hr
        rw [u1, Option.bind_some]
        refine qSp.eq (mI_is.trans r_callE) ?_
        rw [m_isWrong, Option.bind_some]
        by_cases hz : s1.1 7 = 0
        · rw [bI_f (show ¬ ¬ s1.1 7 = 0 from fun z => z hz), r_if_t rfl]
          exact absurd (u3.symm.trans hz) (wr_ne (by omega))
        · rw [bI_t (show ¬ s1.1 7 = 0 from hz), r_if_f (show ¬ (1 : Int32) = 0 by decide)]
          exact qSp.badc u2 u3 rfl
      | inr qx =>
        obtain ⟨q', x⟩ := qx
        rw [hr] at hB
        obtain ⟨s1, u1, u2, u3, u4, u5, u6⟩ := hB
        have hqn : bq f n (sp f n k) ≤ n := bq_le (by rcases c2 with h | h | h <;> exact sgn_0 (by decide) h)
        obtain ⟨bq', bx⟩ := verR_lt hS.2.2.1 hqn hr
        obtain ⟨d1, d2, d3⟩ := bd_eq (f := f) (n := n) (x := x) (lo := 0) (hi := 1000000000000000000) c2
        rw [l32, xlo_r bx (by omega), d2] at u5
        rw [l33, xhi_r bx (by decide), d3] at u6
        have bl : nlo (sgn f n (sp f n k)) (bb f n (sp f n k)) x 0 ≤ 10 ^ 18 := nlo_le bx (by omega)
        have bh : nhi (sgn f n (sp f n k)) (bb f n (sp f n k)) x 1000000000000000000 ≤ 10 ^ 18 := nhi_le (by decide)
        dsimp only
        generalize nlo (sgn f n (sp f n k)) (bb f n (sp f n k)) x 0 = lo at *
        generalize nhi (sgn f n (sp f n k)) (bb f n (sp f n k)) x 1000000000000000000 = hi at *
        have st1 : rst f n 1 q' lo hi = if sgn f n (sp f n q') = 61 ∨ sgn f n (sp f n q') = 60 ∨ sgn f n (sp f n q') = 62 then (match verR f n (bq f n (sp f n q')) with
          | .inl w => .inl w
          | .inr (q'', x') => .inr (q'', clo (nlo (sgn f n (sp f n q')) (bb f n (sp f n q')) x' lo) (nhi (sgn f n (sp f n q')) (bb f n (sp f n q')) x' hi)))
          else if 0 = 1 then .inl (sp f n q') else .inr (sp f n q', clo lo hi) := rfl
        rw [st1, u1, Option.bind_some]
        refine qSp.eq (mI_is.trans r_callE) ?_
        rw [m_isWrong, Option.bind_some, bI_f (show ¬ ¬ s1.1 7 = 0 from fun z => z u4), r_if_t rfl]
        refine qSp.eq (mI_is.trans r_callE) ?_
        rw [m_isBound, Option.bind_some]
        have hbd' := tw_bd (f := f) (n := n) (q := sp f n q') hS.2.2.1
        have t5 : s1.1 5 = tw f n (sp f n q') := u2.w.2.2.1
        by_cases c3 : sgn f n (sp f n q') = 61 ∨ sgn f n (sp f n q') = 60 ∨ sgn f n (sp f n q') = 62
        · rw [bI_t (show s1.1 5 = 61 ∨ s1.1 5 = 60 ∨ s1.1 5 = 62 ∨ s1.1 5 = 360 ∨ s1.1 5 = 362 by rw [t5]; exact hbd'.mpr c3), r_if_f (show ¬ (1 : Int32) = 0 by decide), if_pos c3]
          refine qSp.eq (mI_is.trans r_callE) ?_
          have hB2 := m_bound (N := N) (M := M) (m := m) hN u2.w u4 c3
          cases hr2 : verR f n (bq f n (sp f n q')) with
          | inl w =>
            rw [hr2] at hB2
            obtain ⟨s2, y1, y2, y3⟩ := hB2
            rw [y1, Option.bind_some]
            exact qSp.badc (u3.tr y2) y3 rfl
          | inr qx =>
            obtain ⟨q'', x'⟩ := qx
            rw [hr2] at hB2
            obtain ⟨s2, y1, y2, y3, y4, y5, y6⟩ := hB2
            have hqn2 : bq f n (sp f n q') ≤ n := bq_le (by rcases c3 with h | h | h <;> exact sgn_0 (by decide) h)
            obtain ⟨bq2, bx2⟩ := verR_lt hS.2.2.1 hqn2 hr2
            obtain ⟨d1, d2, d3⟩ := bd_eq (f := f) (n := n) (x := x') (lo := lo) (hi := hi) c3
            rw [u5, xlo_r bx2 bl, d2] at y5
            rw [u6, xhi_r bx2 bh, d3] at y6
            rw [y1, Option.bind_some]
            exact qSp.good (u3.tr y3) y4 y2.w y5 y6 (nlo_le bx2 bl) (nhi_le bh) rfl
        · rw [bI_f (show ¬ (s1.1 5 = 61 ∨ s1.1 5 = 60 ∨ s1.1 5 = 62 ∨ s1.1 5 = 360 ∨ s1.1 5 = 362) by rw [t5]; exact fun z => c3 (hbd'.mp z)), r_if_t rfl, if_neg c3, if_neg (show ¬ 0 = 1 by decide)]
          exact qSp.good u3 u4 u2.w.sp u5 u6 bl bh rfl
    · rw [bI_f (show ¬ (s0.1 5 = 61 ∨ s0.1 5 = 60 ∨ s0.1 5 = 62 ∨ s0.1 5 = 360 ∨ s0.1 5 = 362) by rw [g0, h5]; exact fun z => c2 (hbd.mp z)), r_if_t rfl, if_neg c2, if_pos rfl]
      refine qSp.eq (mI_3.trans (mI_is.trans r_callE)) ?_
      rw [m_fail0 g7, Option.bind_some, g0, h3]
      exact qSp.badc (kp_up (j := 7) (x := wr (sp f n k)) (Or.inl (by omega))).q rfl (by rw [← g0]; rfl)
theorem m_readRangeW (h7 : ¬ s.1 7 = 0) : ∃ l, (f_MD_readRange N m).1 (ov M m s) = some ((), ov M m (s.1, l, s.2.2)) := by
  rw [e_MD_readRange, r_let]
  refine ⟨va_up (va_up s.2.1 32 0) 33 1000000000000000000, ?_⟩
  simp only [mP_32, mP_33, mI_is, r_callE, m_isWrong, Option.bind_some, bI, h7, not_false_eq_true, if_true, show ¬ (1 : Int32) = 0 by decide, if_false, r_ret]
end RNGR2
