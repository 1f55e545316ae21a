/-! LAYER 2: the reference's versions -/
section VERR2
variable {N : Nat} {M : hM} {m : Nat} {s : rS} {f : Nat → Int32} {n k : Nat}
theorem m_stay (h : tkS s f n k) (h7 : s.1 7 = 0) : (f_MD_stayClose N m).1 (ov M m s) = some ((), ov M m (if sp f n k = k then s else (va_up s.1 7 (wr (sp f n k)), s.2))) := by
  obtain ⟨hS, h6, h3, h5, h4, hk⟩ := h
  have hn := hS.2.1
  have hq := sp_le (f := f) hk
  rw [e_MD_stayClose]
  by_cases c : sp f n k = k
  · simp only [mI_3, mI_6, h3, h6, c, if_true, r_ret]
  · have c' : ¬ nI (sp f n k) = nI k := fun z => c ((nI_eq (by omega) (by omega)).mp z)
    simp only [mI_3, mI_6, h3, h6, c, c', if_false, mI_is, r_callE, m_fail0 h7, Option.bind_some, r_ret]
    rfl
theorem m_stayW (h7 : ¬ s.1 7 = 0) : (f_MD_stayClose N m).1 (ov M m s) = some ((), ov M m s) := by
  rw [e_MD_stayClose]
  by_cases c : s.1 3 = s.1 6
  · simp only [mI_3, mI_6, c, if_true, r_ret]
  · simp only [mI_3, mI_6, c, if_false, mI_is, r_callE, m_failN h7, Option.bind_some, r_ret]
theorem m_verW (h7 : ¬ s.1 7 = 0) : ∀ (r fu j : Nat) (x : Int64), r + j = 3 → r < fu → ∃ v, (f_MD_readVersion_4 N m fu x (nI j)).1 (ov M m s) = some (v, ov M m s) := by
  intro r
  induction r with
  | zero =>
    intro fu j x hj hfu
    obtain ⟨fu, rfl⟩ : ∃ g, fu = g + 1 := ⟨fu - 1, by omega⟩
    refine ⟨x, ?_⟩
    rw [e_MD_readVersion_4, r_let]
    have h1 : (3 : Int32) ≤ nI j := nI_le (a := 3) (by omega) (by omega)
    simp only [h1, if_true, r_ret]
  | succ r ih =>
    intro fu j x hj hfu
    obtain ⟨fu, rfl⟩ : ∃ g, fu = g + 1 := ⟨fu - 1, by omega⟩
    obtain ⟨v, hv⟩ := ih fu (j + 1) (1000000 * x + 0) (by omega) (by omega)
    refine ⟨v, ?_⟩
    rw [e_MD_readVersion_4, r_let]
    have h1 : ¬ (3 : Int32) ≤ nI j := nI_ge (b := 3) (by omega) (by omega)
    simp only [h1, if_false, mI_is, r_callE, m_stayW h7, m_signW h7, m_numW h7, Option.bind_some, nI_1]
    by_cases h2 : nI j ≤ 0
    · simp only [h2, if_true, mI_is, r_callE, m_numW h7, Option.bind_some, hv]
    · simp only [h2, if_false, mI_is, r_callE, m_stayW h7, m_signW h7, m_numW h7, Option.bind_some, hv]
/-- what a VERSION leaves -/
def nSp (M : hM) (m : Nat) (s : rS) (f : Nat → Int32) (n : Nat) (X : Option (Int64 × hM)) (res : Nat ⊕ (Nat × Nat)) : Prop := match res with
  | .inl w => ∃ s' v, X = some (v, ov M m s') ∧ kp s s' ∧ s'.1 7 = wr w
  | .inr (q, x) => ∃ s', X = some (lN x, ov M m s') ∧ tkS s' f n q ∧ kp s s' ∧ s'.1 7 = 0
theorem nSp.eq {X Y : Option (Int64 × hM)} {res : Nat ⊕ (Nat × Nat)} (e : X = Y) (h : nSp M m s f n Y res) : nSp M m s f n X res := by rw [e]; exact h
theorem nSp.mono {s' : rS} {X : Option (Int64 × hM)} {res : Nat ⊕ (Nat × Nat)} (h : nSp M m s' f n X res) (g : kp s s') : nSp M m s f n X res := by
  rcases res with w | ⟨q, x⟩
  · obtain ⟨s'', v, a, b, c⟩ := h
    exact ⟨s'', v, a, g.tr b, c⟩
  · obtain ⟨s'', a, b, c, d⟩ := h
    exact ⟨s'', a, b, g.tr c, d⟩
theorem nSp.bad {r j fu : Nat} {x : Int64} {w : Nat} {s' : rS} {X : Option (Int64 × hM)} (g : kp s s') (h7 : s'.1 7 = wr w) (hw : w ≤ 2000) (hj : r + j = 3) (hfu : r < fu) (e : X = (f_MD_readVersion_4 N m fu x (nI j)).1 (ov M m s')) : nSp M m s f n X (.inl w) := by
  obtain ⟨v, hv⟩ := m_verW (N := N) (M := M) (m := m) (s := s') (by rw [h7]; exact wr_ne hw) r fu j x hj hfu
  exact ⟨s', v, e.trans hv, g, h7⟩
theorem m_ver_loop (hN : 2001 ≤ N) : ∀ (r fu q x : Nat) (s : rS), r ≤ 2 → r < fu → tkS s f n q → s.1 7 = 0 → nSp M m s f n ((f_MD_readVersion_4 N m fu (lN x) (nI (3 - r))).1 (ov M m s)) (vst f n r q x) := by
  intro r
  induction r with
  | zero =>
    intro fu q x s hr hfu h h7
    obtain ⟨fu, rfl⟩ : ∃ g, fu = g + 1 := ⟨fu - 1, by omega⟩
    refine ⟨s, ?_, h, kp.rf, h7⟩
    rw [e_MD_readVersion_4, r_let, r_if_t (show (3 : Int32) ≤ nI 3 from nI_le (a := 3) (b := 3) (by omega) (by omega))]
    rfl
  | succ r ih =>
    intro fu q x s hr hfu h h7
    obtain ⟨fu, rfl⟩ : ∃ g, fu = g + 1 := ⟨fu - 1, by omega⟩
    have hn := h.1.2.1
    have hq := h.2.2.2.2.2
    have hsq := sp_le (f := f) hq
    have h1 : ¬ (3 : Int32) ≤ nI (3 - (r + 1)) := nI_ge (b := 3) (by omega) (by omega)
    have h2 : ¬ nI (3 - (r + 1)) ≤ 0 := nI_ge (a := 0) (by omega) (by omega)
    have e3 : nI (3 - (r + 1)) + 1 = nI (3 - r) := by rw [nI_1]; congr 1; omega
    have st : vst f n (r + 1) q x = if sgn f n q = 46 then (if cD (sgn f n (q + 1)) then (if nuOk f (q + 1) (den f (n - (q + 1)) (q + 1) - (q + 1)) then vst f n r (den f (n - (q + 1)) (q + 1)) (x * 1000000 + nv f (q + 1) (den f (n - (q + 1)) (q + 1) - (q + 1))) else .inl (q + 1)) else .inl (sp f n (q + 1))) else .inl (sp f n q) := rfl
    rw [e_MD_readVersion_4, r_let, r_if_f h1, r_if_f h2, st]
    refine nSp.eq (mI_is.trans r_callE) ?_
    rw [m_stay h h7, Option.bind_some]
    refine nSp.eq (mI_is.trans r_callE) ?_
    by_cases c1 : sp f n q = q
    · rw [if_pos c1]
      have hs := m_sign (M := M) (m := m) (c := 46) hN h.w h7 (by decide) (by decide) (by decide) (by decide) (by decide) (by decide)
      rw [c1] at hs
      by_cases c2 : sgn f n q = 46
      · rw [if_pos c2] at hs ⊢
        obtain ⟨s1, r1, r2, r3, r4, r5⟩ := hs
        rw [r1, Option.bind_some]
        refine nSp.eq (mI_is.trans r_callE) ?_
        rw [m_stay r2 r4, Option.bind_some]
        refine nSp.eq (mI_is.trans r_callE) ?_
        have hsq1 := sp_le (f := f) r2.2.2.2.2.2
        by_cases c3 : sp f n (q + 1) = q + 1
        · rw [if_pos c3]
          have hm := m_number (M := M) (m := m) hN r2.w r4
          rw [c3] at hm
          by_cases c4 : nuOk f (q + 1) (den f (n - (q + 1)) (q + 1) - (q + 1))
          · rw [if_pos c4] at hm
            obtain ⟨s2, u1, u2, u3, u4⟩ := hm
            have c5 : q + 1 < n ∧ cD (f (q + 1)) := Classical.byContradiction (fun z => by
              have e := den_0 z; have := c4.1; omega)
            rw [if_pos (show cD (sgn f n (q + 1)) by rw [sgn_at c5.1]; exact c5.2), if_pos c4, u1, Option.bind_some]
            dsimp only
            rw [e3, show (1000000 : Int64) * lN x + lN (nv f (q + 1) (den f (n - (q + 1)) (q + 1) - (q + 1))) = lN (x * 1000000 + nv f (q + 1) (den f (n - (q + 1)) (q + 1) - (q + 1))) by
              rw [← lN_add, ← lN_mul, Int64.mul_comm]; rfl]
            exact (ih fu _ _ s2 (by omega) (by omega) u2 u4).mono (r3.tr u3)
          · rw [if_neg c4] at hm
            obtain ⟨s2, u1, u2, u3⟩ := hm
            have ew : (if cD (sgn f n (q + 1)) then (if nuOk f (q + 1) (den f (n - (q + 1)) (q + 1) - (q + 1)) then vst f n r (den f (n - (q + 1)) (q + 1)) (x * 1000000 + nv f (q + 1) (den f (n - (q + 1)) (q + 1) - (q + 1))) else .inl (q + 1)) else .inl (sp f n (q + 1))) = .inl (q + 1) := by
              by_cases d : cD (sgn f n (q + 1))
              · rw [if_pos d, if_neg c4]
              · rw [if_neg d, c3]
            rw [ew, u1, Option.bind_some]
            dsimp only
            rw [e3]
            exact nSp.bad (r := r) (r3.tr u2) u3 (by omega) (by omega) (by omega) rfl
        · obtain ⟨g1, g2⟩ := sp_ne c3
          rw [if_neg c3, if_neg (show ¬ cD (sgn f n (q + 1)) by rw [sgn_at g1]; rcases g2 with g2 | g2 <;> rw [g2] <;> decide)]
          have hw : ¬ (va_up s1.1 7 (wr (sp f n (q + 1))), s1.2).1 7 = 0 := wr_ne (q := sp f n (q + 1)) (by omega)
          rw [m_numW hw, Option.bind_some]
          dsimp only
          rw [e3]
          exact nSp.bad (r := r) (w := sp f n (q + 1)) (r3.tr (kp_up (j := 7) (x := wr (sp f n (q + 1))) (Or.inl (by omega)))) rfl (by omega) (by omega) (by omega) rfl
      · rw [if_neg c2] at hs ⊢
        obtain ⟨s1, r1, r2, r3, r4⟩ := hs
        rw [c1]
        have hw : ¬ s1.1 7 = 0 := by rw [r3]; exact wr_ne (by omega)
        rw [r1, Option.bind_some]
        refine nSp.eq (mI_is.trans r_callE) ?_
        rw [m_stayW hw, Option.bind_some]
        refine nSp.eq (mI_is.trans r_callE) ?_
        rw [m_numW hw, Option.bind_some]
        dsimp only
        rw [e3]
        exact nSp.bad (r := r) r2 r3 (by omega) (by omega) (by omega) rfl
    · obtain ⟨g1, g2⟩ := sp_ne c1
      rw [if_neg c1, if_neg (show ¬ sgn f n q = 46 by rw [sgn_at g1]; rcases g2 with g2 | g2 <;> rw [g2] <;> decide)]
      have hw : ¬ (va_up s.1 7 (wr (sp f n q)), s.2).1 7 = 0 := wr_ne (q := sp f n q) (by omega)
      rw [m_signW hw, Option.bind_some]
      refine nSp.eq (mI_is.trans r_callE) ?_
      rw [m_stayW hw, Option.bind_some]
      refine nSp.eq (mI_is.trans r_callE) ?_
      rw [m_numW hw, Option.bind_some]
      dsimp only
      rw [e3]
      exact nSp.bad (r := r) (w := sp f n q) (kp_up (j := 7) (x := wr (sp f n q)) (Or.inl (by omega))) rfl (by omega) (by omega) (by omega) rfl
theorem m_version (hN : 2001 ≤ N) (h : tkW s f n k) (h7 : s.1 7 = 0) : nSp M m s f n ((f_MD_readVersion N m).1 (ov M m s)) (verR f n k) := by
  obtain ⟨N', rfl⟩ : ∃ g, N = g + 1 := ⟨N - 1, by omega⟩
  have hsq := sp_le (f := f) h.2.2.2.2
  have hn := h.1.2.1
  rw [e_MD_readVersion, e_MD_readVersion_4, r_let, r_if_f (show ¬ (3 : Int32) ≤ 0 by decide), r_if_t (show (0 : Int32) ≤ 0 by decide)]
  refine nSp.eq (mI_is.trans r_callE) ?_
  have hm := m_number (M := M) (m := m) hN h h7
  unfold verR
  split at hm
  · rename_i c
    obtain ⟨s2, u1, u2, u3, u4⟩ := hm
    rw [if_pos c, u1, Option.bind_some]
    dsimp only
    rw [show (1000000 : Int64) * 0 + lN (nv f (sp f n k) (den f (n - sp f n k) (sp f n k) - sp f n k)) = lN (nv f (sp f n k) (den f (n - sp f n k) (sp f n k) - sp f n k)) by
      rw [show (1000000 : Int64) * 0 = lN 0 from rfl, lN_add, Nat.zero_add]]
    exact (m_ver_loop hN 2 N' _ _ s2 (by omega) (by omega) u2 u4).mono u3
  · rename_i c
    obtain ⟨s2, u1, u2, u3⟩ := hm
    rw [if_neg c, u1, Option.bind_some]
    exact nSp.bad (r := 2) (j := 1) u2 u3 (by omega) (by omega) (by omega) rfl
theorem m_versionW (hN : 2001 ≤ N) (h7 : ¬ s.1 7 = 0) : ∃ v, (f_MD_readVersion N m).1 (ov M m s) = some (v, ov M m s) := m_verW h7 3 N 0 0 (by omega) (by omega)
end VERR2
