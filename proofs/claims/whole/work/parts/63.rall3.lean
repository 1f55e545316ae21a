/-! LAYER 2: the reference reads a text: the head -/
def lm0 (p j i : Nat) : Prop := lm p j i ∧ (j = 5 → i < p) ∧ (j = 8 → i < 20 * p)
def lmL0 (p j i : Nat) : Prop := lmL p j i ∧ (j = 9 → i < p)
/-- a whole text's reading leaves all else -/
def krh (p : Nat) (s s' : rS) : Prop := (s'.1 2 = s.1 2 ∧ s'.1 11 = s.1 11 ∧ s'.1 39 = s.1 39 ∧ s'.1 43 = s.1 43) ∧ (∀ j i, lm0 p j i → s'.2.2.1 j i = s.2.2.1 j i) ∧ (∀ j i, lmL0 p j i → s'.2.2.2 j i = s.2.2.2 j i)
section RALL3
variable {N : Nat} {M : hM} {m p : Nat} {s s' s'' : rS} {f : Nat → Int32} {n k : Nat} {st : aP}
theorem kr.h (h : kr p s s') : krh p s s' := ⟨h.1, fun j i c => h.2.1 j i c.1, fun j i c => h.2.2 j i c.1⟩
theorem krh.rf : krh p s s := kr.rf.h
theorem krh.tr (h : krh p s s') (g : krh p s' s'') : krh p s s'' := ⟨⟨g.1.1.trans h.1.1, g.1.2.1.trans h.1.2.1, g.1.2.2.1.trans h.1.2.2.1, g.1.2.2.2.trans h.1.2.2.2⟩, fun j i c => (g.2.1 j i c).trans (h.2.1 j i c), fun j i c => (g.2.2 j i c).trans (h.2.2 j i c)⟩
theorem rows_W (hN : 2001 ≤ N) {x : Int32} (h7 : ¬ s.1 7 = 0) : (f_MD_readAll_119 N m N x).1 (ov M m s) = some ((), ov M m s) := by
  obtain ⟨N', hN'⟩ : ∃ g, N = g + 1 := ⟨N - 1, by omega⟩
  have h : (f_MD_readAll_119 N m (N' + 1) x).1 (ov M m s) = some ((), ov M m s) := by
    rw [e_MD_readAll_119, r_let]
    simp only [mI_is, r_callE, m_isWrong, h7, not_false_eq_true, Option.bind_some, bI, if_true, show ¬ (1 : Int32) = 0 by decide, if_false]
    have := dflt_W (N := N) (M := M) (m := m) (s := s) (fu := N') (x1 := x) (x4 := 0) h7
    rw [← hN'] at this
    exact this
  rw [← hN'] at h
  exact h
def hSp (M : hM) (m p : Nat) (s : rS) (X : Option (Unit × hM)) (res : Nat ⊕ (List Int32 × Nat × aP)) : Prop := match res with
  | .inl w => ∃ s', X = some ((), ov M m s') ∧ krh p s s' ∧ s'.1 7 = wr w
  | .inr (nm, v, st) => ∃ s', X = some ((), ov M m s') ∧ krh p s s' ∧ s'.1 7 = 0 ∧ PI p s' st ∧ s'.2.2.1 5 p = nI nm.length ∧ nmI (s'.2.2.1 8) (20 * p) nm ∧ s'.2.2.2 9 p = lN v
theorem hSp.eq {X Y : Option (Unit × hM)} {res : Nat ⊕ (List Int32 × Nat × aP)} (e : X = Y) (h : hSp M m p s Y res) : hSp M m p s X res := by rw [e]; exact h
theorem nil_get {α : Type} {i : Nat} {x : α} (h : ([] : List α)[i]? = some x) : False := by rw [List.getElem?_nil] at h; cases h
theorem kC0 : kC 0 = 31632277022795621 := by decide +kernel
theorem PI0.a (h : PI0 p s st) (h1 : s'.1 = s.1) (h2 : ∀ j, j ≠ 5 → j ≠ 8 → s'.2.2.1 j = s.2.2.1 j) (h3 : ∀ j, j ≠ 9 → s'.2.2.2 j = s.2.2.2 j) : PI0 p s' st := by
  obtain ⟨a1, a2, a3, a4, a5, a6, a7, a8, a9⟩ := h
  refine ⟨by rw [h1]; exact a1, a2, by rw [h1]; exact a3, a4, by rw [h1]; exact a5, fun i x hx => ⟨?_, (a6 i x hx).2⟩, ?_, ?_, ?_⟩
  · have := (a6 i x hx).1
    unfold RRow at *
    rw [h2 12 (by omega) (by omega), h2 13 (by omega) (by omega), h2 14 (by omega) (by omega), h2 15 (by omega) (by omega), h2 16 (by omega) (by omega), h2 17 (by omega) (by omega), h2 20 (by omega) (by omega), h3 18 (by omega), h3 19 (by omega)]
    exact this
  · rw [h2 7 (by omega) (by omega)]; exact a7
  · intro i w hw; unfold FF; rw [h2 11 (by omega) (by omega), h2 10 (by omega) (by omega)]; exact a8 i w hw
  · unfold cS; rw [h2 4 (by omega) (by omega), h3 3 (by omega), h3 2 (by omega)]; exact a9
theorem m_readAll (hN : 3000 ≤ N) (hS : tS s f n) (h11 : s.1 11 = nI p) (hp : p ≤ 40) (hc : cS s) : hSp M m p s ((f_MD_readAll N m).1 (ov M m s)) (pTx f n) := by
  have hn := hS.2.1
  have h8 := hS.2.2.1
  have hN2 : 2001 ≤ N := by omega
  have ip : ¬ (nI p < 0 ∨ 41 ≤ (nI p).toNatClampNeg) := nI_in (by omega) (by decide)
  have cp := nI_clamp (n := p) (by omega)
  rw [e_MD_readAll]
  refine hSp.eq (mI_11.trans (mP_4.trans (mP_7.trans (mP_28.trans (mP_29.trans (mP_34.trans (mR_14.trans r_nn))))))) ?_
  have h11' : va_up (va_up (va_up (va_up (va_up s.1 4 0) 7 0) 28 0) 29 0) 34 0 11 = nI p := h11
  rw [h11]
  refine hSp.eq (mS_7 ip) ?_
  rw [cp]
  generalize hs0 : ((va_up (va_up (va_up (va_up (va_up s.1 4 0) 7 0) 28 0) 29 0) 34 0, s.2.1, va_up s.2.2.1 7 (va_up (s.2.2.1 7) p 0), s.2.2.2) : rS) = s0
  have k0 : kr p s s0 := by
    rw [← hs0]
    refine ⟨⟨rfl, rfl, rfl, rfl⟩, fun j i c => ?_, fun _ _ _ => rfl⟩
    show va_up s.2.2.1 7 _ j i = s.2.2.1 j i
    by_cases e : j = 7
    · subst e; rw [ua_s]; have : i < p := c; exact ua_n (by omega)
    · rw [ua_n e]
  have S0 : tS s0 f n := by rw [← hs0]; exact hS
  have P0 : PI p s0 ([], [], 0) := by
    rw [← hs0]
    refine ⟨⟨h11, hp, rfl, by decide, rfl, fun i x hx => (nil_get hx).elim, ua_s, fun i x hx => (nil_get hx).elim, hc⟩, rfl, fun i x hx => (nil_get hx).elim⟩
  have g4 : s0.1 4 = nI 0 := by rw [← hs0]; rfl
  have g7 : s0.1 7 = 0 := by rw [← hs0]; rfl
  clear hs0 h11'
  obtain ⟨s1, r1, r2, r3, r4, r5⟩ := m_nextK (N := N) (M := M) (m := m) (s := s0) (k := 0) hN2 S0 g4 (by omega)
  refine hSp.eq (mI_is.trans r_callE) ?_
  rw [r1, Option.bind_some]
  refine hSp.eq (mI_is.trans r_callE) ?_
  rw [m_key hN2 r2.w, Option.bind_some]
  dsimp only
  have k1 : kr p s s1 := k0.tr r3.q.r
  have w7 : s1.1 7 = 0 := r4.trans g7
  have hkey := key_iff (t := 0) (f := f) (n := n) (q := sp f n 0) (by omega) h8
  rw [kC0] at hkey
  have hs0l := sp_le (f := f) (Nat.zero_le n)
  have bad : (b_getI m 1 3 (fun v74 => b_is m 1 (b_call (f_MD_fail N m v74) (fun _ => b_ret ())))).1 (ov M m s1) = some ((), ov M m (va_up s1.1 7 (wr (sp f n 0)), s1.2)) := by
    simp only [mI_3, r2.2.2.1, mI_is, r_callE, m_fail0 w7, Option.bind_some, r_ret]; rfl
  unfold pTx pHd
  by_cases c1 : cL (sgn f n (sp f n 0))
  · rw [if_pos c1]
    obtain ⟨q1, q2⟩ := cL_in c1
    by_cases c2 : isTx f (sp f n 0) (we f n (sp f n 0)) 0
    · rw [if_pos c2, r_if_t (lg_eq.mpr (hkey.mpr ⟨⟨q1, q2⟩, c2⟩))]
      have e4 := te_L (f := f) q1 q2
      have hwe := we_le (f := f) (Nat.le_of_lt q1)
      obtain ⟨s2, u1, u2, u3, u4, u5⟩ := m_nextK (N := N) (M := M) (m := m) (s := s1) (k := we f n (sp f n 0)) hN2 r2.1 (by rw [← e4]; exact r2.2.2.2.2.1) hwe
      refine hSp.eq (mI_is.trans r_callE) ?_
      rw [u1, Option.bind_some]
      refine hSp.eq (mI_is.trans r_callE) ?_
      have k2 := k1.tr (u3.q.r (p := p))
      have hT := m_takeName (N := N) (M := M) (m := m) hN2 u2.w (u4.trans w7)
      cases hr : nmR f n (we f n (sp f n 0)) with
      | inl w =>
        rw [hr] at hT
        obtain ⟨s3, v, v1, v2, v3⟩ := hT
        have hw := wNe v3 (by have := nmR_le hwe hr; omega)
        obtain ⟨vv, hv⟩ := m_versionW (N := N) (M := M) (m := m) hN2 hw
        have hw4 : ¬ ((s3.1, s3.2.1, s3.2.2.1, va_up s3.2.2.2 9 (va_up (s3.2.2.2 9) p vv)) : rS).1 7 = 0 := hw
        refine ⟨(s3.1, s3.2.1, s3.2.2.1, va_up s3.2.2.2 9 (va_up (s3.2.2.2 9) p vv)), ?_, (k2.tr v2.q.r).h.tr ⟨⟨rfl, rfl, rfl, rfl⟩, fun _ _ _ => rfl, fun j i c => ?_⟩, v3⟩
        · rw [v1, Option.bind_some]
          simp only [mI_45, mR_16, mI_is, r_callE, hv, Option.bind_some, r_nn, mS_9 ip, cp, m_signW hw4, m_isWrong, hw4, not_false_eq_true, bI, if_true, show ¬ (1 : Int32) = 0 by decide, if_false, rows_W hN2 hw4]
        · show va_up s3.2.2.2 9 _ j i = s3.2.2.2 j i
          by_cases e : j = 9
          · subst e; rw [ua_s]; have := c.2 rfl; exact ua_n (by omega)
          · rw [ua_n e]
      | inr be =>
        obtain ⟨b, e⟩ := be
        rw [hr] at hT
        obtain ⟨s3, v1, v2, v3, v4, v5⟩ := hT
        obtain ⟨_, _, g1, g2, g3, g4', _⟩ := nmR_in hr
        dsimp only
        rw [v1, Option.bind_some]
        refine hSp.eq (mI_45.trans (mR_16.trans (mI_is.trans r_callE))) ?_
        rw [v5]
        have k3 := k2.tr (v3.q.r (p := p))
        have hV := m_version (N := N) (M := M) (m := m) hN2 v2.w v4
        have kL : ∀ (s4 : rS) (x : Int64), krh p s4 (s4.1, s4.2.1, s4.2.2.1, va_up s4.2.2.2 9 (va_up (s4.2.2.2 9) p x)) := by
          intro s4 x
          refine ⟨⟨rfl, rfl, rfl, rfl⟩, fun _ _ _ => rfl, fun j i c => ?_⟩
          show va_up s4.2.2.2 9 _ j i = s4.2.2.2 j i
          by_cases e : j = 9
          · subst e; rw [ua_s]; have := c.2 rfl; exact ua_n (by omega)
          · rw [ua_n e]
        cases hv : verR f n e with
        | inl w =>
          rw [hv] at hV
          obtain ⟨s4, vv, y1, y2, y3⟩ := hV
          have hw := wNe y3 (by have := verR_le g3 hv; omega)
          have hw4 : ¬ ((s4.1, s4.2.1, s4.2.2.1, va_up s4.2.2.2 9 (va_up (s4.2.2.2 9) p vv)) : rS).1 7 = 0 := hw
          refine ⟨(s4.1, s4.2.1, s4.2.2.1, va_up s4.2.2.2 9 (va_up (s4.2.2.2 9) p vv)), ?_, (k3.tr y2.q.r).h.tr (kL s4 vv), y3⟩
          rw [y1, Option.bind_some]
          simp only [r_nn, mS_9 ip, cp, mI_is, r_callE, m_signW hw4, Option.bind_some, m_isWrong, hw4, not_false_eq_true, bI, if_true, show ¬ (1 : Int32) = 0 by decide, if_false, rows_W hN2 hw4]
        | inr qx =>
          obtain ⟨q, x⟩ := qx
          rw [hv] at hV
          obtain ⟨s4, y1, y2, y3, y4⟩ := hV
          rw [y1, Option.bind_some]
          dsimp only
          refine hSp.eq (r_nn.trans (mS_9 ip)) ?_
          rw [cp]
          have k4 : krh p s (s4.1, s4.2.1, s4.2.2.1, va_up s4.2.2.2 9 (va_up (s4.2.2.2 9) p (lN x))) := (k3.tr y3.q.r).h.tr (kL s4 (lN x))
          have W5 : tkW (s4.1, s4.2.1, s4.2.2.1, va_up s4.2.2.2 9 (va_up (s4.2.2.2 9) p (lN x))) f n q := y2.w
          have P5 : PI p (s4.1, s4.2.1, s4.2.2.1, va_up s4.2.2.2 9 (va_up (s4.2.2.2 9) p (lN x))) ([], [], 0) := by
            have P4 : PI p s4 ([], [], 0) := P0.q (((r3.tr u3).tr (v3.tr y3)).q)
            exact ⟨P4.1.a rfl (fun _ _ _ => rfl) (fun j hj => ua_n hj), P4.2⟩
          have g9 : (s4.1, s4.2.1, s4.2.2.1, va_up s4.2.2.2 9 (va_up (s4.2.2.2 9) p (lN x))).2.2.2 9 p = lN x := ua_s
          have g77 : (s4.1, s4.2.1, s4.2.2.1, va_up s4.2.2.2 9 (va_up (s4.2.2.2 9) p (lN x))).1 7 = 0 := y4
          generalize ((s4.1, s4.2.1, s4.2.2.1, va_up s4.2.2.2 9 (va_up (s4.2.2.2 9) p (lN x))) : rS) = s5 at *
          have hs := m_sign (N := N) (M := M) (m := m) (c := 59) hN2 W5 g77 (by decide) (by decide) (by decide) (by decide) (by decide) (by decide)
          refine hSp.eq (mI_is.trans r_callE) ?_
          have hvq := verR_q g3 hv
          have hsl := sp_le (f := f) hvq
          by_cases c3 : sgn f n (sp f n q) = 59
          · rw [if_pos c3] at hs ⊢
            dsimp only
            obtain ⟨s6, z1, z2, z3, z4, z5⟩ := hs
            rw [z1, Option.bind_some]
            refine hSp.eq (mI_is.trans r_callE) ?_
            rw [m_isWrong, Option.bind_some, bI_f (show ¬ ¬ s6.1 7 = 0 from fun z => z z4), r_if_t rfl]
            have eA : ∀ A, va_up s6.2.2.1 5 A 1 = tx f := fun A => z2.1.2.2.2
            have e20 : (20 : Int32) * nI p = nI (20 * p) := nI_mul
            have cpy := m_copyName (N := N) (M := M) (m := m) (s := (s6.1, s6.2.1, va_up s6.2.2.1 5 (va_up (s6.2.2.1 5) p (nI (e - b))), s6.2.2.2)) (f := f) (tj := 8) (Z := 820) (b := b) (L := e - b) (t := 20 * p) hN2 (by decide) (by decide) (fun i x K s h => mS_8 h) (eA (va_up (s6.2.2.1 5) p (nI (e - b)))) (by omega) (by omega)
            refine hSp.eq (mR_12.trans (r_nn.trans ((mS_5 ip).trans (mR_15.trans (mI_is.trans r_callE))))) ?_
            rw [cp, e20, cpy, Option.bind_some]
            dsimp only
            have k7 : krh p s6 (s6.1, s6.2.1, va_up (va_up s6.2.2.1 5 (va_up (s6.2.2.1 5) p (nI (e - b)))) 8 (cpA (va_up s6.2.2.1 5 (va_up (s6.2.2.1 5) p (nI (e - b))) 8) (20 * p) (e - b) fun j => tx f (b + j)), s6.2.2.2) := by
              refine ⟨⟨rfl, rfl, rfl, rfl⟩, fun j i c => ?_, fun _ _ _ => rfl⟩
              show va_up (va_up s6.2.2.1 5 _) 8 _ j i = s6.2.2.1 j i
              by_cases e8 : j = 8
              · subst e8; rw [ua_s]; have := c.2.2 rfl; exact (cpA_out (i := i) (b := 20 * p) (L := e - b) (by omega)).trans rfl
              · rw [ua_n e8]
                by_cases e5 : j = 5
                · subst e5; rw [ua_s]; have := c.2.1 rfl; exact ua_n (by omega)
                · rw [ua_n e5]
            have W7 : tkW (s6.1, s6.2.1, va_up (va_up s6.2.2.1 5 (va_up (s6.2.2.1 5) p (nI (e - b)))) 8 (cpA (va_up s6.2.2.1 5 (va_up (s6.2.2.1 5) p (nI (e - b))) 8) (20 * p) (e - b) fun j => tx f (b + j)), s6.2.2.2) f n (sp f n q + 1) := z2.w
            have P7 : PI p (s6.1, s6.2.1, va_up (va_up s6.2.2.1 5 (va_up (s6.2.2.1 5) p (nI (e - b)))) 8 (cpA (va_up s6.2.2.1 5 (va_up (s6.2.2.1 5) p (nI (e - b))) 8) (20 * p) (e - b) fun j => tx f (b + j)), s6.2.2.2) ([], [], 0) := by
              have P6 := P5.q z3.q
              exact ⟨P6.1.a rfl (fun j h1 h2 => (ua_n h2).trans (ua_n h1)) (fun _ _ => rfl), P6.2⟩
            have n5 : (s6.1, s6.2.1, va_up (va_up s6.2.2.1 5 (va_up (s6.2.2.1 5) p (nI (e - b)))) 8 (cpA (va_up s6.2.2.1 5 (va_up (s6.2.2.1 5) p (nI (e - b))) 8) (20 * p) (e - b) fun j => tx f (b + j)), s6.2.2.2).2.2.1 5 p = nI (wd f b e).length := by
              rw [wd_len]; exact ua_s
            have n8 : nmI ((s6.1, s6.2.1, va_up (va_up s6.2.2.1 5 (va_up (s6.2.2.1 5) p (nI (e - b)))) 8 (cpA (va_up s6.2.2.1 5 (va_up (s6.2.2.1 5) p (nI (e - b))) 8) (20 * p) (e - b) fun j => tx f (b + j)), s6.2.2.2).2.2.1 8) (20 * p) (wd f b e) := by
              rw [← nmR_tx h8 hr]; exact nmI_cp
            have n9 : (s6.1, s6.2.1, va_up (va_up s6.2.2.1 5 (va_up (s6.2.2.1 5) p (nI (e - b)))) 8 (cpA (va_up s6.2.2.1 5 (va_up (s6.2.2.1 5) p (nI (e - b))) 8) (20 * p) (e - b) fun j => tx f (b + j)), s6.2.2.2).2.2.2 9 p = lN x := by
              show s6.2.2.2 9 p = lN x
              rw [z3.1]; exact g9
            have n7 : (s6.1, s6.2.1, va_up (va_up s6.2.2.1 5 (va_up (s6.2.2.1 5) p (nI (e - b)))) 8 (cpA (va_up s6.2.2.1 5 (va_up (s6.2.2.1 5) p (nI (e - b))) 8) (20 * p) (e - b) fun j => tx f (b + j)), s6.2.2.2).1 7 = 0 := z4
            have kk := (k4.tr z3.q.r.h).tr k7
            generalize ((s6.1, s6.2.1, va_up (va_up s6.2.2.1 5 (va_up (s6.2.2.1 5) p (nI (e - b)))) 8 (cpA (va_up s6.2.2.1 5 (va_up (s6.2.2.1 5) p (nI (e - b))) 8) (20 * p) (e - b) fun j => tx f (b + j)), s6.2.2.2) : rS) = s7 at *
            have hc3 := sgn_0 (by decide) c3
            have hL := m_rows_loop (N := N) (M := M) (m := m) (p := p) (f := f) (n := n) hN2 (n + 1) N (sp f n q + 1) s7 ([], [], 0) (by omega) (by omega) W7 n7 P7 ⟨fun x hx => (by cases hx), fun x hx => (by cases hx), by decide⟩ (Nat.zero_le _) (Nat.zero_le _)
            revert hL
            cases hpr : pRows f n (n + 1) ([], [], 0) (sp f n q + 1) with
            | inl w =>
              rintro ⟨s8, t1, t2, t3⟩
              exact ⟨s8, t1, kk.tr t2.h, t3⟩
            | inr st =>
              dsimp only
              cases hd : dfS (dfl st) st.2.1 with
              | some w =>
                rintro ⟨s8, t1, t2, t3⟩
                exact ⟨s8, t1, kk.tr t2.h, t3⟩
              | none =>
                rintro ⟨s8, t1, t2, t3, t4⟩
                refine ⟨s8, t1, kk.tr t2.h, t3, t4, (t2.2.1 5 p trivial).trans n5, fun j hj => (t2.2.1 8 _ trivial).trans (n8 j hj), (t2.2.2 9 p trivial).trans n9⟩
          · rw [if_neg c3] at hs ⊢
            obtain ⟨s6, z1, z2, z3, z4⟩ := hs
            have hw := wNe z3 (by omega)
            refine ⟨s6, ?_, k4.tr z2.q.r.h, z3⟩
            rw [z1, Option.bind_some]
            simp only [mI_is, r_callE, m_isWrong, hw, not_false_eq_true, Option.bind_some, bI, if_true, show ¬ (1 : Int32) = 0 by decide, if_false, rows_W hN2 hw]
    · rw [if_neg c2, r_if_f (fun z => c2 (hkey.mp (lg_eq.mp z)).2)]
      exact ⟨_, bad, k1.h.tr (kr_I (j := 7) (by omega)).h, rfl⟩
  · rw [if_neg c1, r_if_f (fun z => c1 (by have y := (hkey.mp (lg_eq.mp z)).1; rw [sgn_at y.1]; exact y.2))]
    exact ⟨_, bad, k1.h.tr (kr_I (j := 7) (by omega)).h, rfl⟩
end RALL3
