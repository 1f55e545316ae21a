/-! LAYER 2: the reference reads provide, script, file, need -/
section RPLA
variable {N : Nat} {M : hM} {m p : Nat} {s s' s'' : rS} {f : Nat → Int32} {n k : Nat} {st : aP}
theorem m_readPlain {q0 kd : Nat} (hN : 2001 ≤ N) (hq0 : q0 ≤ n) (hkd : kd = 7 ∨ kd = 14 ∨ kd = 15) (h : tkW s f n k) (h7 : s.1 7 = 0) (hP : PI p s st) (h31 : s.1 31 = nI kd) (h30 : s.1 30 = nI q0) :
    pSp M m p s f n ((f_MD_readPlain N m).1 (ov M m s)) (if kd = 7 then pPv f n q0 st k else if kd = 14 then pSc f n q0 st k else pFi f n q0 st k) := by
  have hn := h.1.2.1
  have h8 := h.1.2.2.1
  have hk := h.2.2.2.2
  rw [e_MD_readPlain]
  have hT := m_takeName (N := N) (M := M) (m := m) hN h h7
  refine pSp.eq (mI_is.trans r_callE) ?_
  cases hr : nmR f n k with
  | inl w =>
    rw [hr] at hT
    obtain ⟨s1, v, r1, r2, r3⟩ := hT
    have hw := wNe r3 (by have := nmR_le hk hr; omega)
    have w31 : s1.1 31 = nI kd := (r2.2 31 (by omega) (by omega)).trans h31
    rw [r1, Option.bind_some]
    refine pSp.eq (mI_45.trans mI_31) ?_
    rw [w31]
    rcases hkd with c | c | c <;> subst c
    · rw [r_if_t (show nI 7 = 7 from rfl), if_pos rfl]
      unfold pPv; rw [hr]
      obtain ⟨v, hv⟩ := m_versionW (N := N) (M := M) (m := m) hN hw
      refine ⟨s1, ?_, r2.q.r, r3⟩
      simp only [mI_is, r_callE, hv, Option.bind_some, m_addW hw, r_ret]
    · rw [r_if_f (show ¬ nI 14 = 7 by decide), if_neg (by omega), if_pos rfl]
      unfold pSc; rw [hr]
      obtain ⟨s2, v, u1, u2, u3⟩ := m_takeNameW (N := N) (M := M) (m := m) hw
      have hw2 := wNe (u3.trans r3) (by have := nmR_le hk hr; omega)
      refine ⟨s2, ?_, (r2.tr u2).q.r, u3.trans r3⟩
      simp only [mI_31, w31, show nI 14 = 14 from rfl, if_true, mI_is, r_callE, u1, Option.bind_some, mI_45, m_addW hw2, r_ret]
    · rw [r_if_f (show ¬ nI 15 = 7 by decide), if_neg (by omega), if_neg (by omega)]
      unfold pFi; rw [hr]
      refine ⟨s1, ?_, r2.q.r, r3⟩
      simp only [mI_31, w31, show ¬ nI 15 = 14 by decide, if_false, mI_is, r_callE, m_numW hw, Option.bind_some, m_addW hw, r_ret]
  | inr be =>
    obtain ⟨b, e⟩ := be
    rw [hr] at hT
    obtain ⟨s1, r1, r2, r3, r4, r5⟩ := hT
    obtain ⟨_, _, g1, g2, g3, g4, _⟩ := nmR_in hr
    have w31 : s1.1 31 = nI kd := (r3.2 31 (by omega) (by omega)).trans h31
    rw [r1, Option.bind_some]
    refine pSp.eq (mI_45.trans mI_31) ?_
    rw [w31, r5]
    rcases hkd with c | c | c <;> subst c
    · rw [r_if_t (show nI 7 = 7 from rfl), if_pos rfl]
      unfold pPv; rw [hr]
      dsimp only
      refine pSp.eq (mI_is.trans r_callE) ?_
      have hV := m_version (N := N) (M := M) (m := m) hN r2.w r4
      cases hv : verR f n e with
      | inl w =>
        rw [hv] at hV
        obtain ⟨s2, v, u1, u2, u3⟩ := hV
        have hw := wNe u3 (by have := verR_le g3 hv; omega)
        refine ⟨s2, ?_, (r3.tr u2).q.r, u3⟩
        rw [u1, Option.bind_some]
        simp only [mI_is, r_callE, m_addW hw, Option.bind_some, r_ret]
      | inr qx =>
        obtain ⟨q, x⟩ := qx
        rw [hv] at hV
        obtain ⟨s2, u1, u2, u3, u4⟩ := hV
        rw [u1, Option.bind_some]
        dsimp only
        rw [lN_1]
        have kk : kq s s2 := (r3.tr u3).q
        have e30 := kk.2 30 (by omega) (by omega)
        have e31 := kk.2 31 (by omega) (by omega)
        exact (m_addE (b2 := 0) (L2 := 0) hN u2.w u4 (hP.q kk) (e31.trans h31) (by omega) (by omega) (e30.trans h30) (by omega) g4 (by omega) (by omega) (nmR_tx h8 hr) rfl b).mono kk.r e30 e31
    · rw [r_if_f (show ¬ nI 14 = 7 by decide), if_neg (by omega), if_pos rfl]
      unfold pSc; rw [hr]
      dsimp only
      refine pSp.eq mI_31 ?_
      rw [w31, r_if_t (show nI 14 = 14 from rfl)]
      refine pSp.eq (mI_is.trans r_callE) ?_
      have hT2 := m_takeName (N := N) (M := M) (m := m) hN r2.w r4
      cases hr2 : nmR f n e with
      | inl w =>
        rw [hr2] at hT2
        obtain ⟨s2, v, u1, u2, u3⟩ := hT2
        have hw := wNe u3 (by have := nmR_le g3 hr2; omega)
        refine ⟨s2, ?_, (r3.tr u2).q.r, u3⟩
        rw [u1, Option.bind_some]
        simp only [mI_45, mI_is, r_callE, m_addW hw, Option.bind_some, r_ret]
      | inr be2 =>
        obtain ⟨b2, e2⟩ := be2
        rw [hr2] at hT2
        obtain ⟨s2, u1, u2, u3, u4, u5⟩ := hT2
        obtain ⟨_, _, k1, k2, k3, k4, _⟩ := nmR_in hr2
        rw [u1, Option.bind_some]
        refine pSp.eq mI_45 ?_
        rw [u5]
        have kk : kq s s2 := (r3.tr u3).q
        have e30 := kk.2 30 (by omega) (by omega)
        have e31 := kk.2 31 (by omega) (by omega)
        exact (m_addE (b2 := b2) (L2 := e2 - b2) hN u2.w u4 (hP.q kk) (e31.trans h31) (by omega) (by omega) (e30.trans h30) (by omega) g4 (by omega) k4 (nmR_tx h8 hr) (nmR_tx h8 hr2) b).mono kk.r e30 e31
    · rw [r_if_f (show ¬ nI 15 = 7 by decide), if_neg (by omega), if_neg (by omega)]
      unfold pFi; rw [hr]
      dsimp only
      refine pSp.eq mI_31 ?_
      rw [w31, r_if_f (show ¬ nI 15 = 14 by decide)]
      refine pSp.eq (mI_is.trans r_callE) ?_
      have hM := m_number (N := N) (M := M) (m := m) hN r2.w r4
      by_cases c : nuOk f (sp f n e) (den f (n - sp f n e) (sp f n e) - sp f n e)
      · rw [if_pos c] at hM ⊢
        obtain ⟨s2, u1, u2, u3, u4⟩ := hM
        rw [u1, Option.bind_some]
        have kk : kq s s2 := (r3.tr u3).q
        have e30 := kk.2 30 (by omega) (by omega)
        have e31 := kk.2 31 (by omega) (by omega)
        exact (m_addE (b2 := 0) (L2 := 0) hN u2.w u4 (hP.q kk) (e31.trans h31) (by omega) (by omega) (e30.trans h30) (by omega) g4 (by omega) (by omega) (nmR_tx h8 hr) rfl b).mono kk.r e30 e31
      · rw [if_neg c] at hM ⊢
        obtain ⟨s2, u1, u2, u3⟩ := hM
        have hw := wNe u3 (by have := sp_le (f := f) g3; omega)
        refine ⟨s2, ?_, (r3.tr u2).q.r, u3⟩
        rw [u1, Option.bind_some]
        simp only [mI_is, r_callE, m_addW hw, Option.bind_some, r_ret]
theorem lg_eq {x y : Int64} : lg_cmp x y = 0 ↔ x = y := by
  unfold lg_cmp
  by_cases h1 : x > y
  · rw [if_pos h1]
    exact ⟨fun z => absurd z (by decide), fun z => absurd h1 (by rw [z]; exact Int64.lt_irrefl)⟩
  · rw [if_neg h1]
    by_cases h2 : x = y
    · rw [if_pos h2]; exact ⟨fun _ => h2, fun _ => rfl⟩
    · rw [if_neg h2]; exact ⟨fun z => absurd z (by decide), fun z => absurd z h2⟩
theorem fsI_ge {P : Nat → Prop} : ∀ d i, i ≤ fsI P d i ∧ fsI P d i ≤ i + d
  | 0, i => ⟨Nat.le_refl _, Nat.le_refl _⟩
  | d + 1, i => by
    unfold fsI
    by_cases c : P i
    · rw [if_pos c]; omega
    · rw [if_neg c]; have := fsI_ge (P := P) d (i + 1); omega
theorem fsI_P {P : Nat → Prop} : ∀ d i, fsI P d i < i + d → P (fsI P d i)
  | 0, i, h => absurd h (by show ¬ i < i + 0; omega)
  | d + 1, i, h => by
    unfold fsI at h ⊢
    by_cases c : P i
    · rw [if_pos c]; exact c
    · rw [if_neg c] at h ⊢; exact fsI_P d (i + 1) (by omega)
/-- what follows when a need's word is found -/
def ndE (N m : Nat) (x1 : Int32) : hX Unit := (if x1 = 5 then b_getI m 1 3 (fun v9 => b_is m 1 (b_call (f_MD_fail N m v9) (fun _ => b_ret ()))) else b_put m 1 31 (.int x1) (b_is m 1 (b_call (f_MD_next N m) (fun _ => b_is m 1 (b_call (f_MD_readRanged N m) (fun _ => b_ret ()))))))
theorem m_need_loop {q : Nat} {P : Nat → Prop} {kv : Int64} (hc : cS s) (hP : ∀ j, j < 5 → (kv = kC (ntx j) ↔ P j)) : ∀ (d fu i : Nat), d + i = 5 → d < fu → (f_MD_readNeed_7 N m fu (nI i) kv).1 (ov M m s) = (ndE N m (nI (fsI P d i))).1 (ov M m s) := by
  intro d
  induction d with
  | zero =>
    intro fu i h1 h2
    obtain ⟨fu, rfl⟩ : ∃ g, fu = g + 1 := ⟨fu - 1, by omega⟩
    rw [e_MD_readNeed_7, r_let, r_if_t (show (5 : Int32) ≤ nI i from nI_le (a := 5) (by omega) (by omega))]
    rfl
  | succ d ih =>
    intro fu i h1 h2
    obtain ⟨fu, rfl⟩ : ∃ g, fu = g + 1 := ⟨fu - 1, by omega⟩
    have hi1 : ¬ (nI i < 0 ∨ 5 ≤ (nI i).toNatClampNeg) := nI_in (by omega) (by decide)
    have hcl := nI_clamp (n := i) (by omega)
    rw [e_MD_readNeed_7, r_let, r_if_f (show ¬ (5 : Int32) ≤ nI i from nI_ge (b := 5) (by omega) (by omega))]
    simp only [mR_8, r_nn, mA_2 hi1, hcl, hc.2 i (by omega)]
    unfold fsI
    by_cases c : P i
    · rw [r_if_t (lg_eq.mpr ((hP i (by omega)).mpr c).symm), if_pos c]
      rfl
    · rw [r_if_f (fun z => c ((hP i (by omega)).mp (lg_eq.mp z).symm)), if_neg c, nI_1]
      exact ih fu (i + 1) (by omega) (by omega)
theorem m_readNeed {q0 : Nat} (hN : 2001 ≤ N) (hq0 : q0 ≤ n) (h : tkW s f n k) (h7 : s.1 7 = 0) (hP : PI p s st) (h30 : s.1 30 = nI q0) (h31 : s.1 31 = nI 0) :
    (match pNd f n q0 st k with
      | .inl w => ∃ s', (f_MD_readNeed N m).1 (ov M m s) = some ((), ov M m s') ∧ kr p s s' ∧ s'.1 7 = wr w
      | .inr (q, st') => ∃ s', (f_MD_readNeed N m).1 (ov M m s) = some ((), ov M m s') ∧ tkW s' f n q ∧ kr p s s' ∧ s'.1 7 = 0 ∧ PI p s' st' ∧ s'.1 30 = s.1 30) := by
  have hn := h.1.2.1
  have h8 := h.1.2.2.1
  have hk := h.2.2.2.2
  have e1 : (f_MD_readNeed N m).1 (ov M m s) = (f_MD_readNeed_7 N m N 0 (kvl f n (sp f n k))).1 (ov M m s) := by
    rw [e_MD_readNeed]
    refine (mI_is.trans r_callE).trans ?_
    rw [m_key hN h, Option.bind_some]
  rw [e1]
  have bad : (ndE N m (nI 5)).1 (ov M m s) = some ((), ov M m (va_up s.1 7 (wr (sp f n k)), s.2)) := by
    unfold ndE
    rw [r_if_t (show nI 5 = 5 from rfl)]
    simp only [mI_3, h.2.1, mI_is, r_callE, m_fail0 h7, Option.bind_some, r_ret]
    rfl
  unfold pNd
  by_cases c1 : cL (sgn f n (sp f n k))
  · rw [if_pos c1]
    obtain ⟨q1, q2⟩ := cL_in c1
    have hL := m_need_loop (N := N) (M := M) (m := m) (q := 0) (P := fun i => isTx f (sp f n k) (we f n (sp f n k)) (ntx i)) (kv := kvl f n (sp f n k)) hP.1.2.2.2.2.2.2.2.2 (fun j hj => by
      have := key_iff (t := ntx j) (f := f) (n := n) (q := sp f n k) (by unfold ntx; split <;> omega) h8
      exact ⟨fun z => (this.mp z).2, fun z => this.mpr ⟨⟨q1, q2⟩, z⟩⟩) 5 N 0 (by omega) (by omega)
    rw [show (0 : Int32) = nI 0 from rfl, hL]
    have hle := fsI_ge (P := fun i => isTx f (sp f n k) (we f n (sp f n k)) (ntx i)) 5 0
    generalize fsI (fun i => isTx f (sp f n k) (we f n (sp f n k)) (ntx i)) 5 0 = i at *
    by_cases c2 : i = 5
    · rw [if_pos c2, c2]
      exact ⟨_, bad, kr_I (by omega), rfl⟩
    · rw [if_neg c2]
      unfold ndE
      rw [r_if_f (show ¬ nI i = 5 from fun z => c2 ((nI_eq (b := 5) (by omega) (by omega)).mp z)), mP_31]
      have e4 := te_L (f := f) q1 q2
      obtain ⟨s1, r1, r2, r3, r4, r5⟩ := m_nextK (N := N) (M := M) (m := m) (s := (va_up s.1 31 (nI i), s.2)) (k := we f n (sp f n k)) hN h.1 (by rw [← e4]; exact h.2.2.2.1) (we_le (Nat.le_of_lt q1))
      rw [mI_is, r_callE, r1, Option.bind_some]
      dsimp only
      rw [mI_is, r_callE]
      have hP1 : PI p (va_up s.1 31 (nI i), s.2) st := hP
      have hR := m_readRanged (N := N) (M := M) (m := m) (q0 := q0) (kd := i) hN r2.w (r4.trans h7) (hP1.q r3.q) (r3.2 31 (by omega) (by omega)) (by omega) (by omega) ((r3.2 30 (by omega) (by omega)).trans h30)
      have k1 : kr p s (va_up s.1 31 (nI i), s.2) := kr_I (by omega)
      revert hR
      cases pRg f n q0 i st (we f n (sp f n k)) with
      | inl w =>
        rintro ⟨s2, x1, x2, x3⟩
        exact ⟨s2, by rw [x1]; rfl, (k1.tr r3.q.r).tr x2, x3⟩
      | inr x =>
        rintro ⟨s2, x1, x2, x3, x4, x5, x6, x7⟩
        exact ⟨s2, by rw [x1]; rfl, x2, (k1.tr r3.q.r).tr x3, x4, x5, x6.trans (r3.2 30 (by omega) (by omega))⟩
  · rw [if_neg c1]
    have hL := m_need_loop (N := N) (M := M) (m := m) (q := 0) (P := fun _ => False) (kv := kvl f n (sp f n k)) hP.1.2.2.2.2.2.2.2.2 (fun j hj => by
      have := key_iff (t := ntx j) (f := f) (n := n) (q := sp f n k) (by unfold ntx; split <;> omega) h8
      exact ⟨fun z => c1 (by have y := (this.mp z).1; rw [sgn_at y.1]; exact y.2), fun z => z.elim⟩) 5 N 0 (by omega) (by omega)
    have e5 : fsI (fun _ => False) 5 0 = 5 := by
      have a := fsI_ge (P := fun _ => False) 5 0
      by_cases c : fsI (fun _ => False) 5 0 < 0 + 5
      · exact (fsI_P (P := fun _ => False) 5 0 c).elim
      · omega
    rw [show (0 : Int32) = nI 0 from rfl, hL, e5]
    exact ⟨_, bad, kr_I (by omega), rfl⟩
end RPLA
