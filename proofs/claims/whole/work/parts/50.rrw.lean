/-! LAYER 2: the reference reads a row of the text -/
section RRW
variable {N : Nat} {M : hM} {m p : Nat} {s s' s'' : rS} {f : Nat → Int32} {n k : Nat} {st : aP}
theorem pBd_le {q0 i q : Nat} (hq0 : q0 ≤ n) (hq : q ≤ n) (hk : k = we f n q) : (∀ w, pBd f n q0 st k i = .inl w → w ≤ n) ∧ (∀ q' st', pBd f n q0 st k i = .inr (q', st') → k + 1 ≤ q' ∧ q' ≤ n ∧ (i = 5 → k + 3 ≤ q' ∧ st'.2.1.length = st.2.1.length + 1) ∧ (i ≠ 5 → st'.2.1 = st.2.1)) := by
  have hkn : k ≤ n := by rw [hk]; exact we_le hq
  unfold pBd
  by_cases c0 : i = 0
  · rw [if_pos c0]
    obtain ⟨a, b⟩ := pNd_le (f := f) (st := st) hq0 hkn
    exact ⟨a, fun q' st' h => ⟨(b q' st' h).1, (b q' st' h).2.1, fun z => by omega, fun _ => (b q' st' h).2.2⟩⟩
  · rw [if_neg c0]
    by_cases c1 : i = 1 ∨ i = 2
    · rw [if_pos c1]
      exact ⟨fun w h => pRg_le hkn hq0 h, fun q' st' h => ⟨(pRg_q h).1, (pRg_q h).2.1, fun z => by omega, fun _ => by rw [(pRg_q h).2.2]⟩⟩
    · rw [if_neg c1]
      by_cases c3 : i = 3
      · rw [if_pos c3]
        obtain ⟨a, b⟩ := pPv_le (f := f) (st := st) hq0 hkn
        exact ⟨a, fun q' st' h => ⟨(b q' st' h).1, (b q' st' h).2.1, fun z => by omega, fun _ => (b q' st' h).2.2⟩⟩
      · rw [if_neg c3]
        by_cases c4 : i = 4
        · rw [if_pos c4]
          obtain ⟨a, b⟩ := pAny_le (f := f) (st := st) hq0 hkn
          exact ⟨a, fun q' st' h => ⟨(b q' st' h).1, (b q' st' h).2.1, fun z => by omega, fun _ => (b q' st' h).2.2⟩⟩
        · rw [if_neg c4]
          by_cases c5 : i = 5
          · rw [if_pos c5]
            obtain ⟨a, b⟩ := pFt_le (f := f) (st := st) hq0 hq hk
            exact ⟨a, fun q' st' h => ⟨by have := b q' st' h; omega, (b q' st' h).2.1, fun _ => ⟨(b q' st' h).1, (b q' st' h).2.2⟩, fun z => absurd c5 z⟩⟩
          · rw [if_neg c5]
            by_cases c10 : i = 10
            · rw [if_pos c10]
              obtain ⟨a, b⟩ := pSc_le (f := f) (st := st) hq0 hkn
              exact ⟨a, fun q' st' h => ⟨(b q' st' h).1, (b q' st' h).2.1, fun z => by omega, fun _ => (b q' st' h).2.2⟩⟩
            · rw [if_neg c10]
              by_cases c11 : i = 11
              · rw [if_pos c11]
                obtain ⟨a, b⟩ := pFi_le (f := f) (st := st) hq0 hkn
                exact ⟨a, fun q' st' h => ⟨(b q' st' h).1, (b q' st' h).2.1, fun z => by omega, fun _ => (b q' st' h).2.2⟩⟩
              · rw [if_neg c11]
                obtain ⟨a, b⟩ := pNm_le (f := f) (kd := i + 4) (ot := []) hq0 201 st k hkn
                exact ⟨a, fun q' st' h => ⟨(b q' st' h).1, (b q' st' h).2.1, fun z => by omega, fun _ => by rw [(b q' st' h).2.2]⟩⟩
/-- what the reading of a row of the text leaves -/
def uSp (M : hM) (m p : Nat) (s : rS) (f : Nat → Int32) (n : Nat) (X : Option (Unit × hM)) (res : Nat ⊕ (Nat × aP)) : Prop := match res with
  | .inl w => ∃ s', X = some ((), ov M m s') ∧ kr p s s' ∧ s'.1 7 = wr w
  | .inr (q, st') => ∃ s', X = some ((), ov M m s') ∧ tkW s' f n q ∧ kr p s s' ∧ s'.1 7 = 0 ∧ PI p s' st'
theorem uSp.eq {X Y : Option (Unit × hM)} {res : Nat ⊕ (Nat × aP)} (e : X = Y) (h : uSp M m p s f n Y res) : uSp M m p s f n X res := by rw [e]; exact h
theorem uSp.mono {X : Option (Unit × hM)} {res : Nat ⊕ (Nat × aP)} (h : uSp M m p s' f n X res) (g : kr p s s') : uSp M m p s f n X res := by
  rcases res with w | ⟨q, x⟩
  · obtain ⟨s'', a, b, c⟩ := h
    exact ⟨s'', a, g.tr b, c⟩
  · obtain ⟨s'', a, b, c, d⟩ := h
    exact ⟨s'', a, b, g.tr c, d⟩
theorem pSp.u {X : Option (Unit × hM)} {res : Nat ⊕ (Nat × aP)} (h : pSp M m p s f n X res) : uSp M m p s f n X res := by
  rcases res with w | ⟨q, x⟩
  · exact h
  · obtain ⟨s'', a, b, c, d, e, _⟩ := h
    exact ⟨s'', a, b, c, d, e⟩
def semi (f : Nat → Int32) (n : Nat) (r : Nat ⊕ (Nat × aP)) : Nat ⊕ (Nat × aP) := match r with
  | .inl w => .inl w
  | .inr (q, st') => if sgn f n (sp f n q) = 59 then .inr (sp f n q + 1, st') else .inl (sp f n q)
theorem m_rowEnd {B : hX Unit} {res : Nat ⊕ (Nat × aP)} (hN : 2001 ≤ N) (hn : n ≤ 2000) (hle : ∀ w, res = .inl w → w ≤ n) (hB : uSp M m p s f n (B.1 (ov M m s)) res) : uSp M m p s f n ((b_is m 1 (b_call B (fun _ => b_is m 1 (b_call (f_MD_sign N m 59) (fun _ => b_ret ()))))).1 (ov M m s)) (semi f n res) := by
  refine uSp.eq (mI_is.trans r_callE) ?_
  rcases res with w | ⟨q, st'⟩
  · obtain ⟨s1, a, b, c⟩ := hB
    have hw := wNe c (by have := hle w rfl; omega)
    refine ⟨s1, ?_, b, c⟩
    rw [a, Option.bind_some]
    simp only [mI_is, r_callE, m_signW hw, Option.bind_some, r_ret]
  · obtain ⟨s1, a, b, c, d, e⟩ := hB
    have hs := m_sign (M := M) (m := m) (c := 59) hN b d (by decide) (by decide) (by decide) (by decide) (by decide) (by decide)
    rw [a, Option.bind_some]
    refine uSp.eq (mI_is.trans r_callE) ?_
    unfold semi
    dsimp only
    by_cases c' : sgn f n (sp f n q) = 59
    · rw [if_pos c'] at hs ⊢
      obtain ⟨s2, u1, u2, u3, u4, u5⟩ := hs
      exact ⟨s2, by rw [u1]; rfl, u2.w, c.tr u3.q.r, u4, e.q u3.q⟩
    · rw [if_neg c'] at hs ⊢
      obtain ⟨s2, u1, u2, u3, u4⟩ := hs
      exact ⟨s2, by rw [u1]; rfl, c.tr u2.q.r, u3⟩
/-- what follows when a row's word is found -/
def rwE (N m : Nat) (x1 : Int64) (x3 : Int32) : hX Unit := b_let (b_getI m 1 3 (fun v1 => b_is m 1 (b_call (f_MD_fail N m v1) (fun _ => b_ret ())))) (fun J50 => b_let (b_is m 1 (b_call (f_MD_sign N m 59) (fun _ => b_ret ()))) (fun J174 => b_let (b_is m 1 (b_call (f_MD_readRanged N m) (fun _ => J174))) (fun J104 => b_let (b_is m 1 (b_call (f_MD_readPlain N m) (fun _ => J174))) (fun J170 => (if x3 = 12 then J50 else (if (lg_cmp x1 0) = 0 then J50 else b_getR m 1 10 (fun r18 => b_nn r18 (fun a19 => b_ald a19 2 x3 (fun v20 => b_put m 1 31 (.int v20) (b_is m 1 (b_call (f_MD_next N m) (fun _ => b_getI m 1 31 (fun v25 => (if v25 = 0 then b_is m 1 (b_call (f_MD_readNeed N m) (fun _ => J174)) else b_getI m 1 31 (fun v26 => (if v26 = 5 then J104 else b_getI m 1 31 (fun v27 => (if v27 = 6 then J104 else b_getI m 1 31 (fun v28 => (if v28 = 8 then b_is m 1 (b_call (f_MD_readAny N m) (fun _ => J174)) else b_getI m 1 31 (fun v29 => (if v29 = 9 then b_is m 1 (b_call (f_MD_readFeature N m) (fun _ => J174)) else b_getI m 1 31 (fun v30 => (if v30 ≤ 9 then J170 else b_getI m 1 31 (fun v31 => (if 14 ≤ v31 then J170 else b_is m 1 (b_call (f_MD_readNames N m 0 0) (fun _ => J174))))))))))))))))))))))))))))
theorem m_row_loop {P : Nat → Prop} {kv : Int64} (hc : cS s) (hP : ∀ j, j < 12 → (kv = kC (ktx j) ↔ P j)) : ∀ (d fu i : Nat), d + i = 12 → d < fu → (f_MD_readRow_15 N m fu kv (nI i)).1 (ov M m s) = (rwE N m kv (nI (fsI P d i))).1 (ov M m s) := by
  intro d
  induction d with
  | zero =>
    intro fu i h1 h2
    obtain ⟨fu, rfl⟩ : ∃ g, fu = g + 1 := ⟨fu - 1, by omega⟩
    rw [e_MD_readRow_15, r_let, r_if_t (show (12 : Int32) ≤ nI i from nI_le (a := 12) (by omega) (by omega))]
    rfl
  | succ d ih =>
    intro fu i h1 h2
    obtain ⟨fu, rfl⟩ : ∃ g, fu = g + 1 := ⟨fu - 1, by omega⟩
    have hi1 : ¬ (nI i < 0 ∨ 12 ≤ (nI i).toNatClampNeg) := nI_in (by omega) (by decide)
    have hcl := nI_clamp (n := i) (by omega)
    rw [e_MD_readRow_15, r_let, r_if_f (show ¬ (12 : Int32) ≤ nI i from nI_ge (b := 12) (by omega) (by omega))]
    simp only [mR_9, r_nn, mA_3 hi1, hcl, (hc.1 i (by omega)).1]
    unfold fsI
    by_cases c : P i
    · rw [r_if_t (lg_eq.mpr ((hP i (by omega)).mpr c).symm), if_pos c]
      rfl
    · rw [r_if_f (fun z => c ((hP i (by omega)).mp (lg_eq.mp z).symm)), if_neg c, nI_1]
      exact ih fu (i + 1) (by omega) (by omega)
end RRW
