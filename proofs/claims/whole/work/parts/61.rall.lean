/-! LAYER 2: the rows of a text -/
section RALL
variable {f : Nat → Int32} {n k : Nat} {st : aP}
theorem pAn_st {q0 : Nat} : ∀ (u : Nat) (t : Bool) (st : aP) (k q : Nat) (st' : aP), pAn f n q0 u t st k = .inr (q, st') → st'.2 = st.2
  | 0, t, st, k, q, st', h => by cases h
  | u + 1, t, st, k, q, st', h => by
    rw [show pAn f n q0 (u + 1) t st k = match pRg f n q0 8 st k with
        | .inl w => .inl w
        | .inr (q, st') => if sgn f n (sp f n q) = 124 then pAn f n q0 u false st' (sp f n q + 1) else if t = true then .inl (sp f n q) else .inr (sp f n q, st') from rfl] at h
    cases hr : pRg f n q0 8 st k with
    | inl w => rw [hr] at h; cases h
    | inr x =>
      obtain ⟨q2, st1⟩ := x
      rw [hr] at h
      dsimp only at h
      have e2 := (pRg_len hr).2
      split at h
      · exact (pAn_st u false st1 _ q st' h).trans e2
      · split at h
        · cases h
        · cases h; exact e2
theorem pNm_st {q0 kd : Nat} {ot : List Int32} : ∀ (u : Nat) (st : aP) (k q : Nat) (st' : aP), pNm f n q0 kd ot u st k = .inr (q, st') → st'.2 = st.2
  | 0, st, k, q, st', h => by cases h
  | u + 1, st, k, q, st', h => by
    rw [show pNm f n q0 kd ot (u + 1) st k = match nmR f n k with
      | .inl w => .inl w
      | .inr (b, e) => match adR st q0 kd b (wd f b e) ot (-1) (-1) e with
        | .inl w => .inl w
        | .inr (q, st') => if sgn f n (sp f n q) = 44 then pNm f n q0 kd ot u st' (sp f n q + 1) else .inr (sp f n q, st') from rfl] at h
    cases hr : nmR f n k with
    | inl w => rw [hr] at h; cases h
    | inr be =>
      obtain ⟨b, e⟩ := be
      rw [hr] at h
      dsimp only at h
      cases hr2 : adR st q0 kd b (wd f b e) ot (-1) (-1) e with
      | inl w => rw [hr2] at h; cases h
      | inr x =>
        obtain ⟨q2, st1⟩ := x
        rw [hr2] at h
        dsimp only at h
        have e2 := (adR_len hr2).2.2.1
        split at h
        · exact (pNm_st u st1 _ q st' h).trans e2
        · cases h; exact e2
theorem pBd_st {q0 i q : Nat} {st' : aP} (h8 : fit8 f) (hX : XS f n st) (hs : st.2.2 ≤ 2000) (hi : i < 12) (h : pBd f n q0 st k i = .inr (q, st')) : XS f n st' ∧ st'.2.2 ≤ st.2.2 + 1 := by
  unfold pBd at h
  by_cases c0 : i = 0
  · rw [if_pos c0] at h
    unfold pNd at h
    split at h
    · split at h
      · cases h
      · rename_i _ c5
        have := fsI_ge (P := fun i => isTx f (sp f n k) (we f n (sp f n k)) (ntx i)) 5 0
        exact ⟨hX.rg h8 hs (by omega) h, by rw [(pRg_q h).2.2]; omega⟩
    · cases h
  · rw [if_neg c0] at h
    by_cases c1 : i = 1 ∨ i = 2
    · rw [if_pos c1] at h
      exact ⟨hX.rg h8 hs (by omega) h, by rw [(pRg_q h).2.2]; omega⟩
    · rw [if_neg c1] at h
      by_cases c3 : i = 3
      · rw [if_pos c3] at h
        refine ⟨hX.pv h8 h, ?_⟩
        unfold pPv at h
        cases hr : nmR f n k with
        | inl w => rw [hr] at h; cases h
        | inr be =>
          rw [hr] at h
          dsimp only at h
          cases hv : verR f n be.2 with
          | inl w => rw [hv] at h; cases h
          | inr x => rw [hv] at h; rw [(adR_len h).2.2.1]; omega
      · rw [if_neg c3] at h
        by_cases c4 : i = 4
        · rw [if_pos c4] at h
          refine ⟨hX.any h8 hs h, ?_⟩
          unfold pAny at h
          cases hr : pAn f n q0 201 true st k with
          | inl w => rw [hr] at h; cases h
          | inr x =>
            obtain ⟨q2, st1⟩ := x
            rw [hr] at h
            cases h
            have := pAn_st 201 true st k q st1 hr
            show st1.2.2 + 1 ≤ _
            rw [this]; exact Nat.le_refl _
        · rw [if_neg c4] at h
          by_cases c5 : i = 5
          · rw [if_pos c5] at h
            refine ⟨hX.ft h8 h, ?_⟩
            unfold pFt at h
            cases hr : nmR f n k with
            | inl w => rw [hr] at h; cases h
            | inr be =>
              rw [hr] at h
              dsimp only at h
              split at h
              · split at h
                · cases h; exact Nat.le_succ _
                · rw [pNm_st 201 _ _ q st' h]; exact Nat.le_succ _
              · cases h
          · rw [if_neg c5] at h
            by_cases c10 : i = 10
            · rw [if_pos c10] at h
              refine ⟨hX.sc h8 h, ?_⟩
              unfold pSc at h
              cases hr : nmR f n k with
              | inl w => rw [hr] at h; cases h
              | inr be =>
                rw [hr] at h
                dsimp only at h
                cases hv : nmR f n be.2 with
                | inl w => rw [hv] at h; cases h
                | inr x => rw [hv] at h; rw [(adR_len h).2.2.1]; omega
            · rw [if_neg c10] at h
              by_cases c11 : i = 11
              · rw [if_pos c11] at h
                refine ⟨hX.fi h8 h, ?_⟩
                unfold pFi at h
                cases hr : nmR f n k with
                | inl w => rw [hr] at h; cases h
                | inr be =>
                  rw [hr] at h
                  dsimp only at h
                  split at h
                  · rw [(adR_len h).2.2.1]; omega
                  · cases h
              · rw [if_neg c11] at h
                exact ⟨XS.nm h8 (by omega) wfN_nil ⟨fun z => absurd z (by omega), fun z => absurd rfl z⟩ 201 st k q st' hX h, by rw [pNm_st 201 _ _ q st' h]; omega⟩
/-- one row of the text: it goes on, and all stays well -/
theorem pRow_inv {q : Nat} {st' : aP} (h8 : fit8 f) (hn : n ≤ 2000) (hk : k ≤ n) (hX : XS f n st) (hs : st.2.2 ≤ k) (hF : 11 * st.2.1.length ≤ k) (h : pRow f n st k = .inr (q, st')) : XS f n st' ∧ st'.2.2 ≤ q ∧ 11 * st'.2.1.length ≤ q ∧ k < q ∧ q ≤ n := by
  have hsl := sp_le (f := f) hk
  have hsg := sp_ge (f := f) (n := n) (k := k)
  rw [pRow_s] at h
  by_cases c1 : cL (sgn f n (sp f n k))
  · rw [if_pos c1] at h
    obtain ⟨q1, q2⟩ := cL_in c1
    have hle := fsI_ge (P := fun i => isTx f (sp f n k) (we f n (sp f n k)) (ktx i)) 12 0
    have hpp := fsI_P (P := fun i => isTx f (sp f n k) (we f n (sp f n k)) (ktx i)) 12 0
    generalize fsI (fun i => isTx f (sp f n k) (we f n (sp f n k)) (ktx i)) 12 0 = i at *
    have hwg := we_gt (f := f) q1 q2
    by_cases c2 : i = 12
    · rw [if_pos c2] at h; cases h
    · rw [if_neg c2] at h
      cases hb : pBd f n (sp f n k) st (we f n (sp f n k)) i with
      | inl w => rw [hb] at h; cases h
      | inr x =>
        obtain ⟨q3, st3⟩ := x
        rw [hb] at h
        unfold semi at h
        dsimp only at h
        by_cases c3 : sgn f n (sp f n q3) = 59
        · rw [if_pos c3] at h
          cases h
          have hc3 := sgn_0 (by decide) c3
          have hs3 := sp_ge (f := f) (n := n) (k := q3)
          obtain ⟨b1, b2, b3, b4⟩ := (pBd_le (f := f) (n := n) (st := st) (q0 := sp f n k) (i := i) (q := sp f n k) hsl hsl rfl).2 q3 st' hb
          obtain ⟨d1, d2⟩ := pBd_st h8 hX (by omega) (by omega) hb
          refine ⟨d1, by omega, ?_, by omega, by omega⟩
          by_cases c5 : i = 5
          · obtain ⟨b5, b6⟩ := b3 c5
            have hw := hpp (by omega)
            rw [c5] at hw
            have : we f n (sp f n k) - sp f n k = 7 := hw.1
            omega
          · rw [b4 c5]; omega
        · rw [if_neg c3] at h; cases h
  · rw [if_neg c1] at h; cases h
end RALL
