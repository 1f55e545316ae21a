/-! LAYER 2: the grammar goes on and stays within the text -/
section GLE
variable {f : Nat → Int32} {n k : Nat} {st : aP}
theorem vst_ge : ∀ (r q x q' x' : Nat), vst f n r q x = .inr (q', x') → q ≤ q'
  | 0, q, x, q', x', h => by cases h; exact Nat.le_refl _
  | r + 1, q, x, q', x', h => by
    rw [show vst f n (r + 1) q x = if sgn f n q = 46 then (if cD (sgn f n (q + 1)) then (if nuOk f (q + 1) (den f (n - (q + 1)) (q + 1) - (q + 1)) then vst f n r (den f (n - (q + 1)) (q + 1)) (x * 1000000 + nv f (q + 1) (den f (n - (q + 1)) (q + 1) - (q + 1))) else .inl (q + 1)) else .inl (sp f n (q + 1))) else .inl (sp f n q) from rfl] at h
    by_cases c1 : sgn f n q = 46
    · rw [if_pos c1] at h
      by_cases c2 : cD (sgn f n (q + 1))
      · rw [if_pos c2] at h
        by_cases c3 : nuOk f (q + 1) (den f (n - (q + 1)) (q + 1) - (q + 1))
        · rw [if_pos c3] at h
          have := vst_ge r _ _ q' x' h
          have := den_ge (f := f) (n - (q + 1)) (q + 1)
          omega
        · rw [if_neg c3] at h; cases h
      · rw [if_neg c2] at h; cases h
    · rw [if_neg c1] at h; cases h
theorem verR_ge {q x : Nat} (h : verR f n k = .inr (q, x)) : k ≤ q := by
  unfold verR at h
  split at h
  · have := vst_ge 2 _ _ q x h
    have := den_ge (f := f) (n - sp f n k) (sp f n k)
    have := sp_ge (f := f) (n := n) (k := k)
    omega
  · cases h
theorem bq_ge {q : Nat} : q ≤ bq f n q := by
  unfold bq; split
  · omega
  · split <;> omega
theorem rst_q : ∀ (r q lo hi q' : Nat) (x : Nat × Nat), q ≤ n → rst f n r q lo hi = .inr (q', x) → q ≤ q' ∧ q' ≤ n
  | 0, q, lo, hi, q', x, hq, h => by cases h; exact ⟨Nat.le_refl _, hq⟩
  | r + 1, q, lo, hi, q', x, hq, h => by
    rw [show rst f n (r + 1) q lo hi = if sgn f n (sp f n q) = 61 ∨ sgn f n (sp f n q) = 60 ∨ sgn f n (sp f n q) = 62 then (match verR f n (bq f n (sp f n q)) with
      | .inl w => .inl w
      | .inr (q', x) => rst f n r q' (nlo (sgn f n (sp f n q)) (bb f n (sp f n q)) x lo) (nhi (sgn f n (sp f n q)) (bb f n (sp f n q)) x hi))
      else if r = 1 then .inl (sp f n q) else .inr (sp f n q, clo lo hi) from rfl] at h
    have hsg := sp_ge (f := f) (n := n) (k := q)
    by_cases c : sgn f n (sp f n q) = 61 ∨ sgn f n (sp f n q) = 60 ∨ sgn f n (sp f n q) = 62
    · rw [if_pos c] at h
      have hq1 : sp f n q < n := by rcases c with h | h | h <;> exact sgn_0 (by decide) h
      have hbq := bq_le (f := f) hq1
      have hbg := bq_ge (f := f) (n := n) (q := sp f n q)
      cases hv : verR f n (bq f n (sp f n q)) with
      | inl w' => rw [hv] at h; cases h
      | inr qx =>
        obtain ⟨q2, x2⟩ := qx
        rw [hv] at h
        have := rst_q r q2 _ _ q' x (verR_q hbq hv) h
        have := verR_ge hv
        omega
    · rw [if_neg c] at h
      split at h
      · cases h
      · cases h; exact ⟨hsg, sp_le hq⟩
theorem rgR_q {q : Nat} {x : Nat × Nat} (hk : k ≤ n) (h : rgR f n k = .inr (q, x)) : k ≤ q ∧ q ≤ n := by
  have hsg := sp_ge (f := f) (n := n) (k := k)
  unfold rgR at h; split at h
  · rename_i c
    have := sgn_0 (by decide) c
    cases h; omega
  · have := rst_q 2 _ _ _ q x (sp_le hk) h
    omega
theorem pRg_q {q0 kd q : Nat} {st' : aP} (h : pRg f n q0 kd st k = .inr (q, st')) : k + 1 ≤ q ∧ q ≤ n ∧ st'.2 = st.2 := by
  unfold pRg at h
  cases hr : nmR f n k with
  | inl w => rw [hr] at h; cases h
  | inr be =>
    obtain ⟨b, e⟩ := be
    obtain ⟨g0, _, g1, g2, g3, _⟩ := nmR_in hr
    have hsg := sp_ge (f := f) (n := n) (k := k)
    rw [hr] at h
    dsimp only at h
    cases hr2 : rgR f n e with
    | inl w => rw [hr2] at h; cases h
    | inr x =>
      rw [hr2] at h
      have a := adR_len h
      have b := rgR_q g3 hr2
      exact ⟨by omega, by omega, a.2.2.1⟩
theorem pAn_le {q0 : Nat} (hq0 : q0 ≤ n) : ∀ (u : Nat) (t : Bool) (st : aP) (k : Nat), k ≤ n → (∀ w, pAn f n q0 u t st k = .inl w → w ≤ n) ∧ (∀ q st', pAn f n q0 u t st k = .inr (q, st') → k + 1 ≤ q ∧ q ≤ n ∧ st'.2 = st.2)
  | 0, t, st, k, hk => ⟨fun w h => by cases h; omega, fun q st' h => by cases h⟩
  | u + 1, t, st, k, hk => by
    rw [show pAn f n q0 (u + 1) t st k = match pRg f n q0 8 st k with
        | .inl w => .inl w
        | .inr (q, st') => if sgn f n (sp f n q) = 124 then pAn f n q0 u false st' (sp f n q + 1) else if t = true then .inl (sp f n q) else .inr (sp f n q, st') from rfl]
    cases hr : pRg f n q0 8 st k with
    | inl w => exact ⟨fun w' h => by cases h; exact pRg_le hk hq0 hr, fun q st' h => by cases h⟩
    | inr x =>
      obtain ⟨q, st1⟩ := x
      obtain ⟨a1, a2, a3⟩ := pRg_q hr
      have hsg := sp_ge (f := f) (n := n) (k := q)
      have hsl := sp_le (f := f) a2
      dsimp only
      by_cases c : sgn f n (sp f n q) = 124
      · rw [if_pos c]
        have hc := sgn_0 (by decide) c
        obtain ⟨i1, i2⟩ := pAn_le hq0 u false st1 (sp f n q + 1) (by omega)
        exact ⟨i1, fun q' st' h => by have := i2 q' st' h; exact ⟨by omega, this.2.1, this.2.2.trans a3⟩⟩
      · rw [if_neg c]
        by_cases d : t = true
        · rw [if_pos d]; exact ⟨fun w' h => by cases h; exact hsl, fun q st' h => by cases h⟩
        · rw [if_neg d]; exact ⟨fun w' h => (by cases h), fun q' st' h => by cases h; exact ⟨by omega, hsl, a3⟩⟩
theorem pAny_le {q0 : Nat} (hq0 : q0 ≤ n) (hk : k ≤ n) : (∀ w, pAny f n q0 st k = .inl w → w ≤ n) ∧ (∀ q st', pAny f n q0 st k = .inr (q, st') → k + 1 ≤ q ∧ q ≤ n ∧ st'.2.1 = st.2.1) := by
  obtain ⟨i1, i2⟩ := pAn_le (f := f) hq0 201 true st k hk
  unfold pAny
  cases hr : pAn f n q0 201 true st k with
  | inl w => exact ⟨fun w' h => by cases h; exact i1 w hr, fun q st' h => by cases h⟩
  | inr x =>
    obtain ⟨q, st1⟩ := x
    have := i2 q st1 hr
    exact ⟨fun w' h => (by cases h), fun q' st' h => by cases h; exact ⟨this.1, this.2.1, by show st1.2.1 = st.2.1; rw [this.2.2]⟩⟩
theorem pNm_le {q0 kd : Nat} {ot : List Int32} (hq0 : q0 ≤ n) : ∀ (u : Nat) (st : aP) (k : Nat), k ≤ n → (∀ w, pNm f n q0 kd ot u st k = .inl w → w ≤ n) ∧ (∀ q st', pNm f n q0 kd ot u st k = .inr (q, st') → k + 1 ≤ q ∧ q ≤ n ∧ st'.2 = st.2)
  | 0, st, k, hk => ⟨fun w h => by cases h; omega, fun q st' h => by cases h⟩
  | u + 1, st, k, hk => by
    rw [show pNm f n q0 kd ot (u + 1) st k = match nmR f n k with
      | .inl w => .inl w
      | .inr (b, e) => match adR st q0 kd b (wd f b e) ot (-1) (-1) e with
        | .inl w => .inl w
        | .inr (q, st') => if sgn f n (sp f n q) = 44 then pNm f n q0 kd ot u st' (sp f n q + 1) else .inr (sp f n q, st') from rfl]
    cases hr : nmR f n k with
    | inl w => exact ⟨fun w' h => by cases h; exact nmR_le hk hr, fun q st' h => by cases h⟩
    | inr be =>
      obtain ⟨b, e⟩ := be
      obtain ⟨g0, _, g1, g2, g3, _⟩ := nmR_in hr
      have hsg0 := sp_ge (f := f) (n := n) (k := k)
      dsimp only
      cases hr2 : adR st q0 kd b (wd f b e) ot (-1) (-1) e with
      | inl w => exact ⟨fun w' h => by cases h; rw [adR_le hr2]; exact hq0, fun q st' h => by cases h⟩
      | inr x =>
        obtain ⟨q, st1⟩ := x
        have a := adR_len hr2
        have hq : q = e := a.2.1
        subst hq
        have hsg := sp_ge (f := f) (n := n) (k := q)
        have hsl := sp_le (f := f) g3
        dsimp only
        by_cases c : sgn f n (sp f n q) = 44
        · rw [if_pos c]
          have hc := sgn_0 (by decide) c
          obtain ⟨i1, i2⟩ := pNm_le hq0 u st1 (sp f n q + 1) (by omega)
          exact ⟨i1, fun q' st' h => by have := i2 q' st' h; exact ⟨by omega, this.2.1, this.2.2.trans a.2.2.1⟩⟩
        · rw [if_neg c]; exact ⟨fun w' h => (by cases h), fun q' st' h => by cases h; exact ⟨by omega, hsl, a.2.2.1⟩⟩
theorem wen_end : ∀ (d k : Nat), wen f d k < k + d → ¬ (cL (f (wen f d k)) ∨ cD (f (wen f d k)) ∨ cB (f (wen f d k)))
  | 0, k, h => absurd h (by show ¬ k < k + 0; omega)
  | d + 1, k, h => by
    rw [show wen f (d + 1) k = if cL (f k) ∨ cD (f k) ∨ cB (f k) then wen f d (k + 1) else k from rfl] at h ⊢
    by_cases c : cL (f k) ∨ cD (f k) ∨ cB (f k)
    · rw [if_pos c] at h ⊢; exact wen_end d (k + 1) (by omega)
    · rw [if_neg c] at h ⊢; exact c
/-- behind a word that ended, a name begins behind a blank -/
theorem nmR_gap {q b e : Nat} (hq : q ≤ n) (hk : k = we f n q) (h : nmR f n k = .inr (b, e)) : k + 1 ≤ b := by
  obtain ⟨g0, _, g1, g2, g3, g4, g5, _⟩ := nmR_in h
  have hsg := sp_ge (f := f) (n := n) (k := k)
  by_cases c : sp f n k = k
  · exfalso
    rw [g0, c, hk] at g5 g1
    have hle := we_le (f := f) hq
    have hge : q ≤ we f n q := wen_ge _ _
    exact wen_end (f := f) (n - q) q (by show we f n q < q + (n - q); omega) (Or.inl g5)
  · omega
theorem pFt_le {q0 q : Nat} (hq0 : q0 ≤ n) (hq : q ≤ n) (hk : k = we f n q) : (∀ w, pFt f n q0 st k = .inl w → w ≤ n) ∧ (∀ q' st', pFt f n q0 st k = .inr (q', st') → k + 3 ≤ q' ∧ q' ≤ n ∧ st'.2.1.length = st.2.1.length + 1) := by
  have hkn : k ≤ n := by rw [hk]; exact we_le hq
  unfold pFt
  cases hr : nmR f n k with
  | inl w => exact ⟨fun w' h => by cases h; exact nmR_le hkn hr, fun q st' h => by cases h⟩
  | inr be =>
    obtain ⟨b, e⟩ := be
    obtain ⟨g0, _, g1, g2, g3, _⟩ := nmR_in hr
    have gg := nmR_gap hq hk hr
    dsimp only
    have hse := sp_ge (f := f) (n := n) (k := e)
    by_cases c : sgn f n (sp f n e) = 58
    · rw [if_pos c]
      have hc := sgn_0 (by decide) c
      have hs2 := sp_ge (f := f) (n := n) (k := sp f n e + 1)
      have hs3 := sp_le (f := f) (show sp f n e + 1 ≤ n by omega)
      by_cases d : sgn f n (sp f n (sp f n e + 1)) = 59
      · rw [if_pos d]
        exact ⟨fun w' h => (by cases h), fun q' st' h => by cases h; exact ⟨by omega, hs3, by show (st.2.1 ++ _).length = _; rw [List.length_append]; rfl⟩⟩
      · rw [if_neg d]
        obtain ⟨i1, i2⟩ := pNm_le (f := f) (kd := 9) (ot := wd f b e) hq0 201 (st.1, st.2.1 ++ [wd f b e], st.2.2) (sp f n (sp f n e + 1)) hs3
        exact ⟨i1, fun q' st' h => by
          have := i2 q' st' h
          refine ⟨by omega, this.2.1, ?_⟩
          rw [this.2.2]; show (st.2.1 ++ _).length = _; rw [List.length_append]; rfl⟩
    · rw [if_neg c]; exact ⟨fun w' h => by cases h; exact sp_le g3, fun q st' h => by cases h⟩
theorem pPv_le {q0 : Nat} (hq0 : q0 ≤ n) (hk : k ≤ n) : (∀ w, pPv f n q0 st k = .inl w → w ≤ n) ∧ (∀ q st', pPv f n q0 st k = .inr (q, st') → k + 1 ≤ q ∧ q ≤ n ∧ st'.2.1 = st.2.1) := by
  unfold pPv
  cases hr : nmR f n k with
  | inl w => exact ⟨fun w' h => by cases h; exact nmR_le hk hr, fun q st' h => by cases h⟩
  | inr be =>
    obtain ⟨b, e⟩ := be
    obtain ⟨g0, _, g1, g2, g3, _⟩ := nmR_in hr
    have hsg0 := sp_ge (f := f) (n := n) (k := k)
    dsimp only
    cases hv : verR f n e with
    | inl w => exact ⟨fun w' h => by cases h; exact verR_le g3 hv, fun q st' h => by cases h⟩
    | inr qx =>
      obtain ⟨q, x⟩ := qx
      dsimp only
      have v1 := verR_ge hv
      have v2 := verR_q g3 hv
      exact ⟨fun w' h => by rw [adR_le h]; exact hq0, fun q' st' h => by have a := adR_len h; exact ⟨by omega, by omega, by rw [a.2.2.1]⟩⟩
theorem pSc_le {q0 : Nat} (hq0 : q0 ≤ n) (hk : k ≤ n) : (∀ w, pSc f n q0 st k = .inl w → w ≤ n) ∧ (∀ q st', pSc f n q0 st k = .inr (q, st') → k + 1 ≤ q ∧ q ≤ n ∧ st'.2.1 = st.2.1) := by
  unfold pSc
  cases hr : nmR f n k with
  | inl w => exact ⟨fun w' h => by cases h; exact nmR_le hk hr, fun q st' h => by cases h⟩
  | inr be =>
    obtain ⟨b, e⟩ := be
    obtain ⟨g0, _, g1, g2, g3, _⟩ := nmR_in hr
    have hsg0 := sp_ge (f := f) (n := n) (k := k)
    dsimp only
    cases hv : nmR f n e with
    | inl w => exact ⟨fun w' h => by cases h; exact nmR_le g3 hv, fun q st' h => by cases h⟩
    | inr qx =>
      obtain ⟨b2, e2⟩ := qx
      obtain ⟨k0, _, k1, k2, k3, _⟩ := nmR_in hv
      have hsg1 := sp_ge (f := f) (n := n) (k := e)
      dsimp only
      exact ⟨fun w' h => by rw [adR_le h]; exact hq0, fun q' st' h => by have a := adR_len h; exact ⟨by omega, by omega, by rw [a.2.2.1]⟩⟩
theorem pFi_le {q0 : Nat} (hq0 : q0 ≤ n) (hk : k ≤ n) : (∀ w, pFi f n q0 st k = .inl w → w ≤ n) ∧ (∀ q st', pFi f n q0 st k = .inr (q, st') → k + 1 ≤ q ∧ q ≤ n ∧ st'.2.1 = st.2.1) := by
  unfold pFi
  cases hr : nmR f n k with
  | inl w => exact ⟨fun w' h => by cases h; exact nmR_le hk hr, fun q st' h => by cases h⟩
  | inr be =>
    obtain ⟨b, e⟩ := be
    obtain ⟨g0, _, g1, g2, g3, _⟩ := nmR_in hr
    have hsg0 := sp_ge (f := f) (n := n) (k := k)
    have hsg1 := sp_ge (f := f) (n := n) (k := e)
    have hsl := sp_le (f := f) g3
    have d1 := den_ge (f := f) (n - sp f n e) (sp f n e)
    have d2 := den_le (f := f) (n - sp f n e) (sp f n e)
    dsimp only
    by_cases c : nuOk f (sp f n e) (den f (n - sp f n e) (sp f n e) - sp f n e)
    · rw [if_pos c]
      exact ⟨fun w' h => by rw [adR_le h]; exact hq0, fun q' st' h => by have a := adR_len h; exact ⟨by omega, by omega, by rw [a.2.2.1]⟩⟩
    · rw [if_neg c]; exact ⟨fun w' h => by cases h; exact hsl, fun q st' h => by cases h⟩
theorem pNd_le {q0 : Nat} (hq0 : q0 ≤ n) (hk : k ≤ n) : (∀ w, pNd f n q0 st k = .inl w → w ≤ n) ∧ (∀ q st', pNd f n q0 st k = .inr (q, st') → k + 1 ≤ q ∧ q ≤ n ∧ st'.2.1 = st.2.1) := by
  have hsl := sp_le (f := f) hk
  have hsg0 := sp_ge (f := f) (n := n) (k := k)
  unfold pNd
  by_cases c : cL (sgn f n (sp f n k))
  · rw [if_pos c]
    have hw := we_le (f := f) hsl
    have hw2 : sp f n k ≤ we f n (sp f n k) := wen_ge _ _
    split
    · exact ⟨fun w' h => by cases h; exact hsl, fun q st' h => by cases h⟩
    · exact ⟨fun w' h => pRg_le hw hq0 h, fun q st' h => by have a := pRg_q h; exact ⟨by omega, a.2.1, by rw [a.2.2]⟩⟩
  · rw [if_neg c]; exact ⟨fun w' h => by cases h; exact hsl, fun q st' h => by cases h⟩
end GLE
