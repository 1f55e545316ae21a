/-! LAYER 2: what rows of a text are like -/
def rng (a : aR) : Prop := (a.1 < 7 ∨ a.1 = 8 → ∃ lo hi : Nat, a.2.2.2.2.1 = lN lo ∧ a.2.2.2.2.2.1 = lN hi ∧ ((lo < hi ∧ hi ≤ 10 ^ 18) ∨ (lo = 0 ∧ hi = 0))) ∧ (a.1 = 7 → ∃ v : Nat, v < 10 ^ 18 ∧ a.2.2.2.2.1 = lN v ∧ a.2.2.2.2.2.1 = lN (v + 1)) ∧ (a.1 = 15 → ∃ v : Nat, v < 1000000 ∧ a.2.2.2.2.1 = lN v ∧ a.2.2.2.2.2.1 = -1) ∧ (8 < a.1 → a.1 < 15 → a.2.2.2.2.1 = -1 ∧ a.2.2.2.2.2.1 = -1)
/-- a row as a text gives it, without its place -/
def wfA (a : aR) : Prop := a.1 < 16 ∧ wfN a.2.2.1 ∧ a.2.2.1 ≠ [] ∧ wfN a.2.2.2.1 ∧ ((a.1 = 9 ∨ a.1 = 14) ↔ a.2.2.2.1 ≠ []) ∧ (a.1 ≠ 8 → a.2.1 = -1) ∧ (a.1 = 8 → ∃ j : Nat, j ≤ 2000 ∧ a.2.1 = nI j) ∧ rng a
def wfX (f : Nat → Int32) (n : Nat) (x : aR × Nat) : Prop := wfA x.1 ∧ x.1.2.2.2.2.2.2 = false ∧ nmI f x.2 x.1.2.2.1 ∧ x.2 + x.1.2.2.1.length ≤ n
def XS (f : Nat → Int32) (n : Nat) (st : aP) : Prop := (∀ x, x ∈ st.1 → wfX f n x) ∧ (∀ w, w ∈ st.2.1 → wfN w ∧ w ≠ []) ∧ st.1.length ≤ 200
section WFX
variable {f : Nat → Int32} {n k : Nat} {st : aP}
theorem wfN_nil : wfN [] := ⟨by decide, fun c h => (by cases h), by decide⟩
theorem ch_b (h8 : fit8 f) {i : Nat} (h : cL (f i) ∨ cD (f i) ∨ cB (f i)) : ∃ b : Nat, b < 128 ∧ f i = nI b := by
  have := ch_dg h8 h
  obtain ⟨b, hb, e⟩ := h8 i
  rw [e, dg_nI hb] at this
  exact ⟨b, this.2, e⟩
theorem nmR_wf (h8 : fit8 f) {b e : Nat} (h : nmR f n k = .inr (b, e)) : wfN (wd f b e) ∧ wd f b e ≠ [] ∧ nmI f b (wd f b e) ∧ b + (wd f b e).length ≤ n := by
  obtain ⟨_, _, g1, g2, g3, g4, g5, g6, g7⟩ := nmR_in h
  refine ⟨⟨by rw [wd_len]; exact g4, fun c hc => ?_, ?_⟩, ?_, fun j hj => ?_, by rw [wd_len]; omega⟩
  · unfold wd at hc
    obtain ⟨j, hj, e⟩ := List.mem_map.mp hc
    have hj' := List.mem_range.mp hj
    rw [← e]
    have := g7 (b + j) (by omega) (by omega)
    exact ⟨this, ch_b h8 this⟩
  · rw [wd_get (by omega)]
    intro z
    have c1 : cL (f b) := g5
    rw [Nat.add_zero] at z
    rcases c1 with y | y
    · rcases z with z | z | z <;> rw [z] at y <;> exact absurd y (by decide)
    · rcases z with z | z | z <;> rw [z] at y <;> exact absurd y (by decide)
  · intro z
    have := congrArg List.length z
    rw [wd_len] at this
    have : e - b = 0 := this
    omega
  · rw [wd_len] at hj
    rw [wd_get hj]
theorem XS.ad {q0 kd b q q' : Nat} {nm ot : List Int32} {lo hi : Int64} {st' : aP} (hX : XS f n st) (hw : wfX f n ((kd, if kd = 8 then nI st.2.2 else -1, nm, ot, lo, hi, false), b)) (h : adR st q0 kd b nm ot lo hi q = .inr (q', st')) : XS f n st' := by
  unfold adR at h
  split at h
  · cases h
  · rename_i c
    cases h
    refine ⟨fun x hx => ?_, hX.2.1, ?_⟩
    · rcases List.mem_append.mp hx with y | y
      · exact hX.1 x y
      · rw [List.mem_singleton.mp y]; exact hw
    · show (st.1 ++ _).length ≤ 200
      rw [List.length_append]
      have := hX.2.2
      show st.1.length + 1 ≤ 200
      omega
theorem wfX_of {kd b : Nat} {nm ot : List Int32} {lo hi : Int64} {j : Nat} (hj : j ≤ 2000) (hk : kd < 16) (h1 : wfN nm ∧ nm ≠ [] ∧ nmI f b nm ∧ b + nm.length ≤ n) (h2 : wfN ot) (h3 : (kd = 9 ∨ kd = 14) ↔ ot ≠ []) (h4 : rng (kd, if kd = 8 then nI j else -1, nm, ot, lo, hi, false)) : wfX f n ((kd, if kd = 8 then nI j else -1, nm, ot, lo, hi, false), b) :=
  ⟨⟨hk, h1.1, h1.2.1, h2, h3, fun z => if_neg z, fun z => ⟨j, hj, if_pos z⟩, h4⟩, rfl, h1.2.2.1, h1.2.2.2⟩
theorem clo_ok {lo hi : Nat} (h : hi ≤ 10 ^ 18) : ((clo lo hi).1 < (clo lo hi).2 ∧ (clo lo hi).2 ≤ 10 ^ 18) ∨ ((clo lo hi).1 = 0 ∧ (clo lo hi).2 = 0) := by
  unfold clo
  by_cases c : lo < hi
  · rw [if_pos c]; exact Or.inl ⟨c, h⟩
  · rw [if_neg c]; exact Or.inr ⟨rfl, rfl⟩
theorem rst_ok (h8 : fit8 f) : ∀ (r q lo hi q' : Nat) (x : Nat × Nat), q ≤ n → hi ≤ 10 ^ 18 → rst f n r q lo hi = .inr (q', x) → (x.1 < x.2 ∧ x.2 ≤ 10 ^ 18) ∨ (x.1 = 0 ∧ x.2 = 0)
  | 0, q, lo, hi, q', x, _, bh, h => by cases h; exact clo_ok bh
  | r + 1, q, lo, hi, q', x, hq, bh, h => by
    rw [show rst f n (r + 1) q lo hi = if sgn f n (sp f n q) = 61 ∨ sgn f n (sp f n q) = 60 ∨ sgn f n (sp f n q) = 62 then (match verR f n (bq f n (sp f n q)) with
      | .inl w => .inl w
      | .inr (q', x) => rst f n r q' (nlo (sgn f n (sp f n q)) (bb f n (sp f n q)) x lo) (nhi (sgn f n (sp f n q)) (bb f n (sp f n q)) x hi))
      else if r = 1 then .inl (sp f n q) else .inr (sp f n q, clo lo hi) from rfl] at h
    by_cases c : sgn f n (sp f n q) = 61 ∨ sgn f n (sp f n q) = 60 ∨ sgn f n (sp f n q) = 62
    · rw [if_pos c] at h
      have hq1 : sp f n q < n := by rcases c with h | h | h <;> exact sgn_0 (by decide) h
      have hbq := bq_le (f := f) hq1
      cases hv : verR f n (bq f n (sp f n q)) with
      | inl w' => rw [hv] at h; cases h
      | inr qx =>
        obtain ⟨q2, x2⟩ := qx
        rw [hv] at h
        exact rst_ok h8 r q2 _ _ q' x (verR_q hbq hv) (nhi_le bh) h
    · rw [if_neg c] at h
      split at h
      · cases h
      · cases h; exact clo_ok bh
theorem rgR_ok (h8 : fit8 f) {q lo hi : Nat} (hk : k ≤ n) (h : rgR f n k = .inr (q, lo, hi)) : (lo < hi ∧ hi ≤ 10 ^ 18) ∨ (lo = 0 ∧ hi = 0) := by
  unfold rgR at h; split at h
  · cases h; exact Or.inl ⟨by decide, by decide⟩
  · exact rst_ok h8 2 _ _ _ q (lo, hi) (sp_le hk) (by decide) h
theorem XS.rg (h8 : fit8 f) {q0 kd q : Nat} {st' : aP} (hX : XS f n st) (hs : st.2.2 ≤ 2000) (hkd : kd < 7 ∨ kd = 8) (h : pRg f n q0 kd st k = .inr (q, st')) : XS f n st' := by
  unfold pRg at h
  cases hr : nmR f n k with
  | inl w => rw [hr] at h; cases h
  | inr be =>
    obtain ⟨b, e⟩ := be
    obtain ⟨g0, _, g1, g2, g3, _⟩ := nmR_in hr
    rw [hr] at h
    dsimp only at h
    cases hr2 : rgR f n e with
    | inl w => rw [hr2] at h; cases h
    | inr x =>
      obtain ⟨q2, lo, hi⟩ := x
      rw [hr2] at h
      refine hX.ad (wfX_of hs (by omega) (nmR_wf h8 hr) wfN_nil ⟨fun z => absurd z (by omega), fun z => absurd rfl z⟩ ⟨fun _ => ⟨lo, hi, rfl, rfl, rgR_ok h8 g3 hr2⟩, fun z => ?_, fun z => ?_, fun z y => ?_⟩) h
      · have : kd = 7 := z; omega
      · have : kd = 15 := z; omega
      · have z' : 8 < kd := z
        omega
theorem XS.nm (h8 : fit8 f) {q0 kd : Nat} {ot : List Int32} (hkd : 8 < kd ∧ kd < 14) (ho : wfN ot) (ho2 : (kd = 9 ∨ kd = 14) ↔ ot ≠ []) : ∀ (u : Nat) (st : aP) (k q : Nat) (st' : aP), XS f n st → pNm f n q0 kd ot u st k = .inr (q, st') → XS f n st'
  | 0, st, k, q, st', _, h => by cases h
  | u + 1, st, k, q, st', hX, h => by
    rw [show pNm f n q0 kd ot (u + 1) st k = match nmR f n k with
      | .inl w => .inl w
      | .inr (b, e) => match adR st q0 kd b (wd f b e) ot (-1) (-1) e with
        | .inl w => .inl w
        | .inr (q, st') => if sgn f n (sp f n q) = 44 then pNm f n q0 kd ot u st' (sp f n q + 1) else .inr (sp f n q, st') from rfl] at h
    cases hr : nmR f n k with
    | inl w => rw [hr] at h; cases h
    | inr be =>
      obtain ⟨b, e⟩ := be
      rw [hr] at h
      dsimp only at h
      cases hr2 : adR st q0 kd b (wd f b e) ot (-1) (-1) e with
      | inl w => rw [hr2] at h; cases h
      | inr x =>
        obtain ⟨q2, st1⟩ := x
        rw [hr2] at h
        dsimp only at h
        have h0 : wfX f n ((kd, if kd = 8 then nI st.2.2 else -1, wd f b e, ot, -1, -1, false), b) := by
          have e8 : (if kd = 8 then nI st.2.2 else -1) = (if kd = 8 then nI 0 else -1) := by rw [if_neg (by omega), if_neg (by omega)]
          rw [e8]
          refine wfX_of (by omega) (by omega) (nmR_wf h8 hr) ho ho2 ⟨fun z => ?_, fun z => ?_, fun z => ?_, fun _ _ => ⟨rfl, rfl⟩⟩
          · have : kd < 7 ∨ kd = 8 := z; omega
          · have : kd = 7 := z; omega
          · have : kd = 15 := z; omega
        have hX1 := hX.ad h0 hr2
        split at h
        · exact XS.nm h8 hkd ho ho2 u st1 _ q st' hX1 h
        · cases h; exact hX1
theorem XS.an (h8 : fit8 f) {q0 : Nat} : ∀ (u : Nat) (t : Bool) (st : aP) (k q : Nat) (st' : aP), XS f n st → st.2.2 ≤ 2000 → pAn f n q0 u t st k = .inr (q, st') → XS f n st'
  | 0, t, st, k, q, st', _, _, h => by cases h
  | u + 1, t, st, k, q, st', hX, hs, h => by
    rw [show pAn f n q0 (u + 1) t st k = match pRg f n q0 8 st k with
        | .inl w => .inl w
        | .inr (q, st') => if sgn f n (sp f n q) = 124 then pAn f n q0 u false st' (sp f n q + 1) else if t = true then .inl (sp f n q) else .inr (sp f n q, st') from rfl] at h
    cases hr : pRg f n q0 8 st k with
    | inl w => rw [hr] at h; cases h
    | inr x =>
      obtain ⟨q2, st1⟩ := x
      rw [hr] at h
      dsimp only at h
      have hX1 := hX.rg h8 hs (Or.inr rfl) hr
      have e2 := (pRg_len hr).2
      split at h
      · exact XS.an h8 u false st1 _ q st' hX1 (by rw [e2]; exact hs) h
      · split at h
        · cases h
        · cases h; exact hX1
theorem XS.any (h8 : fit8 f) {q0 q : Nat} {st' : aP} (hX : XS f n st) (hs : st.2.2 ≤ 2000) (h : pAny f n q0 st k = .inr (q, st')) : XS f n st' := by
  unfold pAny at h
  cases hr : pAn f n q0 201 true st k with
  | inl w => rw [hr] at h; cases h
  | inr x =>
    obtain ⟨q2, st1⟩ := x
    rw [hr] at h
    cases h
    have := XS.an h8 201 true st k q st1 hX hs hr
    exact this
theorem XS.ft (h8 : fit8 f) {q0 q : Nat} {st' : aP} (hX : XS f n st) (h : pFt f n q0 st k = .inr (q, st')) : XS f n st' := by
  unfold pFt at h
  cases hr : nmR f n k with
  | inl w => rw [hr] at h; cases h
  | inr be =>
    obtain ⟨b, e⟩ := be
    rw [hr] at h
    dsimp only at h
    have hw := nmR_wf h8 hr
    have hX1 : XS f n (st.1, st.2.1 ++ [wd f b e], st.2.2) := ⟨hX.1, fun w hw' => by
      rcases List.mem_append.mp hw' with y | y
      · exact hX.2.1 w y
      · rw [List.mem_singleton.mp y]; exact ⟨hw.1, hw.2.1⟩, hX.2.2⟩
    split at h
    · split at h
      · cases h; exact hX1
      · exact XS.nm h8 (by omega) hw.1 ⟨fun _ => hw.2.1, fun _ => Or.inl rfl⟩ 201 _ _ q st' hX1 h
    · cases h
theorem XS.pv (h8 : fit8 f) {q0 q : Nat} {st' : aP} (hX : XS f n st) (h : pPv f n q0 st k = .inr (q, st')) : XS f n st' := by
  unfold pPv at h
  cases hr : nmR f n k with
  | inl w => rw [hr] at h; cases h
  | inr be =>
    obtain ⟨b, e⟩ := be
    obtain ⟨g0, _, g1, g2, g3, _⟩ := nmR_in hr
    rw [hr] at h
    dsimp only at h
    cases hv : verR f n e with
    | inl w => rw [hv] at h; cases h
    | inr x =>
      obtain ⟨q2, v⟩ := x
      rw [hv] at h
      have := (verR_lt h8 g3 hv).2
      refine hX.ad ?_ h
      exact wfX_of (j := 0) (by omega) (by omega) (nmR_wf h8 hr) wfN_nil ⟨fun z => absurd z (by omega), fun z => absurd rfl z⟩ ⟨fun z => absurd (show (7 : Nat) < 7 ∨ (7 : Nat) = 8 from z) (by decide), fun _ => ⟨v, this, rfl, rfl⟩, fun z => absurd (show (7 : Nat) = 15 from z) (by decide), fun z => absurd (show 8 < (7 : Nat) from z) (by decide)⟩
theorem XS.sc (h8 : fit8 f) {q0 q : Nat} {st' : aP} (hX : XS f n st) (h : pSc f n q0 st k = .inr (q, st')) : XS f n st' := by
  unfold pSc at h
  cases hr : nmR f n k with
  | inl w => rw [hr] at h; cases h
  | inr be =>
    obtain ⟨b, e⟩ := be
    rw [hr] at h
    dsimp only at h
    cases hv : nmR f n e with
    | inl w => rw [hv] at h; cases h
    | inr x =>
      obtain ⟨b2, e2⟩ := x
      rw [hv] at h
      have hw2 := nmR_wf h8 hv
      refine hX.ad ?_ h
      exact wfX_of (j := 0) (by omega) (by omega) (nmR_wf h8 hr) hw2.1 ⟨fun _ => hw2.2.1, fun _ => Or.inr rfl⟩ ⟨fun z => absurd (show (14 : Nat) < 7 ∨ (14 : Nat) = 8 from z) (by decide), fun z => absurd (show (14 : Nat) = 7 from z) (by decide), fun z => absurd (show (14 : Nat) = 15 from z) (by decide), fun _ _ => ⟨rfl, rfl⟩⟩
theorem XS.fi (h8 : fit8 f) {q0 q : Nat} {st' : aP} (hX : XS f n st) (h : pFi f n q0 st k = .inr (q, st')) : XS f n st' := by
  unfold pFi at h
  cases hr : nmR f n k with
  | inl w => rw [hr] at h; cases h
  | inr be =>
    obtain ⟨b, e⟩ := be
    rw [hr] at h
    dsimp only at h
    split at h
    · rename_i c
      have := nu_lt h8 c
      refine hX.ad ?_ h
      exact wfX_of (j := 0) (by omega) (by omega) (nmR_wf h8 hr) wfN_nil ⟨fun z => absurd z (by omega), fun z => absurd rfl z⟩ ⟨fun z => absurd (show (15 : Nat) < 7 ∨ (15 : Nat) = 8 from z) (by decide), fun z => absurd (show (15 : Nat) = 7 from z) (by decide), fun _ => ⟨_, this, rfl, rfl⟩, fun _ z => absurd (show (15 : Nat) < 15 from z) (by decide)⟩
    · cases h
end WFX
