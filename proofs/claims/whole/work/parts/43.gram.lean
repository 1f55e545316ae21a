/-! LAYER 2: the grammar of a text, as both programs read it -/
section GRAM
variable (f : Nat → Int32) (n : Nat)
/-- a row is added -/
def adR (st : aP) (q0 kd b : Nat) (nm ot : List Int32) (lo hi : Int64) (q : Nat) : Nat ⊕ (Nat × aP) := if st.1.length = 200 then .inl q0 else .inr (q, st.1 ++ [((kd, if kd = 8 then nI st.2.2 else -1, nm, ot, lo, hi, false), b)], st.2)
/-- NAME RANGE -/
def pRg (q0 kd : Nat) (st : aP) (k : Nat) : Nat ⊕ (Nat × aP) := match nmR f n k with
  | .inl w => .inl w
  | .inr (b, e) => match rgR f n e with
    | .inl w => .inl w
    | .inr (q, lo, hi) => adR st q0 kd b (wd f b e) [] (lN lo) (lN hi) q
def pAn (q0 : Nat) : Nat → Bool → aP → Nat → Nat ⊕ (Nat × aP)
  | 0, _, _, _ => .inl 0
  | u + 1, t, st, k => match pRg f n q0 8 st k with
    | .inl w => .inl w
    | .inr (q, st') => if sgn f n (sp f n q) = 124 then pAn q0 u false st' (sp f n q + 1) else if t = true then .inl (sp f n q) else .inr (sp f n q, st')
def pAny (q0 : Nat) (st : aP) (k : Nat) : Nat ⊕ (Nat × aP) := match pAn f n q0 201 true st k with
  | .inl w => .inl w
  | .inr (q, st') => .inr (q, st'.1, st'.2.1, st'.2.2 + 1)
/-- NAMES with commas -/
def pNm (q0 kd : Nat) (ot : List Int32) : Nat → aP → Nat → Nat ⊕ (Nat × aP)
  | 0, _, _ => .inl 0
  | u + 1, st, k => match nmR f n k with
    | .inl w => .inl w
    | .inr (b, e) => match adR st q0 kd b (wd f b e) ot (-1) (-1) e with
      | .inl w => .inl w
      | .inr (q, st') => if sgn f n (sp f n q) = 44 then pNm q0 kd ot u st' (sp f n q + 1) else .inr (sp f n q, st')
def pFt (q0 : Nat) (st : aP) (k : Nat) : Nat ⊕ (Nat × aP) := match nmR f n k with
  | .inl w => .inl w
  | .inr (b, e) => if sgn f n (sp f n e) = 58 then (if sgn f n (sp f n (sp f n e + 1)) = 59 then .inr (sp f n (sp f n e + 1), st.1, st.2.1 ++ [wd f b e], st.2.2) else pNm f n q0 9 (wd f b e) 201 (st.1, st.2.1 ++ [wd f b e], st.2.2) (sp f n (sp f n e + 1))) else .inl (sp f n e)
def pPv (q0 : Nat) (st : aP) (k : Nat) : Nat ⊕ (Nat × aP) := match nmR f n k with
  | .inl w => .inl w
  | .inr (b, e) => match verR f n e with
    | .inl w => .inl w
    | .inr (q, x) => adR st q0 7 b (wd f b e) [] (lN x) (lN (x + 1)) q
def pSc (q0 : Nat) (st : aP) (k : Nat) : Nat ⊕ (Nat × aP) := match nmR f n k with
  | .inl w => .inl w
  | .inr (b, e) => match nmR f n e with
    | .inl w => .inl w
    | .inr (b2, e2) => adR st q0 14 b (wd f b e) (wd f b2 e2) (-1) (-1) e2
def pFi (q0 : Nat) (st : aP) (k : Nat) : Nat ⊕ (Nat × aP) := match nmR f n k with
  | .inl w => .inl w
  | .inr (b, e) => if nuOk f (sp f n e) (den f (n - sp f n e) (sp f n e) - sp f n e) then adR st q0 15 b (wd f b e) [] (lN (nv f (sp f n e) (den f (n - sp f n e) (sp f n e) - sp f n e))) (-1) (den f (n - sp f n e) (sp f n e)) else .inl (sp f n e)
/-- the first of d from i on -/
noncomputable def fsI (P : Nat → Prop) : Nat → Nat → Nat
  | 0, i => i
  | d + 1, i => @ite _ (P i) (Classical.propDecidable _) i (fsI P d (i + 1))
noncomputable def pNd (q0 : Nat) (st : aP) (k : Nat) : Nat ⊕ (Nat × aP) :=
  if cL (sgn f n (sp f n k)) then (if fsI (fun i => isTx f (sp f n k) (we f n (sp f n k)) (ntx i)) 5 0 = 5 then .inl (sp f n k) else pRg f n q0 (fsI (fun i => isTx f (sp f n k) (we f n (sp f n k)) (ntx i)) 5 0) st (we f n (sp f n k))) else .inl (sp f n k)
noncomputable def pBd (q0 : Nat) (st : aP) (k i : Nat) : Nat ⊕ (Nat × aP) :=
  if i = 0 then pNd f n q0 st k else if i = 1 ∨ i = 2 then pRg f n q0 (i + 4) st k else if i = 3 then pPv f n q0 st k else if i = 4 then pAny f n q0 st k else if i = 5 then pFt f n q0 st k else if i = 10 then pSc f n q0 st k else if i = 11 then pFi f n q0 st k else pNm f n q0 (i + 4) [] 201 st k
/-- one row of the text -/
noncomputable def pRow (st : aP) (k : Nat) : Nat ⊕ (Nat × aP) :=
  if cL (sgn f n (sp f n k)) then (if fsI (fun i => isTx f (sp f n k) (we f n (sp f n k)) (ktx i)) 12 0 = 12 then .inl (sp f n k) else match pBd f n (sp f n k) st (we f n (sp f n k)) (fsI (fun i => isTx f (sp f n k) (we f n (sp f n k)) (ktx i)) 12 0) with
    | .inl w => .inl w
    | .inr (q, st') => if sgn f n (sp f n q) = 59 then .inr (sp f n q + 1, st') else .inl (sp f n q)) else .inl (sp f n k)
noncomputable def pRows : Nat → aP → Nat → Nat ⊕ aP
  | 0, _, _ => .inl 0
  | u + 1, st, k => if n ≤ sp f n k then .inr st else match pRow f n st (sp f n k) with
    | .inl w => .inl w
    | .inr (q, st') => pRows u st' q
/-- the head: NAME and VERSION -/
noncomputable def pHd : Nat ⊕ (Nat × List Int32 × Nat) :=
  if cL (sgn f n (sp f n 0)) then (@ite _ (isTx f (sp f n 0) (we f n (sp f n 0)) 0) (Classical.propDecidable _) (match nmR f n (we f n (sp f n 0)) with
    | .inl w => .inl w
    | .inr (b, e) => match verR f n e with
      | .inl w => .inl w
      | .inr (q, x) => if sgn f n (sp f n q) = 59 then .inr (sp f n q + 1, wd f b e, x) else .inl (sp f n q)) (.inl (sp f n 0))) else .inl (sp f n 0)
end GRAM
section GRAML
variable {f : Nat → Int32} {n k : Nat}
theorem nmR_le {w : Nat} (hk : k ≤ n) (h : nmR f n k = .inl w) : w ≤ n := by
  unfold nmR at h; split at h
  · cases h
  · cases h; exact sp_le hk
theorem nmR_in {b e : Nat} (h : nmR f n k = .inr (b, e)) : b = sp f n k ∧ e = we f n (sp f n k) ∧ b < n ∧ b < e ∧ e ≤ n ∧ e - b ≤ 20 ∧ cL (f b) ∧ ¬ cB (f (e - 1)) ∧ ∀ j, b ≤ j → j < e → cL (f j) ∨ cD (f j) ∨ cB (f j) := by
  unfold nmR at h; split at h
  · rename_i c
    cases h
    obtain ⟨q1, q2⟩ := cL_in c.1
    exact ⟨rfl, rfl, q1, we_gt q1 q2, we_le (Nat.le_of_lt q1), c.2.1, q2, c.2.2, fun j h1 h2 => wen_ch _ _ j h1 h2⟩
  · cases h
theorem nmR_tx (h8 : fit8 f) {b e : Nat} (h : nmR f n k = .inr (b, e)) : wd (tx f) b (b + (e - b)) = wd f b e := by
  obtain ⟨_, _, _, h4, _, _, _, _, h9⟩ := nmR_in h
  rw [show b + (e - b) = e by omega]
  refine wd_ext (fun j hj => sx_id h8 ?_)
  rcases h9 (b + j) (by omega) (by omega) with z | z | z
  · exact Or.inl z
  · exact Or.inr (Or.inl z)
  · exact Or.inr (Or.inr (Or.inl z))
theorem vst_q : ∀ (r q x q' x' : Nat), q ≤ n → vst f n r q x = .inr (q', x') → q' ≤ n
  | 0, q, x, q', x', hq, h => by cases h; exact hq
  | r + 1, q, x, q', x', hq, h => by
    rw [show vst f n (r + 1) q x = if sgn f n q = 46 then (if cD (sgn f n (q + 1)) then (if nuOk f (q + 1) (den f (n - (q + 1)) (q + 1) - (q + 1)) then vst f n r (den f (n - (q + 1)) (q + 1)) (x * 1000000 + nv f (q + 1) (den f (n - (q + 1)) (q + 1) - (q + 1))) else .inl (q + 1)) else .inl (sp f n (q + 1))) else .inl (sp f n q) from rfl] at h
    by_cases c1 : sgn f n q = 46
    · have c1' := sgn_0 (by decide) c1
      rw [if_pos c1] at h
      by_cases c2 : cD (sgn f n (q + 1))
      · rw [if_pos c2] at h
        by_cases c3 : nuOk f (q + 1) (den f (n - (q + 1)) (q + 1) - (q + 1))
        · rw [if_pos c3] at h
          exact vst_q r _ _ q' x' (by have := den_le (f := f) (n - (q + 1)) (q + 1); omega) h
        · rw [if_neg c3] at h; cases h
      · rw [if_neg c2] at h; cases h
    · rw [if_neg c1] at h; cases h
theorem verR_q {q x : Nat} (hk : k ≤ n) (h : verR f n k = .inr (q, x)) : q ≤ n := by
  have hs := sp_le (f := f) hk
  unfold verR at h
  split at h
  · exact vst_q 2 _ _ q x (by have := den_le (f := f) (n - sp f n k) (sp f n k); omega) h
  · cases h
theorem rst_le : ∀ (r q lo hi w : Nat), q ≤ n → rst f n r q lo hi = .inl w → w ≤ n
  | 0, q, lo, hi, w, _, h => by cases h
  | r + 1, q, lo, hi, w, hq, h => by
    rw [show rst f n (r + 1) q lo hi = if sgn f n (sp f n q) = 61 ∨ sgn f n (sp f n q) = 60 ∨ sgn f n (sp f n q) = 62 then (match verR f n (bq f n (sp f n q)) with
      | .inl w => .inl w
      | .inr (q', x) => rst f n r q' (nlo (sgn f n (sp f n q)) (bb f n (sp f n q)) x lo) (nhi (sgn f n (sp f n q)) (bb f n (sp f n q)) x hi))
      else if r = 1 then .inl (sp f n q) else .inr (sp f n q, clo lo hi) from rfl] at h
    by_cases c : sgn f n (sp f n q) = 61 ∨ sgn f n (sp f n q) = 60 ∨ sgn f n (sp f n q) = 62
    · rw [if_pos c] at h
      have hq1 : sp f n q < n := by rcases c with h | h | h <;> exact sgn_0 (by decide) h
      have hbq := bq_le (f := f) hq1
      cases hv : verR f n (bq f n (sp f n q)) with
      | inl w' => rw [hv] at h; cases h; exact verR_le hbq hv
      | inr qx =>
        obtain ⟨q', x⟩ := qx
        rw [hv] at h
        exact rst_le r q' _ _ w (verR_q hbq hv) h
    · rw [if_neg c] at h
      split at h
      · cases h; exact sp_le hq
      · cases h
theorem rgR_le {w : Nat} (hk : k ≤ n) (h : rgR f n k = .inl w) : w ≤ n := by
  unfold rgR at h; split at h
  · cases h
  · exact rst_le 2 _ _ _ w (sp_le hk) h
end GRAML
