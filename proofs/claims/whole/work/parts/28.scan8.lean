/-! LAYER 2: the class's Scan: takeRange -/
def clo (lo hi : Nat) : Nat × Nat := if lo < hi then (lo, hi) else (0, 0)
/-- a BOUND's sign at s: is the version itself in, and where the version begins -/
def bb (f : Nat → Int32) (n s : Nat) : Int32 := if sgn f n s = 61 then 1 else if sgn f n (s + 1) = 61 then 1 else 0
def bq (f : Nat → Int32) (n s : Nat) : Nat := if sgn f n s = 61 then s + 1 else if sgn f n (s + 1) = 61 then s + 2 else s + 1
/-- r more BOUNDS at most (the first must be there), from place q, the range so far -/
def rst (f : Nat → Int32) (n : Nat) : Nat → Nat → Nat → Nat → Nat ⊕ (Nat × Nat × Nat)
  | 0, q, lo, hi => .inr (q, clo lo hi)
  | r + 1, q, lo, hi => if sgn f n (sp f n q) = 61 ∨ sgn f n (sp f n q) = 60 ∨ sgn f n (sp f n q) = 62 then (match verR f n (bq f n (sp f n q)) with
      | .inl w => .inl w
      | .inr (q', x) => rst f n r q' (nlo (sgn f n (sp f n q)) (bb f n (sp f n q)) x lo) (nhi (sgn f n (sp f n q)) (bb f n (sp f n q)) x hi))
    else if r = 1 then .inl (sp f n q) else .inr (sp f n q, clo lo hi)
def rgR (f : Nat → Int32) (n k : Nat) : Nat ⊕ (Nat × Nat × Nat) := if sgn f n (sp f n k) = 42 then .inr (sp f n k + 1, 0, 1000000000000000000) else rst f n 2 (sp f n k) 0 1000000000000000000
def rSp (M : hM) (a p : Nat) (v : sV) (X : Option (Int32 × hM)) (res : Nat ⊕ (Nat × Nat × Nat)) : Prop := match res with
  | .inl r => ∃ w : sV, w.1 = v.1 ∧ w.2.2.1 = nI r ∧ X = some (0, hm_up M a (scC p w))
  | .inr (q, lo, hi) => ∃ x : Int64, X = some (1, hm_up M a (scC p (v.1, nI q, v.2.2.1, v.2.2.2.1, v.2.2.2.2.1, x, lN lo, lN hi)))
theorem rSp.eq {M : hM} {a p : Nat} {v : sV} {X Y : Option (Int32 × hM)} {res : Nat ⊕ (Nat × Nat × Nat)} (e : X = Y) (h : rSp M a p v Y res) : rSp M a p v X res := by rw [e]; exact h
theorem rSp.mono {M : hM} {a p : Nat} {v w : sV} {X : Option (Int32 × hM)} {res : Nat ⊕ (Nat × Nat × Nat)} (h : rSp (hm_up M a (scC p w)) a p w X res) (h1 : w.1 = v.1) (h3 : w.2.2.1 = v.2.2.1) (h4 : w.2.2.2.1 = v.2.2.2.1) (h5 : w.2.2.2.2.1 = v.2.2.2.2.1) : rSp M a p v X res := by
  cases res with
  | inl r =>
    obtain ⟨u, e1, e2, e3⟩ := h
    exact ⟨u, e1.trans h1, e2, by rw [e3, up_up]⟩
  | inr qx =>
    obtain ⟨q, lo, hi⟩ := qx
    obtain ⟨x, e⟩ := h
    exact ⟨x, by rw [e, up_up, h1, h3, h4, h5]⟩
section
variable {N : Nat} {M : hM} {a p : Nat} {v : sV} {f : Nat → Int32} {n k : Nat}
theorem s_close {q lo hi : Nat} (h : M.1 a = some (scC p v)) (hq : v.2.1 = nI q) (hl : v.2.2.2.2.2.2.1 = lN lo) (hh : v.2.2.2.2.2.2.2 = lN hi) (bl : lo ≤ 10 ^ 18) (bh : hi ≤ 10 ^ 18) : (b_getL a 8 7 fun v1 => b_getL a 8 8 fun v2 => if lg_cmp v1 v2 < 0 then b_retN .boolean 1 else b_put a 8 7 (.long 0) (b_put a 8 8 (.long 0) (b_retN .boolean 1))).1 M = some (1, hm_up M a (scC p (v.1, nI q, v.2.2.1, v.2.2.2.1, v.2.2.2.2.1, v.2.2.2.2.2.1, lN (clo lo hi).1, lN (clo lo hi).2))) := by
  have b63 : (10 : Nat) ^ 18 + 1 < 2 ^ 63 := by decide
  refine (r_getL h rfl).trans ?_
  refine (r_getL h rfl).trans ?_
  unfold clo
  by_cases hc : lo < hi
  · rw [r_if_t (lg_lt.mpr (by rw [hl, hh]; exact (pk_lLT (by omega) (by omega)).mpr hc)), if_pos hc, ← hq, ← hl, ← hh, show (v.1, v.2.1, v.2.2.1, v.2.2.2.1, v.2.2.2.2.1, v.2.2.2.2.2.1, v.2.2.2.2.2.2.1, v.2.2.2.2.2.2.2) = v from rfl, up_self h]
    exact rZ1
  · rw [r_if_f (fun z => hc ((pk_lLT (by omega) (by omega)).mp (by have := lg_lt.mp z; rw [hl, hh] at this; exact this))), if_neg hc]
    refine (r_put h (Nat.le_of_ble_eq_true rfl)).trans ?_
    refine (r_put up_s (Nat.le_of_ble_eq_true rfl)).trans ?_
    rw [up_up, ← hq]
    exact rZ1
theorem bq_le {s : Nat} (h : s < n) : bq f n s ≤ n := by
  unfold bq
  by_cases h1 : sgn f n s = 61
  · rw [if_pos h1]; omega
  · rw [if_neg h1]
    by_cases h2 : sgn f n (s + 1) = 61
    · rw [if_pos h2]; have := sgn_0 (c := 61) (by decide) h2; omega
    · rw [if_neg h2]; omega
theorem nlo_le {c b : Int32} {x lo : Nat} (bx : x < 10 ^ 18) (bl : lo ≤ 10 ^ 18) : nlo c b x lo ≤ 10 ^ 18 := by
  unfold nlo
  by_cases h1 : c = 60
  · rw [if_pos h1]; exact bl
  · rw [if_neg h1]
    by_cases h2 : b = 0
    · rw [if_pos h2]; omega
    · rw [if_neg h2]; omega
theorem nhi_le {c b : Int32} {x hi : Nat} (bh : hi ≤ 10 ^ 18) : nhi c b x hi ≤ 10 ^ 18 := by
  unfold nhi
  by_cases h1 : c = 62
  · rw [if_pos h1]; exact bh
  · rw [if_neg h1]; omega
end
