/-! LAYER 2: the reference's ranges -/
section RNGR
variable {N : Nat} {M : hM} {m : Nat} {s s' s'' : rS} {f : Nat → Int32} {n k : Nat}
/-- all but the word's scalars and the range stays -/
def kq (s s' : rS) : Prop := s'.2.2 = s.2.2 ∧ ∀ j, ¬ (3 ≤ j ∧ j ≤ 7) → j ≠ 45 → s'.1 j = s.1 j
theorem kq.rf : kq s s := ⟨rfl, fun _ _ _ => rfl⟩
theorem kq.tr (h : kq s s') (g : kq s' s'') : kq s s'' := ⟨g.1.trans h.1, fun j h1 h2 => (g.2 j h1 h2).trans (h.2 j h1 h2)⟩
theorem kp.q (h : kp s s') : kq s s' := ⟨by rw [h.1], h.2⟩
theorem kq_L {l : Nat → Int64} : kq s (s.1, l, s.2.2) := ⟨rfl, fun _ _ _ => rfl⟩
theorem kq.tS (h : kq s s') (g : tS s f n) : tS s' f n := ⟨(h.2 2 (by omega) (by omega)).trans g.1, g.2.1, g.2.2.1, by rw [h.1]; exact g.2.2.2⟩
theorem tkW.L (h : tkW s f n k) {l : Nat → Int64} : tkW (s.1, l, s.2.2) f n k := h
theorem lg_le {x y : Int64} : lg_cmp x y ≤ 0 ↔ x ≤ y := by
  unfold lg_cmp
  by_cases h1 : x > y
  · rw [if_pos h1]
    exact ⟨fun z => absurd z (by decide), fun z => absurd (Int64.lt_of_lt_of_le h1 z) Int64.lt_irrefl⟩
  · rw [if_neg h1]
    by_cases h2 : x = y
    · rw [if_pos h2, h2]; exact ⟨fun _ => Int64.le_refl _, fun _ => by decide⟩
    · rw [if_neg h2]; exact ⟨fun _ => Int64.not_lt.mp h1, fun _ => by decide⟩
theorem lg_ge {x y : Int64} : 0 ≤ lg_cmp x y ↔ y ≤ x := by
  have := lg_lt (x := x) (y := y)
  constructor
  · intro h; exact Int64.not_lt.mp (fun z => absurd (this.mpr z) (Int32.not_lt.mpr h))
  · intro h; exact Int32.not_lt.mp (fun z => absurd (this.mp z) (Int64.not_lt.mpr h))
theorem lN_leB {a b : Nat} (ha : a < 2 ^ 63) (hb : b < 2 ^ 63) : lN a ≤ lN b ↔ a ≤ b := by
  have := pk_lLT hb ha
  constructor
  · intro h; exact Nat.not_lt.mp (fun z => absurd (this.mpr z) (Int64.not_lt.mpr h))
  · intro h; exact Int64.not_lt.mp (fun z => absurd (this.mp z) (Nat.not_lt.mpr h))
/-- how a bound moves the range, by the reference's word for it -/
def rlo (op : Int32) (x lo : Nat) : Nat := if op = 61 ∨ op = 362 then max lo x else if op = 62 then max lo (x + 1) else lo
def rhi (op : Int32) (x hi : Nat) : Nat := if op = 61 ∨ op = 360 then min hi (x + 1) else if op = 60 then min hi x else hi
theorem m_close {lo hi : Nat} (h1 : s.2.1 32 = lN lo) (h2 : s.2.1 33 = lN hi) (bl : lo ≤ 10 ^ 18) (bh : hi ≤ 10 ^ 18) : ∃ l, (f_MD_close N m).1 (ov M m s) = some ((), ov M m (s.1, l, s.2.2)) ∧ l 32 = lN (clo lo hi).1 ∧ l 33 = lN (clo lo hi).2 := by
  rw [e_MD_close]
  unfold clo
  by_cases c : lo < hi
  · refine ⟨s.2.1, ?_, ?_, ?_⟩
    · simp only [mL_32, mL_33, h1, h2, lg_lt.mpr ((pk_lLT (by omega) (by omega)).mpr c), if_true, r_ret]
    · rw [if_pos c]; exact h1
    · rw [if_pos c]; exact h2
  · have c' : ¬ lg_cmp (lN lo) (lN hi) < 0 := fun z => c ((pk_lLT (by omega) (by omega)).mp (lg_lt.mp z))
    refine ⟨va_up (va_up s.2.1 32 0) 33 0, ?_, ?_, ?_⟩
    · simp only [mL_32, mL_33, h1, h2, c', if_false, mP_32, mP_33, r_ret]
    · rw [if_neg c]; rfl
    · rw [if_neg c]; rfl
theorem m_closeX : ∃ l, (f_MD_close N m).1 (ov M m s) = some ((), ov M m (s.1, l, s.2.2)) := by
  rw [e_MD_close]
  by_cases c : lg_cmp (s.2.1 32) (s.2.1 33) < 0
  · exact ⟨s.2.1, by simp only [mL_32, mL_33, c, if_true, r_ret]⟩
  · exact ⟨va_up (va_up s.2.1 32 0) 33 0, by simp only [mL_32, mL_33, c, if_false, mP_32, mP_33, r_ret]⟩
/-- the end of bound: what the version does to the range -/
def bTail (N m : Nat) (v13 : Int32) (v18 : Int64) : hX Unit := b_let (fun (x1 : Int32) (x2 : Int64) => b_let (fun (x1 : Int32) (x2 : Int64) => b_let (fun (x1 : Int32) (x2 : Int64) => b_let (fun (y0 : Int64) (y1 : Option Nat) => b_nn y1 (fun a1 => b_put a1 1 33 (.long y0) (b_ret ()))) (fun J141 => (if x1 = 60 then b_getL m 1 33 (fun v2 => (if 0 ≤ (lg_cmp v2 x2) then J141 x2 (some m) else b_getL m 1 33 (fun v3 => J141 v3 (some m)))) else b_ret ()))) (fun J117 => b_let (fun (x1 : Int32) (x2 : Int64) => b_let (fun (x1 : Int32) (x2 : Int64) (y0 : Int64) (y1 : Option Nat) => b_nn y1 (fun a4 => b_put a4 1 33 (.long y0) (J117 x1 x2))) (fun J114 => b_getL m 1 33 (fun v5 => (if 0 ≤ (lg_cmp v5 (x2 + 1)) then J114 x1 x2 (x2 + 1) (some m) else b_getL m 1 33 (fun v6 => J114 x1 x2 v6 (some m)))))) (fun J92 => (if x1 = 61 then J92 x1 x2 else (if x1 = 360 then J92 x1 x2 else J117 x1 x2))))) (fun J79 => b_let (fun (x1 : Int32) (x2 : Int64) (y0 : Int64) (y1 : Option Nat) => b_nn y1 (fun a7 => b_put a7 1 32 (.long y0) (J79 x1 x2))) (fun J76 => (if x1 = 62 then b_getL m 1 32 (fun v8 => (if (lg_cmp v8 (x2 + 1)) ≤ 0 then J76 x1 x2 (x2 + 1) (some m) else b_getL m 1 32 (fun v9 => J76 x1 x2 v9 (some m)))) else J79 x1 x2)))) (fun J48 => b_let (fun (x1 : Int32) (x2 : Int64) => b_let (fun (x1 : Int32) (x2 : Int64) (y0 : Int64) (y1 : Option Nat) => b_nn y1 (fun a10 => b_put a10 1 32 (.long y0) (J48 x1 x2))) (fun J45 => b_getL m 1 32 (fun v11 => (if (lg_cmp v11 x2) ≤ 0 then J45 x1 x2 x2 (some m) else b_getL m 1 32 (fun v12 => J45 x1 x2 v12 (some m)))))) (fun J27 => (if v13 = 61 then J27 v13 v18 else (if v13 = 362 then J27 v13 v18 else J48 v13 v18))))
def xlo (op : Int32) (x l : Int64) : Int64 := if op = 61 ∨ op = 362 then (if lg_cmp l x ≤ 0 then x else l) else if op = 62 then (if lg_cmp l (x + 1) ≤ 0 then x + 1 else l) else l
def xhi (op : Int32) (x l : Int64) : Int64 := if op = 61 ∨ op = 360 then (if 0 ≤ lg_cmp l (x + 1) then x + 1 else l) else if op = 60 then (if 0 ≤ lg_cmp l x then x else l) else l
theorem m_bTail {op : Int32} {x : Int64} (h : op = 61 ∨ op = 60 ∨ op = 62 ∨ op = 360 ∨ op = 362) : ∃ l, (bTail N m op x).1 (ov M m s) = some ((), ov M m (s.1, l, s.2.2)) ∧ l 32 = xlo op x (s.2.1 32) ∧ l 33 = xhi op x (s.2.1 33) := by
  unfold bTail xlo xhi
  rcases h with rfl | rfl | rfl | rfl | rfl
  · by_cases c1 : lg_cmp (s.2.1 32) x ≤ 0 <;> by_cases c2 : 0 ≤ lg_cmp (s.2.1 33) (x + 1)
    all_goals
      simp only [r_let, r_nn, mL_32, mL_33, mP_32, mP_33, r_ret, c1, c2, if_true, if_false, true_or, or_true, show ¬ (61 : Int32) = 62 by decide, show ¬ (61 : Int32) = 60 by decide, ua_n (show ¬ 33 = 32 by decide)]
      exact ⟨_, rfl, rfl, rfl⟩
  · by_cases c2 : 0 ≤ lg_cmp (s.2.1 33) x
    all_goals
      simp only [r_let, r_nn, mL_32, mL_33, mP_32, mP_33, r_ret, c2, if_true, if_false, or_self, show ¬ (60 : Int32) = 62 by decide, show ¬ (60 : Int32) = 61 by decide, show ¬ (60 : Int32) = 362 by decide, show ¬ (60 : Int32) = 360 by decide]
      exact ⟨_, rfl, rfl, rfl⟩
  · by_cases c1 : lg_cmp (s.2.1 32) (x + 1) ≤ 0
    all_goals
      simp only [r_let, r_nn, mL_32, mL_33, mP_32, mP_33, r_ret, c1, if_true, if_false, or_self, show ¬ (62 : Int32) = 60 by decide, show ¬ (62 : Int32) = 61 by decide, show ¬ (62 : Int32) = 362 by decide, show ¬ (62 : Int32) = 360 by decide]
      exact ⟨_, rfl, rfl, rfl⟩
  · by_cases c2 : 0 ≤ lg_cmp (s.2.1 33) (x + 1)
    all_goals
      simp only [r_let, r_nn, mL_32, mL_33, mP_32, mP_33, r_ret, c2, if_true, if_false, or_self, or_true, show ¬ (360 : Int32) = 60 by decide, show ¬ (360 : Int32) = 61 by decide, show ¬ (360 : Int32) = 362 by decide, show ¬ (360 : Int32) = 62 by decide]
      exact ⟨_, rfl, rfl, rfl⟩
  · by_cases c1 : lg_cmp (s.2.1 32) x ≤ 0
    all_goals
      simp only [r_let, r_nn, mL_32, mL_33, mP_32, mP_33, r_ret, c1, if_true, if_false, or_self, or_true, show ¬ (362 : Int32) = 60 by decide, show ¬ (362 : Int32) = 61 by decide, show ¬ (362 : Int32) = 360 by decide, show ¬ (362 : Int32) = 62 by decide]
      exact ⟨_, rfl, rfl, rfl⟩
theorem xlo_r {op : Int32} {x lo : Nat} (bx : x < 10 ^ 18) (bl : lo ≤ 10 ^ 18) : xlo op (lN x) (lN lo) = lN (rlo op x lo) := by
  have p1 : (10 : Nat) ^ 18 + 1 < 2 ^ 63 := by decide
  unfold xlo rlo
  by_cases h1 : op = 61 ∨ op = 362
  · rw [if_pos h1, if_pos h1]
    by_cases c : lo ≤ x
    · rw [if_pos (lg_le.mpr ((lN_leB (by omega) (by omega)).mpr c)), Nat.max_eq_right c]
    · rw [if_neg (fun z => c ((lN_leB (by omega) (by omega)).mp (lg_le.mp z))), Nat.max_eq_left (by omega)]
  · rw [if_neg h1, if_neg h1]
    by_cases h2 : op = 62
    · rw [if_pos h2, if_pos h2, lN_1]
      by_cases c : lo ≤ x + 1
      · rw [if_pos (lg_le.mpr ((lN_leB (by omega) (by omega)).mpr c)), Nat.max_eq_right c]
      · rw [if_neg (fun z => c ((lN_leB (by omega) (by omega)).mp (lg_le.mp z))), Nat.max_eq_left (by omega)]
    · rw [if_neg h2, if_neg h2]
theorem xhi_r {op : Int32} {x hi : Nat} (bx : x < 10 ^ 18) (bh : hi ≤ 10 ^ 18) : xhi op (lN x) (lN hi) = lN (rhi op x hi) := by
  have p1 : (10 : Nat) ^ 18 + 1 < 2 ^ 63 := by decide
  unfold xhi rhi
  by_cases h1 : op = 61 ∨ op = 360
  · rw [if_pos h1, if_pos h1, lN_1]
    by_cases c : x + 1 ≤ hi
    · rw [if_pos (lg_ge.mpr ((lN_leB (by omega) (by omega)).mpr c)), Nat.min_eq_right c]
    · rw [if_neg (fun z => c ((lN_leB (by omega) (by omega)).mp (lg_ge.mp z))), Nat.min_eq_left (by omega)]
  · rw [if_neg h1, if_neg h1]
    by_cases h2 : op = 60
    · rw [if_pos h2, if_pos h2]
      by_cases c : x ≤ hi
      · rw [if_pos (lg_ge.mpr ((lN_leB (by omega) (by omega)).mpr c)), Nat.min_eq_right c]
      · rw [if_neg (fun z => c ((lN_leB (by omega) (by omega)).mp (lg_ge.mp z))), Nat.min_eq_left (by omega)]
    · rw [if_neg h2, if_neg h2]
/-- the reference's word for a bound, by its signs -/
theorem tw_bd {q : Nat} (h8 : fit8 f) : (tw f n q = 61 ∨ tw f n q = 60 ∨ tw f n q = 62 ∨ tw f n q = 360 ∨ tw f n q = 362) ↔ (sgn f n q = 61 ∨ sgn f n q = 60 ∨ sgn f n q = 62) := by
  have hh := sx_no h8 (j := q)
  unfold tw sgn
  by_cases g0 : n ≤ q
  · rw [if_pos g0, if_neg (show ¬ q < n by omega)]
    exact ⟨fun z => absurd z (by decide), fun z => absurd z (by decide)⟩
  · rw [if_neg g0, if_pos (show q < n by omega)]
    by_cases g1 : cL (f q)
    · rw [if_pos g1]
      refine ⟨fun z => absurd z (by decide), fun z => ?_⟩
      rcases z with z | z | z <;> rw [z] at g1 <;> exact absurd g1 (by decide)
    · rw [if_neg g1]
      by_cases g2 : cD (f q)
      · rw [if_pos g2]
        refine ⟨fun z => absurd z (by decide), fun z => ?_⟩
        rcases z with z | z | z <;> rw [z] at g2 <;> exact absurd g2 (by decide)
      · rw [if_neg g2]
        by_cases g3 : bth f n q
        · rw [if_pos g3]
          rcases g3.1 with e | e <;> rw [e] <;> decide
        · rw [if_neg g3]
          refine ⟨fun z => ?_, fun z => ?_⟩
          · rcases z with z | z | z | z | z
            · exact Or.inl z
            · exact Or.inr (Or.inl z)
            · exact Or.inr (Or.inr z)
            · exact absurd z hh.2.2.2.1
            · exact absurd z hh.2.2.2.2
          · rcases z with z | z | z
            · exact Or.inl z
            · exact Or.inr (Or.inl z)
            · exact Or.inr (Or.inr (Or.inl z))
theorem bd_eq {q x lo hi : Nat} (hb : sgn f n q = 61 ∨ sgn f n q = 60 ∨ sgn f n q = 62) : te f n q = bq f n q ∧ rlo (tw f n q) x lo = nlo (sgn f n q) (bb f n q) x lo ∧ rhi (tw f n q) x hi = nhi (sgn f n q) (bb f n q) x hi := by
  have hq : q < n := by rcases hb with h | h | h <;> exact sgn_0 (by decide) h
  have e : sgn f n q = f q := if_pos hq
  have ce : te f n q = if bth f n q then q + 2 else q + 1 := by
    unfold te
    rw [if_neg (by omega), if_neg (by rw [← e]; rcases hb with h | h | h <;> rw [h] <;> decide), if_neg (by rw [← e]; rcases hb with h | h | h <;> rw [h] <;> decide)]
  have cw : tw f n q = if bth f n q then 300 + f q else f q := by
    unfold tw
    rw [if_neg (by omega), if_neg (by rw [← e]; rcases hb with h | h | h <;> rw [h] <;> decide), if_neg (by rw [← e]; rcases hb with h | h | h <;> rw [h] <;> decide)]
  have b2 : sgn f n (q + 1) = 61 ↔ q + 1 < n ∧ f (q + 1) = 61 := by
    unfold sgn
    by_cases g : q + 1 < n
    · rw [if_pos g]; exact ⟨fun z => ⟨g, z⟩, fun z => z.2⟩
    · rw [if_neg g]; exact ⟨fun z => absurd z (by decide), fun z => absurd z.1 g⟩
  rw [ce, cw]
  unfold bq bb nlo nhi rlo rhi
  rw [e] at hb ⊢
  rcases hb with h | h | h
  · have nb : ¬ bth f n q := fun z => by rcases z.1 with z | z <;> rw [h] at z <;> exact absurd z (by decide)
    rw [if_neg nb, if_neg nb, h]
    simp only [if_true, true_or, show ¬ (61 : Int32) = 60 by decide, show ¬ (61 : Int32) = 62 by decide, if_false, show ¬ (1 : Int32) = 0 by decide, and_self]
  · by_cases b : sgn f n (q + 1) = 61
    · have nb : bth f n q := ⟨Or.inl h, b2.mp b⟩
      rw [if_pos nb, if_pos nb, h]
      simp only [b, if_true, show ¬ (60 : Int32) = 61 by decide, show ¬ (60 : Int32) = 62 by decide, show (300 : Int32) + 60 = 360 from rfl, show ¬ (360 : Int32) = 61 by decide, show ¬ (360 : Int32) = 362 by decide, show ¬ (360 : Int32) = 62 by decide, if_false, show ¬ (1 : Int32) = 0 by decide, or_self, or_true, and_self]
    · have nb : ¬ bth f n q := fun z => b (b2.mpr z.2)
      rw [if_neg nb, if_neg nb, h]
      simp only [b, if_true, show ¬ (60 : Int32) = 61 by decide, show ¬ (60 : Int32) = 62 by decide, show ¬ (60 : Int32) = 362 by decide, show ¬ (60 : Int32) = 360 by decide, if_false, or_self, and_self]
  · by_cases b : sgn f n (q + 1) = 61
    · have nb : bth f n q := ⟨Or.inr h, b2.mp b⟩
      rw [if_pos nb, if_pos nb, h]
      simp only [b, if_true, show ¬ (62 : Int32) = 61 by decide, show ¬ (62 : Int32) = 60 by decide, show (300 : Int32) + 62 = 362 from rfl, show ¬ (362 : Int32) = 61 by decide, show ¬ (362 : Int32) = 360 by decide, show ¬ (362 : Int32) = 60 by decide, if_false, show ¬ (1 : Int32) = 0 by decide, or_self, or_true, and_self]
    · have nb : ¬ bth f n q := fun z => b (b2.mpr z.2)
      rw [if_neg nb, if_neg nb, h]
      simp only [b, if_true, show ¬ (62 : Int32) = 61 by decide, show ¬ (62 : Int32) = 60 by decide, show ¬ (62 : Int32) = 362 by decide, show ¬ (62 : Int32) = 360 by decide, if_false, or_self, and_self]
end RNGR
