/-! LAYER 2: the reference's signs, numbers, versions -/
section NUMR
variable {N : Nat} {M : hM} {m : Nat} {s s' s'' : rS} {f : Nat → Int32} {n k : Nat}
/-- a place that can't stand, as it is told -/
def wr (q : Nat) : Int32 := (-1) - nI q
theorem wr_ne {q : Nat} (h : q ≤ 2000) : ¬ wr q = 0 := by
  intro e
  have e1 : (wr q).toInt = 0 := by rw [e]; rfl
  have e2 : (wr q).toInt = -1 - q := by
    unfold wr
    rw [Int32.toInt_sub, show (nI q).toInt = (q : Int) from Int32.toInt_ofNat_of_lt (by omega), show ((-1 : Int32)).toInt = -1 from rfl]
    rw [Int.bmod_def]; omega
  omega
/-- all but the word's scalars stays -/
def kp (s s' : rS) : Prop := s'.2 = s.2 ∧ ∀ j, ¬ (3 ≤ j ∧ j ≤ 7) → j ≠ 45 → s'.1 j = s.1 j
theorem kp.rf : kp s s := ⟨rfl, fun _ _ _ => rfl⟩
theorem kp.tr (h : kp s s') (g : kp s' s'') : kp s s'' := ⟨g.1.trans h.1, fun j h1 h2 => (g.2 j h1 h2).trans (h.2 j h1 h2)⟩
theorem kp.tS (h : kp s s') (g : tS s f n) : tS s' f n := ⟨(h.2 2 (by omega) (by omega)).trans g.1, g.2.1, g.2.2.1, by rw [h.1]; exact g.2.2.2⟩
theorem kp_tk {q : Nat} : kp s (tk s f n q) := by
  refine ⟨rfl, fun j h1 h2 => ?_⟩
  show va_up (va_up (va_up s.1 3 (nI q)) 5 (tw f n q)) 4 (nI (te f n q)) j = s.1 j
  rw [ua_n (by omega), ua_n (by omega), ua_n (by omega)]
theorem kp_up {j : Nat} {x : Int32} (h : (3 ≤ j ∧ j ≤ 7) ∨ j = 45) : kp s (va_up s.1 j x, s.2) := by
  refine ⟨rfl, fun i h1 h2 => ua_n (by omega)⟩
/-- the word behind is read -/
theorem m_nextK (hN : 2001 ≤ N) (h : tS s f n) (hk : s.1 4 = nI k) (hkn : k ≤ n) : ∃ s', (f_MD_next N m).1 (ov M m s) = some ((), ov M m s') ∧ tkS s' f n k ∧ kp s s' ∧ s'.1 7 = s.1 7 ∧ s'.1 45 = s.1 45 :=
  ⟨_, m_next hN h hk hkn, tkS_tk h hkn, (kp_up (j := 6) (Or.inl (by omega))).tr kp_tk, rfl, rfl⟩
theorem tw_L {q : Nat} (h8 : fit8 f) : tw f n q = -2 ↔ q < n ∧ cL (f q) := by
  have hh := sx_no h8 (j := q)
  unfold tw
  by_cases h0 : n ≤ q
  · rw [if_pos h0]; exact ⟨fun z => absurd z (by decide), fun z => absurd z.1 (by omega)⟩
  · rw [if_neg h0]
    by_cases h1 : cL (f q)
    · rw [if_pos h1]; exact ⟨fun _ => ⟨by omega, h1⟩, fun _ => rfl⟩
    · rw [if_neg h1]
      refine ⟨fun z => ?_, fun z => absurd z.2 h1⟩
      split at z
      · exact absurd z (by decide)
      · split at z
        · rename_i h3
          rcases h3.1 with e | e <;> rw [e] at z <;> exact absurd z (by decide)
        · exact absurd z hh.2.1
theorem cL_cD {c : Int32} (h : cL c) : ¬ cD c := by
  intro g
  rcases h with h | h
  · exact absurd (Int32.le_trans h.1 g.2) (by decide)
  · exact absurd (Int32.le_trans h.1 g.2) (by decide)
theorem tw_D {q : Nat} (h8 : fit8 f) : tw f n q = -3 ↔ q < n ∧ cD (f q) := by
  have hh := sx_no h8 (j := q)
  unfold tw
  by_cases h0 : n ≤ q
  · rw [if_pos h0]; exact ⟨fun z => absurd z (by decide), fun z => absurd z.1 (by omega)⟩
  · rw [if_neg h0]
    by_cases h1 : cL (f q)
    · rw [if_pos h1]; exact ⟨fun z => absurd z (by decide), fun z => absurd z.2 (cL_cD h1)⟩
    · rw [if_neg h1]
      by_cases h2 : cD (f q)
      · rw [if_pos h2]; exact ⟨fun _ => ⟨by omega, h2⟩, fun _ => rfl⟩
      · rw [if_neg h2]
        refine ⟨fun z => ?_, fun z => absurd z.2 h2⟩
        split at z
        · rename_i h3
          rcases h3.1 with e | e <;> rw [e] at z <;> exact absurd z (by decide)
        · exact absurd z hh.2.2.1
/-- a sign of its own: no letter, no digit, no bound -/
theorem tw_c {q : Nat} {c : Int32} (h8 : fit8 f) (hL : ¬ cL c) (hD : ¬ cD c) (h60 : c ≠ 60) (h62 : c ≠ 62) (h0 : 0 < c) (h1 : c < 256) : tw f n q = c ↔ sgn f n q = c := by
  unfold tw sgn
  by_cases g0 : n ≤ q
  · rw [if_pos g0, if_neg (by omega)]
    refine ⟨fun z => ?_, fun z => ?_⟩
    · rw [← z] at h0; exact absurd h0 (by decide)
    · rw [← z] at h0; exact absurd h0 (by decide)
  · rw [if_neg g0, if_pos (show q < n by omega)]
    by_cases g1 : cL (f q)
    · rw [if_pos g1]
      refine ⟨fun z => ?_, fun z => ?_⟩
      · rw [← z] at h0; exact absurd h0 (by decide)
      · rw [z] at g1; exact absurd g1 hL
    · rw [if_neg g1]
      by_cases g2 : cD (f q)
      · rw [if_pos g2]
        refine ⟨fun z => ?_, fun z => ?_⟩
        · rw [← z] at h0; exact absurd h0 (by decide)
        · rw [z] at g2; exact absurd g2 hD
      · rw [if_neg g2]
        by_cases g3 : bth f n q
        · rw [if_pos g3]
          refine ⟨fun z => ?_, fun z => ?_⟩
          · rcases g3.1 with e | e <;> rw [e] at z <;> rw [← z] at h1 <;> exact absurd h1 (by decide)
          · rcases g3.1 with e | e
            · exact absurd (z.symm.trans e) h60
            · exact absurd (z.symm.trans e) h62
        · rw [if_neg g3]
theorem te_c {q : Nat} {c : Int32} (hL : ¬ cL c) (hD : ¬ cD c) (h60 : c ≠ 60) (h62 : c ≠ 62) (h0 : c ≠ 0) (h : sgn f n q = c) : q < n ∧ te f n q = q + 1 := by
  have hq := sgn_0 h0 h
  have e : f q = c := (if_pos hq).symm.trans h
  refine ⟨hq, ?_⟩
  unfold te
  rw [if_neg (by omega), if_neg (by rw [e]; exact hL), if_neg (by rw [e]; exact hD), if_neg (fun z => z.1.elim (fun z => h60 (e.symm.trans z)) (fun z => h62 (e.symm.trans z)))]
/-- a sign that must come: not wrong yet -/
theorem m_sign {c : Int32} (hN : 2001 ≤ N) (h : tkW s f n k) (h7 : s.1 7 = 0) (hL : ¬ cL c) (hD : ¬ cD c) (h60 : c ≠ 60) (h62 : c ≠ 62) (h0 : 0 < c) (h1 : c < 256) :
    if sgn f n (sp f n k) = c then ∃ s', (f_MD_sign N m c).1 (ov M m s) = some ((), ov M m s') ∧ tkS s' f n (sp f n k + 1) ∧ kp s s' ∧ s'.1 7 = 0 ∧ s'.1 45 = s.1 45
    else ∃ s', (f_MD_sign N m c).1 (ov M m s) = some ((), ov M m s') ∧ kp s s' ∧ s'.1 7 = wr (sp f n k) ∧ s'.1 45 = s.1 45 := by
  obtain ⟨hS, h3, h5, h4, hk⟩ := h
  have hc := tw_c (f := f) (n := n) (q := sp f n k) hS.2.2.1 hL hD h60 h62 h0 h1
  rw [e_MD_sign]
  by_cases g : sgn f n (sp f n k) = c
  · rw [if_pos g]
    obtain ⟨q1, q2⟩ := te_c (f := f) (n := n) hL hD h60 h62 (fun z => by rw [z] at h0; exact absurd h0 (by decide)) g
    obtain ⟨s', r1, r2, r3, r4, r5⟩ := m_nextK (M := M) (m := m) hN hS (h4.trans (by rw [q2])) (by omega)
    refine ⟨s', ?_, r2, r3, r4.trans h7, r5⟩
    simp only [mI_is, r_callE, m_isWrong, Option.bind_some, h7, not_true_eq_false, bI, if_false, if_true, mI_5, h5, hc.mpr g, r1, r_ret]
  · rw [if_neg g]
    refine ⟨(va_up s.1 7 (wr (sp f n k)), s.2), ?_, kp_up (Or.inl (by omega)), rfl, rfl⟩
    have g' : ¬ tw f n (sp f n k) = c := fun z => g (hc.mp z)
    simp only [mI_is, r_callE, m_isWrong, Option.bind_some, h7, not_true_eq_false, bI, if_false, if_true, mI_5, h5, g', mI_3, h3, m_fail0 h7, r_ret]
    rfl
theorem m_signW {c : Int32} (h7 : ¬ s.1 7 = 0) : (f_MD_sign N m c).1 (ov M m s) = some ((), ov M m s) := by
  rw [e_MD_sign]
  simp only [mI_is, r_callE, m_isWrong, Option.bind_some, h7, not_false_eq_true, bI, if_true, show ¬ (1 : Int32) = 0 by decide, if_false, r_ret]
theorem lN_dig2 {x d : Nat} (hd : d < 2 ^ 20) : 10 * lN x + (nI (48 + d)).toInt64 - 48 = lN (x * 10 + d) := by
  rw [show (10 : Int64) * lN x = lN x * 10 from Int64.mul_comm _ _]; exact lN_dig hd
theorem m_number_76 (hN : 2001 ≤ N) {q e : Nat} (hS : tS s f n) (h4 : s.1 4 = nI e) (he : e ≤ n) (hd : ∀ j, q ≤ j → j < e → cD (f j)) : ∀ (d fu i : Nat), d + (q + i) = e → d < fu →
    (f_MD_number_76 N m fu (lN (nv f q i)) (nI (q + i))).1 (ov M m s) = ((f_MD_next N m).1 (ov M m s)).bind (fun Z => some (lN (nv f q (e - q)), Z.2)) := by
  have hn := hS.2.1
  intro d
  induction d with
  | zero =>
    intro fu i hd hfu
    obtain ⟨fu, rfl⟩ : ∃ g, fu = g + 1 := ⟨fu - 1, by omega⟩
    rw [e_MD_number_76]
    have h1 : nI e ≤ nI (q + i) := nI_le (by omega) (by omega)
    simp only [mI_4, h4, h1, if_true, mI_is, r_callE, r_ret]
    rw [show e - q = i by omega]
  | succ d ih =>
    intro fu i hd2 hfu
    obtain ⟨fu, rfl⟩ : ∃ g, fu = g + 1 := ⟨fu - 1, by omega⟩
    rw [e_MD_number_76]
    have h1 : ¬ nI e ≤ nI (q + i) := nI_ge (by omega) (by omega)
    have h2 : ¬ (nI (q + i) < 0 ∨ 2000 ≤ (nI (q + i)).toNatClampNeg) := nI_in (by omega) (by decide)
    have h3 := nI_clamp (n := q + i) (by omega)
    have hc := hd (q + i) (by omega) (by omega)
    have e1 : tx f (q + i) = f (q + i) := sx_id hS.2.2.1 (Or.inr (Or.inl hc))
    obtain ⟨e2, e3⟩ := dv_of hS.2.2.1 hc
    have e4 : 10 * lN (nv f q i) + (f (q + i)).toInt64 - 48 = lN (nv f q (i + 1)) := by
      rw [e2, lN_dig2 (by omega)]; rfl
    simp only [mI_4, h4, h1, if_false, mR_1, r_nn, mA_1 h2, h3, hS.2.2.2, e1, e4, nI_1]
    exact ih fu (i + 1) (by omega) (by omega)
end NUMR
