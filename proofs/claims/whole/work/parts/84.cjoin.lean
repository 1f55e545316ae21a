/-! LAYER 2: two rows joined, in the class -/
section CJOIN
variable {N D : Nat} {M M' M'' : hM} {b b' : Nat} {x y : aR} {u u' : Int32}
theorem i_sub0 {a b : Int32} (h : a - b = 0) : a = b := by
  have : a - b + b = 0 + b := by rw [h]
  rw [Int32.sub_add_cancel, Int32.zero_add] at this
  exact this
theorem ordR_kind (hx : x.1 < 16) (hy : y.1 < 16) (h : ordR x y = 0) : x.1 = y.1 ∧ x.2.1 = y.2.1 := by
  unfold ordR at h
  split at h
  · rename_i c
    split at h
    · rename_i d; exact ⟨c, d⟩
    · exact ⟨c, i_sub0 h⟩
  · exact absurd ((nI_eq (by omega) (by omega)).mp (i_sub0 h)) (by assumption)
theorem l_nlt {x y : Int64} (h : ¬ x < y) : y ≤ x := Int64.not_lt.mp h
theorem jlo_c : (if y.2.2.2.2.1 < x.2.2.2.2.1 then x.2.2.2.2.1 else y.2.2.2.2.1) = jlo x y := by
  unfold jlo
  by_cases c : y.2.2.2.2.1 < x.2.2.2.2.1
  · rw [if_pos c, if_neg (Int64.not_le.mpr c)]
  · rw [if_neg c, if_pos (l_nlt c)]
theorem jhi_c : (if y.2.2.2.2.2.1 < x.2.2.2.2.2.1 then y.2.2.2.2.2.1 else x.2.2.2.2.2.1) = jhi x y := by
  unfold jhi
  by_cases c : y.2.2.2.2.2.1 < x.2.2.2.2.2.1
  · rw [if_pos c, if_pos (Int64.le_of_lt c)]
  · rw [if_neg c]
    by_cases d : y.2.2.2.2.2.1 ≤ x.2.2.2.2.2.1
    · rw [if_pos d]; exact Int64.le_antisymm (l_nlt c) d
    · rw [if_neg d]
theorem wfA_jn (wx : wfA x) (wy : wfA y) (h : joR x y) : wfA (jnR x y) := by
  obtain ⟨e1, e2⟩ := ordR_kind wx.1 wy.1 h.2
  obtain ⟨a1, a2, a3, a4, a5, a6, a7, a8⟩ := wx
  refine ⟨a1, a2, a3, a4, a5, a6, a7, ?_⟩
  obtain ⟨r1, r2, r3, r4⟩ := a8
  obtain ⟨s1, s2, s3, s4⟩ := wy.2.2.2.2.2.2.2
  refine ⟨fun z => ?_, fun z => ?_, fun z => ?_, fun z z2 => ?_⟩
  · have z' : x.1 < 7 ∨ x.1 = 8 := z
    by_cases k7 : x.1 < 7
    · obtain ⟨lo, hi, l1, l2, l3⟩ := r1 (Or.inl k7)
      obtain ⟨lo', hi', m1, m2, m3⟩ := s1 (Or.inl (by rw [← e1]; exact k7))
      have p : (10 : Nat) ^ 18 < 2 ^ 63 := by decide
      show ∃ lo hi : Nat, (if x.1 < 7 then (if jlo x y < jhi x y then jlo x y else 0) else x.2.2.2.2.1) = lN lo ∧ (if x.1 < 7 then (if jlo x y < jhi x y then jhi x y else 0) else x.2.2.2.2.2.1) = lN hi ∧ _
      rw [if_pos k7, if_pos k7]
      have ejl : jlo x y = lN (max lo lo') := by
        unfold jlo
        rw [l1, m1]
        by_cases c : lo ≤ lo'
        · rw [if_pos ((lN_leB (by omega) (by omega)).mpr c), Nat.max_eq_right c]
        · rw [if_neg (fun z => c ((lN_leB (by omega) (by omega)).mp z)), Nat.max_eq_left (by omega)]
      have ejh : jhi x y = lN (min hi hi') := by
        unfold jhi
        rw [l2, m2]
        by_cases c : hi' ≤ hi
        · rw [if_pos ((lN_leB (by omega) (by omega)).mpr c), Nat.min_eq_right c]
        · rw [if_neg (fun z => c ((lN_leB (by omega) (by omega)).mp z)), Nat.min_eq_left (by omega)]
      rw [ejl, ejh]
      by_cases c : max lo lo' < min hi hi'
      · rw [if_pos ((pk_lLT (by omega) (by omega)).mpr c), if_pos ((pk_lLT (by omega) (by omega)).mpr c)]
        exact ⟨_, _, rfl, rfl, Or.inl ⟨c, by omega⟩⟩
      · rw [if_neg (fun z => c ((pk_lLT (by omega) (by omega)).mp z)), if_neg (fun z => c ((pk_lLT (by omega) (by omega)).mp z))]
        exact ⟨0, 0, rfl, rfl, Or.inr ⟨rfl, rfl⟩⟩
    · have := h.1; omega
  · have z' : x.1 = 7 := z
    have := h.1; omega
  · have z' : x.1 = 15 := z
    have := h.1; omega
  · have k7 : ¬ x.1 < 7 := by have : 8 < x.1 := z; omega
    show (if x.1 < 7 then _ else x.2.2.2.2.1) = -1 ∧ (if x.1 < 7 then _ else x.2.2.2.2.2.1) = -1
    rw [if_neg k7, if_neg k7]; exact r4 z z2
/-- where a row's names lie, its own cell doesn't -/
theorem nmA_ne {w : List Int32} {fs : List Value} (h : M.1 b = some (.inr (7, fs))) (g : nmA D M b' w) {e : va_E} : nmA D (hm_up M b e) b' w := by
  obtain ⟨p1, p2, a, c, d, h1, h2, h3⟩ := g
  refine ⟨p1, p2, a, c, d, ?_, ?_, ?_⟩
  · exact (up_n (fun z => by rw [z, h] at h1; cases h1)).trans h1
  · exact (up_n (fun z => by rw [z, h] at h2; cases h2)).trans h2
  · exact (up_n (fun z => by rw [z, h] at h3; cases h3)).trans h3
theorem rwA_ne {fs : List Value} (h : M.1 b = some (.inr (7, fs))) (g : rwA D M b' y u') (hne : b' ≠ b) {e : va_E} : rwA D (hm_up M b e) b' y u' := by
  obtain ⟨h0, nb, ob, h1, h2, h3, h4⟩ := g
  refine ⟨h0, nb, ob, (up_n hne).trans h1, nmA_ne h h2, h3, fun z => ?_⟩
  obtain ⟨c, e1, e2⟩ := h4 z
  exact ⟨c, e1, nmA_ne h e2⟩
theorem s_Rjoin (hN : 2001 ≤ N) (wx : wfA x) (wy : wfA y) (hj : joR x y) (hne : b' ≠ b) (h : rwA D M b x u) (h' : rwA D M b' y u') : ∃ e, (f_Row_join N b (some b')).1 M = some ((), hm_up M b e) ∧ rwA D (hm_up M b e) b (jnR x y) u := by
  obtain ⟨k1, k2⟩ := ordR_kind wx.1 wy.1 hj.2
  obtain ⟨h0, nb, ob, h1, h2, h3, h4⟩ := h
  obtain ⟨_, nb', ob', g1, g2, g3, g4⟩ := h'
  have hwr := s_written (N := N) hN wx.2.1 wy.2.1 h2 g2
  have nmc : ∃ fs, M.1 nb = some (.inr (2, fs)) := by obtain ⟨_, _, _, _, _, q, _⟩ := h2; exact ⟨_, q⟩
  obtain ⟨fs, nmc⟩ := nmc
  -- the range, from any cell on
  have rest : ∀ (M1 : hM) (mx : Int32), M1 = hm_up M b (.inr (7, [.int (nI x.1), .int x.2.1, .ref nb, va_rf ob, .long x.2.2.2.2.1, .long x.2.2.2.2.2.1, .int mx, .int u])) → (b_getL b 7 4 (fun v1 => b_nn (some b') (fun a2 => b_getL a2 7 4 (fun v3 => b_put b 7 4 (.long (if v3 < v1 then v1 else v3)) (b_getL b 7 5 (fun v4 => b_getL a2 7 5 (fun v5 => b_put b 7 5 (.long (if v5 < v4 then v5 else v4)) (b_is b 7 (b_call (f_Row_hasEmptyRange N b) (fun v6 => (if v6 = 0 then b_ret () else b_put b 7 4 (.long 0) (b_put b 7 5 (.long 0) (b_ret ()))))))))))))).1 M1 = some ((), hm_up M b (.inr (7, [.int (nI x.1), .int x.2.1, .ref nb, va_rf ob, .long (jnR x y).2.2.2.2.1, .long (jnR x y).2.2.2.2.2.1, .int mx, .int u]))) := by
    intro M1 mx e1
    subst e1
    have c0 : (hm_up M b (.inr (7, [.int (nI x.1), .int x.2.1, .ref nb, va_rf ob, .long x.2.2.2.2.1, .long x.2.2.2.2.2.1, .int mx, .int u]))).1 b = some (.inr (7, [.int (nI x.1), .int x.2.1, .ref nb, va_rf ob, .long x.2.2.2.2.1, .long x.2.2.2.2.2.1, .int mx, .int u])) := up_s
    refine (r_getL c0 rfl).trans (r_nn.trans ((r_getL ((up_n hne).trans g1) rfl).trans ((r_put c0 (Nat.le_of_ble_eq_true rfl)).trans ?_)))
    rw [up_up, jlo_c]
    have c1 : (hm_up M b (.inr (7, [.int (nI x.1), .int x.2.1, .ref nb, va_rf ob, .long (jlo x y), .long x.2.2.2.2.2.1, .int mx, .int u]))).1 b = some (.inr (7, [.int (nI x.1), .int x.2.1, .ref nb, va_rf ob, .long (jlo x y), .long x.2.2.2.2.2.1, .int mx, .int u])) := up_s
    refine (r_getL c1 rfl).trans ((r_getL ((up_n hne).trans g1) rfl).trans ((r_put c1 (Nat.le_of_ble_eq_true rfl)).trans ?_))
    rw [up_up, jhi_c]
    have c2 : (hm_up M b (.inr (7, [.int (nI x.1), .int x.2.1, .ref nb, va_rf ob, .long (jlo x y), .long (jhi x y), .int mx, .int u]))).1 b = some (.inr (7, [.int (nI x.1), .int x.2.1, .ref nb, va_rf ob, .long (jlo x y), .long (jhi x y), .int mx, .int u])) := up_s
    refine (r_is c2).trans (r_callE.trans ?_)
    rw [s_emptyRange wx c2, Option.bind_some]
    by_cases k7 : x.1 < 7
    · have e4 : (jnR x y).2.2.2.2.1 = if jlo x y < jhi x y then jlo x y else 0 := if_pos k7
      have e5 : (jnR x y).2.2.2.2.2.1 = if jlo x y < jhi x y then jhi x y else 0 := if_pos k7
      rw [e4, e5]
      by_cases c : jlo x y < jhi x y
      · rw [decide_eq_false (fun z => z.2 c), r_if_t (show bZ false = 0 by decide), if_pos c, if_pos c]; rfl
      · rw [decide_eq_true ⟨Or.inl k7, c⟩, r_if_f (show ¬ bZ true = 0 by decide), if_neg c, if_neg c]
        refine (r_put c2 (Nat.le_of_ble_eq_true rfl)).trans ?_
        rw [up_up]
        refine (r_put up_s (Nat.le_of_ble_eq_true rfl)).trans ?_
        rw [up_up]; rfl
    · have k8 : ¬ (x.1 < 7 ∨ x.1 = 8) := by have := hj.1; omega
      rw [decide_eq_false (fun z => k8 z.1), r_if_t (show bZ false = 0 by decide)]
      have kr : 8 < x.1 ∧ x.1 < 15 := by have := hj.1; omega
      obtain ⟨a1, a2⟩ := wx.2.2.2.2.2.2.2.2.2.2 kr.1 kr.2
      obtain ⟨b1, b2⟩ := wy.2.2.2.2.2.2.2.2.2.2 (by omega) (by omega)
      have e4 : (jnR x y).2.2.2.2.1 = jlo x y := by
        show (if x.1 < 7 then _ else x.2.2.2.2.1) = _
        rw [if_neg k7]; unfold jlo; rw [a1, b1]; rfl
      have e5 : (jnR x y).2.2.2.2.2.1 = jhi x y := by
        show (if x.1 < 7 then _ else x.2.2.2.2.2.1) = _
        rw [if_neg k7]; unfold jhi; rw [a2, b2]; rfl
      rw [e4, e5]; rfl
  refine ⟨.inr (7, [.int (nI x.1), .int x.2.1, .ref nb, va_rf ob, .long (jnR x y).2.2.2.2.1, .long (jnR x y).2.2.2.2.2.1, .int (bZ (jnR x y).2.2.2.2.2.2), .int u]), ?_, ⟨h0, nb, ob, up_s, nmA_ne h1 h2, h3, fun z => ?_⟩⟩
  · rw [e_Row_join, r_let]
    refine (r_getR (r := some nb) h1 rfl).trans (r_nn.trans ((r_getR (r := some nb') g1 rfl).trans (r_nn.trans ((r_is nmc).trans (r_callE.trans ?_)))))
    rw [hwr, Option.bind_some]
    have em : (jnR x y).2.2.2.2.2.2 = (x.2.2.2.2.2.2 || !(x.2.2.1 == y.2.2.1)) := rfl
    rw [em]
    cases hw : (x.2.2.1 == y.2.2.1) with
    | true =>
      rw [r_if_f (show ¬ bZ true = 0 by decide), Bool.not_true, Bool.or_false]
      exact rest M (bZ x.2.2.2.2.2.2) (up_self h1).symm
    | false =>
      rw [r_if_t (show bZ false = 0 by decide), Bool.not_false, Bool.or_true]
      refine (r_putN h1 (Nat.le_of_ble_eq_true rfl) (by decide) (by decide)).trans ?_
      exact rest _ 1 rfl
  · obtain ⟨c, e1, e2⟩ := h4 z
    exact ⟨c, e1, nmA_ne h1 e2⟩
end CJOIN
