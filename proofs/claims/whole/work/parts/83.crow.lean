/-! LAYER 2: the class's rows -/
/-- a row object at b; y is its WHY -/
def rwA (D : Nat) (M : hM) (b : Nat) (a : aR) (y : Int32) : Prop := (D ≤ b ∧ b < M.2.1) ∧ ∃ nb ob, M.1 b = some (.inr (7, [.int (nI a.1), .int a.2.1, .ref nb, va_rf ob, .long a.2.2.2.2.1, .long a.2.2.2.2.2.1, .int (bZ a.2.2.2.2.2.2), .int y])) ∧ nmA D M nb a.2.2.1 ∧ (a.2.2.2.1 = [] → ob = none) ∧ (a.2.2.2.1 ≠ [] → ∃ c, ob = some c ∧ nmA D M c a.2.2.2.1)
section CROW
variable {N D : Nat} {M M' M'' : hM} {b b' : Nat} {x y : aR} {u u' : Int32}
theorem rwA.f (h : rwA D M b x u) (g : dfr D M M') : rwA D M' b x u := by
  obtain ⟨h0, nb, ob, h1, h2, h3, h4⟩ := h
  have := g.1
  refine ⟨⟨h0.1, by omega⟩, nb, ob, (g.2 b h0.1 h0.2).trans h1, h2.f g, h3, fun z => ?_⟩
  obtain ⟨c, e1, e2⟩ := h4 z
  exact ⟨c, e1, e2.f g⟩
theorem rwA.cell (h : rwA D M b x u) : ∃ fs, M.1 b = some (.inr (7, fs)) := by
  obtain ⟨_, nb, ob, h1, _⟩ := h
  exact ⟨_, h1⟩
theorem s_Roworder (hN : 2001 ≤ N) (wx : wfA x) (wy : wfA y) (h : rwA D M b x u) (h' : rwA D M b' y u') : (f_Row_order N b (some b')).1 M = some (ordR x y, M) := by
  obtain ⟨_, nb, ob, h1, h2, h3, h4⟩ := h
  obtain ⟨_, nb', ob', g1, g2, g3, g4⟩ := h'
  have kx := wx.1
  have ky := wy.1
  have nm := s_order (N := N) hN wx.2.1 wy.2.1 h2 g2
  have nmc : ∃ fs, M.1 nb = some (.inr (2, fs)) := by obtain ⟨_, _, _, _, _, q, _⟩ := h2; exact ⟨_, q⟩
  obtain ⟨fs, nmc⟩ := nmc
  rw [e_Row_order, r_let]
  have J83 : (b_getR b 7 2 (fun r1 => b_nn (some b') (fun a2 => b_getR a2 7 2 (fun r3 => b_nn r1 (fun a4 => b_is a4 2 (b_call (f_Name_order N a4 r3) (fun v5 => b_ret v5))))))).1 M = some (cmpN x.2.2.1 y.2.2.1, M) := by
    refine (r_getR (r := some nb) h1 rfl).trans (r_nn.trans ((r_getR (r := some nb') g1 rfl).trans (r_nn.trans ((r_is nmc).trans ?_))))
    rw [r_callE, nm, Option.bind_some]; rfl
  refine (r_getI h1 rfl).trans (r_nn.trans ((r_getI g1 rfl).trans ?_))
  unfold ordR
  by_cases d1 : x.1 = y.1
  · rw [r_if_t (show nI x.1 = nI y.1 by rw [d1]), if_pos d1]
    refine (r_getI h1 rfl).trans ((r_getI g1 rfl).trans ?_)
    by_cases d2 : x.2.1 = y.2.1
    · rw [r_if_t d2, if_pos d2]
      refine (r_getI h1 rfl).trans ?_
      by_cases d9 : x.1 = 9
      · rw [r_if_t (show nI x.1 = 9 by rw [d9]; rfl), if_pos d9]
        obtain ⟨c, e1, e2⟩ := h4 (wx.2.2.2.2.1.mp (Or.inl d9))
        obtain ⟨c', e1', e2'⟩ := g4 (wy.2.2.2.2.1.mp (Or.inl (by rw [← d1]; exact d9)))
        subst e1 e1'
        have no := s_order (N := N) hN wx.2.2.2.1 wy.2.2.2.1 e2 e2'
        have noc : ∃ fs, M.1 c = some (.inr (2, fs)) := by obtain ⟨_, _, _, _, _, q, _⟩ := e2; exact ⟨_, q⟩
        obtain ⟨fs', noc⟩ := noc
        refine (r_getR (r := some c) h1 rfl).trans ?_
        rw [r_if_f (by simp)]
        refine (r_getR (r := some c') g1 rfl).trans ?_
        rw [r_if_f (by simp)]
        refine (r_getR (r := some c) h1 rfl).trans ((r_getR (r := some c') g1 rfl).trans (r_nn.trans ((r_is noc).trans ?_)))
        rw [r_callE, no, Option.bind_some]
        by_cases d : cmpN x.2.2.2.1 y.2.2.2.1 = 0
        · rw [r_if_t d, if_pos d]; exact J83
        · rw [r_if_f d, if_neg d]; rfl
      · rw [r_if_f (show ¬ nI x.1 = 9 from fun z => d9 ((nI_eq (b := 9) (by omega) (by omega)).mp z)), if_neg d9, if_pos rfl]
        exact J83
    · rw [r_if_f d2, if_neg d2]
      exact (r_getI h1 rfl).trans ((r_getI g1 rfl).trans rfl)
  · rw [r_if_f (show ¬ nI x.1 = nI y.1 from fun z => d1 ((nI_eq (by omega) (by omega)).mp z)), if_neg d1]
    exact (r_getI h1 rfl).trans ((r_getI g1 rfl).trans rfl)
theorem s_isList {k : Nat} (hk : k < 16) : (f_Kind_isList N (nI k)).1 M = some (bZ (decide (9 < k ∧ k < 14)), M) := by
  rw [e_Kind_isList, r_let, r_let]
  by_cases c1 : k < 10
  · rw [r_if_t (show nI k < 10 from nI_lt (b := 10) c1 (by omega)), decide_eq_false (by omega)]; exact rZ0
  · rw [r_if_f (show ¬ nI k < 10 from nI_nlt (b := 10) (by omega) (by omega))]
    by_cases c2 : 13 < k
    · rw [r_if_t (show 13 < nI k from nI_lt (a := 13) c2 (by omega)), decide_eq_false (by omega)]; exact rZ0
    · rw [r_if_f (show ¬ 13 < nI k from nI_nlt (a := 13) (by omega) (by omega)), decide_eq_true (by omega)]; exact rZ1
theorem s_hasRange {k : Nat} (hk : k < 16) : (f_Kind_hasRange N (nI k)).1 M = some (bZ (decide (k < 7 ∨ k = 8)), M) := by
  rw [e_Kind_hasRange, r_let, r_let]
  by_cases c1 : k < 7
  · rw [r_if_t (show nI k ≤ 6 from nI_le (b := 6) (by omega) (by omega)), decide_eq_true (Or.inl c1)]; exact rZ1
  · rw [r_if_f (show ¬ nI k ≤ 6 from nI_ge (a := 6) (by omega) (by omega))]
    by_cases c2 : k = 8
    · rw [r_if_t (show nI k = 8 by rw [c2]; rfl), decide_eq_true (Or.inr c2)]; exact rZ1
    · rw [r_if_f (show ¬ nI k = 8 from fun z => c2 ((nI_eq (b := 8) (by omega) (by omega)).mp z)), decide_eq_false (by omega)]; exact rZ0
theorem s_emptyRange {y0 y1 y2 y3 y4 : Value} {l1 l2 : Int64} (wx : wfA x) (h : M.1 b = some (.inr (7, [.int (nI x.1), y0, y1, y2, .long l1, .long l2, y3, y4]))) : (f_Row_hasEmptyRange N b).1 M = some (bZ (decide ((x.1 < 7 ∨ x.1 = 8) ∧ ¬ l1 < l2)), M) := by
  rw [e_Row_hasEmptyRange, r_let, r_let]
  refine (r_getI h rfl).trans ?_
  rw [r_callE, s_hasRange wx.1, Option.bind_some]
  by_cases c : x.1 < 7 ∨ x.1 = 8
  · rw [decide_eq_true c, r_if_f (show ¬ bZ true = 0 by decide)]
    refine (r_getL h rfl).trans ((r_getL h rfl).trans ?_)
    by_cases d : l1 < l2
    · rw [r_if_t (lg_lt.mpr d), decide_eq_false (fun z => z.2 d)]; exact rZ0
    · rw [r_if_f (fun z => d (lg_lt.mp z)), decide_eq_true ⟨c, d⟩]; exact rZ1
  · rw [decide_eq_false c, r_if_t (show bZ false = 0 by decide), decide_eq_false (fun z => c z.1)]; exact rZ0
theorem s_Kjoins {k : Nat} (hk : k < 16) : (f_Kind_joins N (nI k)).1 M = some (bZ (decide (k < 7 ∨ (9 < k ∧ k < 14))), M) := by
  rw [e_Kind_joins, r_let, r_let]
  by_cases c1 : k < 7
  · rw [r_if_t (show nI k ≤ 6 from nI_le (b := 6) (by omega) (by omega)), decide_eq_true (Or.inl c1)]; exact rZ1
  · rw [r_if_f (show ¬ nI k ≤ 6 from nI_ge (a := 6) (by omega) (by omega)), r_callE, s_isList hk, Option.bind_some]
    by_cases c2 : 9 < k ∧ k < 14
    · rw [decide_eq_true c2, r_if_f (show ¬ bZ true = 0 by decide), decide_eq_true (Or.inr c2)]; exact rZ1
    · rw [decide_eq_false c2, r_if_t (show bZ false = 0 by decide), decide_eq_false (by omega)]; exact rZ0
theorem s_Rjoins (hN : 2001 ≤ N) (wx : wfA x) (wy : wfA y) (h : rwA D M b x u) (h' : rwA D M b' y u') : (f_Row_joins N b (some b')).1 M = some (@bI (joR x y) (Classical.propDecidable _), M) := by
  have ho := s_Roworder (N := N) hN wx wy h h'
  obtain ⟨_, nb, ob, h1, h2, h3, h4⟩ := h
  rw [e_Row_joins, r_let, r_let]
  refine (r_getI h1 rfl).trans ?_
  rw [r_callE, s_Kjoins wx.1, Option.bind_some]
  by_cases c : x.1 < 7 ∨ (9 < x.1 ∧ x.1 < 14)
  · rw [decide_eq_true c, r_if_f (show ¬ bZ true = 0 by decide), r_is h1, r_callE, ho, Option.bind_some]
    by_cases d : ordR x y = 0
    · rw [r_if_t d, @bI_t (joR x y) (Classical.propDecidable _) ⟨c, d⟩]; exact rZ1
    · rw [r_if_f d, @bI_f (joR x y) (Classical.propDecidable _) (fun z => d z.2)]; exact rZ0
  · rw [decide_eq_false c, r_if_t (show bZ false = 0 by decide), @bI_f (joR x y) (Classical.propDecidable _) (fun z => c z.1)]; exact rZ0
end CROW
