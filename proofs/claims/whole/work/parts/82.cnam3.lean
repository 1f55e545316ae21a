/-! LAYER 2: the class's names: ordered, compared -/
section CNAM3
variable {N D : Nat} {M M' M'' : hM} {b b' : Nat} {w w' : List Int32}
theorem nmA_l (hw : wfN w) : (fold w).length ≤ w.length ∧ w.length ≤ 20 := ⟨fd_len w false, hw.1⟩
theorem s_ord_loop (hw : wfN w) (hw' : wfN w') (h : nmA D M b w) (h' : nmA D M b' w') : ∀ (d fu i : Nat), d + i = min (fold w).length (fold w').length → d < fu → (f_Name_order_14 N b (some b') fu (nI (min (fold w).length (fold w').length)) (nI i)).1 M = some (cmpL ((fold w).drop i) ((fold w').drop i), M) := by
  obtain ⟨p1, p2, _, _, _, h1, h2, h3⟩ := h
  obtain ⟨q1, q2, _, _, _, g1, g2, g3⟩ := h'
  have l1 := nmA_l hw
  have l2 := nmA_l hw'
  intro d
  induction d with
  | zero =>
    intro fu i hd hfu
    obtain ⟨fu, rfl⟩ : ∃ g, fu = g + 1 := ⟨fu - 1, by omega⟩
    have e : cmpL ((fold w).drop i) ((fold w').drop i) = nI (fold w).length - nI (fold w').length := by
      rw [cmpL_nil, List.length_drop, List.length_drop]
      · have := nI_sub_c (a := (fold w).length - i) (b := (fold w').length - i) (k := i)
        rw [show i + ((fold w).length - i) = (fold w).length by omega, show i + ((fold w').length - i) = (fold w').length by omega] at this
        exact this.symm
      · by_cases c : (fold w).length ≤ i
        · left; exact List.drop_eq_nil_of_le c
        · right; exact List.drop_eq_nil_of_le (by omega)
    rw [e, e_Name_order_14, r_if_t (show nI (min (fold w).length (fold w').length) ≤ nI i from nI_le (by omega) (by omega))]
    refine (r_getI h1 rfl).trans (r_nn.trans ((r_getI g1 rfl).trans rfl))
  | succ d ih =>
    intro fu i hd hfu
    obtain ⟨fu, rfl⟩ : ∃ g, fu = g + 1 := ⟨fu - 1, by omega⟩
    have i1 : ¬ (nI i < 0 ∨ w.length ≤ (nI i).toNatClampNeg) := nI_in (by omega) (by omega)
    have i2 : ¬ (nI i < 0 ∨ w'.length ≤ (nI i).toNatClampNeg) := nI_in (by omega) (by omega)
    have c1 := nI_clamp (n := i) (by omega)
    rw [e_Name_order_14, r_if_f (show ¬ nI (min (fold w).length (fold w').length) ≤ nI i from nI_ge (by omega) (by omega))]
    rw [drop_cons (w := fold w) (i := i) (by omega), drop_cons (w := fold w') (i := i) (by omega)]
    refine (r_getR (r := some p2) h1 rfl).trans (r_nn.trans ((r_ald h3 i1).trans (r_nn.trans ((r_getR (r := some q2) g1 rfl).trans (r_nn.trans ((r_ald g3 i2).trans ?_))))))
    rw [c1]
    show _ = some (if (fold w).getD i 0 = (fold w').getD i 0 then _ else _, M)
    by_cases c : (fold w).getD i 0 = (fold w').getD i 0
    · rw [r_if_t c, if_pos c, nI_1]
      exact ih fu (i + 1) (by omega) (by omega)
    · rw [r_if_f c, if_neg c]
      refine (r_getR (r := some p2) h1 rfl).trans (r_nn.trans ((r_ald h3 i1).trans ((r_getR (r := some q2) g1 rfl).trans (r_nn.trans ((r_ald g3 i2).trans ?_)))))
      rw [c1]
      rfl
theorem s_order (hN : 2001 ≤ N) (hw : wfN w) (hw' : wfN w') (h : nmA D M b w) (h' : nmA D M b' w') : (f_Name_order N b (some b')).1 M = some (cmpN w w', M) := by
  have h0 := h
  have h0' := h'
  obtain ⟨p1, p2, _, _, _, h1, h2, h3⟩ := h
  obtain ⟨q1, q2, _, _, _, g1, g2, g3⟩ := h'
  have l1 := nmA_l hw
  have l2 := nmA_l hw'
  rw [e_Name_order]
  refine (r_getI h1 rfl).trans (r_nn.trans ((r_getI g1 rfl).trans ?_))
  have e : (if nI (fold w').length < nI (fold w).length then nI (fold w').length else nI (fold w).length) = nI (min (fold w).length (fold w').length) := by
    by_cases c : (fold w').length < (fold w).length
    · rw [if_pos (nI_lt c (by omega)), Nat.min_eq_right (by omega)]
    · rw [if_neg (nI_nlt (by omega) (by omega)), Nat.min_eq_left (by omega)]
  rw [e]
  exact s_ord_loop hw hw' h0 h0' (min (fold w).length (fold w').length) N 0 (by omega) (by omega)
theorem s_foldsLike (hN : 2001 ≤ N) (hw : wfN w) (hw' : wfN w') (h : nmA D M b w) (h' : nmA D M b' w') : (f_Name_foldsLike N b (some b')).1 M = some (bZ (cmpN w w' == 0), M) := by
  have h1 := s_order (N := N) hN hw hw' h h'
  obtain ⟨p1, p2, _, _, _, g1, _, _⟩ := h
  rw [e_Name_foldsLike, r_let, r_is g1, r_callE, h1, Option.bind_some]
  by_cases c : cmpN w w' = 0
  · rw [r_if_t c, show (cmpN w w' == 0) = true from by rw [beq_iff_eq]; exact c]; exact rZ1
  · rw [r_if_f c, show (cmpN w w' == 0) = false from by rw [beq_eq_false_iff_ne]; exact c]; exact rZ0
/-- an array of names -/
def nmsA (D : Nat) (M : hM) (g : Nat → Option Nat) (fs : List (List Int32)) : Prop := ∀ i x, fs[i]? = some x → ∃ c, g i = some c ∧ nmA D M c x ∧ wfN x
theorem nmsA.f {g : Nat → Option Nat} {fs : List (List Int32)} (h : nmsA D M g fs) (e : dfr D M M') : nmsA D M' g fs := fun i x hx => by
  obtain ⟨c, a, b, d⟩ := h i x hx
  exact ⟨c, a, b.f e, d⟩
theorem s_oneOf_loop {pa Z : Nat} {g : Nat → Option Nat} {fs : List (List Int32)} (hN : 2001 ≤ N) (hw : wfN w) (h : nmA D M b w) (ha : M.1 pa = some (.inl (3, Z, .inr (.inr (.inr (.inr g)))))) (hZ : fs.length ≤ Z) (hZ2 : Z < 2 ^ 31) (hg : nmsA D M g fs) : ∀ (d fu i : Nat), d + i = fs.length → d < fu → (f_Name_foldsLikeOneOf_2 N b (some pa) (nI fs.length) fu (nI i)).1 M = some (bZ (hasF w (fs.drop i)), M) := by
  intro d
  induction d with
  | zero =>
    intro fu i hd hfu
    obtain ⟨fu, rfl⟩ : ∃ g, fu = g + 1 := ⟨fu - 1, by omega⟩
    rw [List.drop_eq_nil_of_le (by omega), e_Name_foldsLikeOneOf_2, r_if_t (show nI fs.length ≤ nI i from nI_le (by omega) (by omega))]
    exact rZ0
  | succ d ih =>
    intro fu i hd hfu
    obtain ⟨fu, rfl⟩ : ∃ g, fu = g + 1 := ⟨fu - 1, by omega⟩
    have hi : i < fs.length := by omega
    obtain ⟨c, e1, e2, e3⟩ := hg i _ (List.getElem?_eq_getElem hi)
    have i1 : ¬ (nI i < 0 ∨ Z ≤ (nI i).toNatClampNeg) := nI_in (by omega) hZ2
    have c1 := nI_clamp (n := i) (by omega)
    have ho := s_order (N := N) hN hw e3 h e2
    have hb := h
    obtain ⟨p1, p2, _, _, _, g1, _, _⟩ := hb
    rw [List.drop_eq_getElem_cons hi, e_Name_foldsLikeOneOf_2, r_if_f (show ¬ nI fs.length ≤ nI i from nI_ge (by omega) (by omega)), r_nn]
    refine (r_len ha).trans ?_
    rw [r_if_f (show ¬ nI Z ≤ nI i from nI_ge (by omega) hZ2)]
    refine (r_aldR ha i1).trans ?_
    rw [c1, e1, r_is g1, r_callE, ho, Option.bind_some]
    unfold hasF
    rw [List.any_cons]
    by_cases c : cmpN w fs[i] = 0
    · rw [r_if_t c, show (cmpN w fs[i] == 0) = true from by rw [beq_iff_eq]; exact c, Bool.true_or]; exact rZ1
    · rw [r_if_f c, show (cmpN w fs[i] == 0) = false from by rw [beq_eq_false_iff_ne]; exact c, Bool.false_or, nI_1]
      exact ih fu (i + 1) (by omega) (by omega)
theorem s_oneOf {pa Z : Nat} {g : Nat → Option Nat} {fs : List (List Int32)} (hN : 2001 ≤ N) (hw : wfN w) (h : nmA D M b w) (ha : M.1 pa = some (.inl (3, Z, .inr (.inr (.inr (.inr g)))))) (hZ : fs.length ≤ Z) (hZ2 : Z ≤ 2000) (hg : nmsA D M g fs) : (f_Name_foldsLikeOneOf N b (some pa) (nI fs.length)).1 M = some (bZ (hasF w fs), M) := by
  have := s_oneOf_loop (N := N) hN hw h ha hZ (by omega) hg fs.length N 0 (by omega) (by omega)
  rw [List.drop_zero] at this
  rw [e_Name_foldsLikeOneOf]
  exact this
theorem s_wri_loop (hw : wfN w) (h : nmA D M b w) (h' : nmA D M b' w') (hl : w.length = w'.length) : ∀ (d fu i : Nat), d + i = w.length → d < fu → (∀ j, j < i → w.getD j 0 = w'.getD j 0) → (f_Name_isWrittenLike_17 N b (some b') fu (nI i)).1 M = some (bZ (w == w'), M) := by
  obtain ⟨p1, p2, _, _, _, h1, h2, h3⟩ := h
  obtain ⟨q1, q2, _, _, _, g1, g2, g3⟩ := h'
  have l1 := hw.1
  intro d
  induction d with
  | zero =>
    intro fu i hd hfu hj
    obtain ⟨fu, rfl⟩ : ∃ g, fu = g + 1 := ⟨fu - 1, by omega⟩
    rw [e_Name_isWrittenLike_17]
    refine (r_getR (r := some p1) h1 rfl).trans (r_nn.trans ((r_len h2).trans ?_))
    rw [r_if_t (show nI w.length ≤ nI i from nI_le (by omega) (by omega)), show (w == w') = true from by rw [beq_iff_eq]; exact ext_getD hl (fun j h => hj j (by omega))]
    exact rZ1
  | succ d ih =>
    intro fu i hd hfu hj
    obtain ⟨fu, rfl⟩ : ∃ g, fu = g + 1 := ⟨fu - 1, by omega⟩
    have i1 : ¬ (nI i < 0 ∨ w.length ≤ (nI i).toNatClampNeg) := nI_in (by omega) (by omega)
    have i2 : ¬ (nI i < 0 ∨ w'.length ≤ (nI i).toNatClampNeg) := nI_in (by omega) (by omega)
    have c1 := nI_clamp (n := i) (by omega)
    rw [e_Name_isWrittenLike_17]
    refine (r_getR (r := some p1) h1 rfl).trans (r_nn.trans ((r_len h2).trans ?_))
    rw [r_if_f (show ¬ nI w.length ≤ nI i from nI_ge (by omega) (by omega))]
    refine (r_getR (r := some p1) h1 rfl).trans (r_nn.trans ((r_ald h2 i1).trans (r_nn.trans ((r_getR (r := some q1) g1 rfl).trans (r_nn.trans ((r_ald g2 i2).trans ?_))))))
    rw [c1]
    by_cases c : w.getD i 0 = w'.getD i 0
    · rw [r_if_t c, nI_1]
      refine ih fu (i + 1) (by omega) (by omega) (fun j h => ?_)
      by_cases e : j = i
      · rw [e]; exact c
      · exact hj j (by omega)
    · rw [r_if_f c, show (w == w') = false from by rw [beq_eq_false_iff_ne]; exact fun z => c (by rw [z])]
      exact rZ0
theorem s_written (hN : 2001 ≤ N) (hw : wfN w) (hw' : wfN w') (h : nmA D M b w) (h' : nmA D M b' w') : (f_Name_isWrittenLike N b (some b')).1 M = some (bZ (w == w'), M) := by
  have h0 := h
  have h0' := h'
  obtain ⟨p1, p2, _, _, _, h1, h2, h3⟩ := h
  obtain ⟨q1, q2, _, _, _, g1, g2, g3⟩ := h'
  have l1 := hw.1
  have l2 := hw'.1
  rw [e_Name_isWrittenLike]
  refine (r_getR (r := some p1) h1 rfl).trans (r_nn.trans ((r_len h2).trans (r_nn.trans ((r_getR (r := some q1) g1 rfl).trans (r_nn.trans ((r_len g2).trans ?_))))))
  dsimp only
  by_cases c : w.length = w'.length
  · rw [r_if_t (show nI w.length = nI w'.length by rw [c])]
    exact s_wri_loop hw h0 h0' c w.length N 0 (by omega) (by omega) (fun j h => absurd h (by omega))
  · rw [r_if_f (show ¬ nI w.length = nI w'.length from fun z => c ((nI_eq (by omega) (by omega)).mp z)), show (w == w') = false from by rw [beq_eq_false_iff_ne]; exact fun z => c (by rw [z])]
    exact rZ0
theorem s_writtenAt {k : Int32} (hw : wfN w) (h : nmA D M b w) : (f_Name_writtenAt N b k).1 M = some (sgAt w k, M) := by
  obtain ⟨p1, p2, _, _, _, h1, h2, h3⟩ := h
  have l1 := hw.1
  rw [e_Name_writtenAt, r_let, r_let]
  unfold sgAt
  by_cases k0 : k < 0
  · rw [r_if_t k0, if_pos k0]; rfl
  · rw [r_if_f k0, if_neg k0]
    refine (r_getR (r := some p1) h1 rfl).trans (r_nn.trans ((r_len h2).trans ?_))
    dsimp only
    obtain ⟨ek, hk⟩ := i_nat k0
    by_cases c : nI w.length ≤ k
    · rw [r_if_f (Int32.not_lt.mpr c), if_pos c]; rfl
    · rw [r_if_t (Int32.not_le.mp c), if_neg c]
      have hlt : k.toNatClampNeg < w.length := by
        apply Nat.lt_of_not_le
        intro z
        exact c (by rw [ek]; exact nI_le z hk)
      have i1 : ¬ (k < 0 ∨ w.length ≤ k.toNatClampNeg) := fun z => z.elim k0 (fun z => by omega)
      exact (r_getR (r := some p1) h1 rfl).trans (r_nn.trans ((r_ald h2 i1).trans rfl))
theorem s_foldedAt {k : Int32} (hw : wfN w) (h : nmA D M b w) : (f_Name_foldedAt N b k).1 M = some (sgAt (fold w) k, M) := by
  obtain ⟨p1, p2, _, _, _, h1, h2, h3⟩ := h
  have l1 := nmA_l hw
  rw [e_Name_foldedAt, r_let, r_let]
  unfold sgAt
  by_cases k0 : k < 0
  · rw [r_if_t k0, if_pos k0]; rfl
  · rw [r_if_f k0, if_neg k0]
    refine (r_getI h1 rfl).trans ?_
    obtain ⟨ek, hk⟩ := i_nat k0
    by_cases c : nI (fold w).length ≤ k
    · rw [r_if_f (Int32.not_lt.mpr c), if_pos c]; rfl
    · rw [r_if_t (Int32.not_le.mp c), if_neg c]
      have hlt : k.toNatClampNeg < (fold w).length := by
        apply Nat.lt_of_not_le
        intro z
        exact c (by rw [ek]; exact nI_le z hk)
      have i1 : ¬ (k < 0 ∨ w.length ≤ k.toNatClampNeg) := fun z => z.elim k0 (fun z => by omega)
      exact (r_getR (r := some p2) h1 rfl).trans (r_nn.trans ((r_ald h3 i1).trans rfl))
end CNAM3
