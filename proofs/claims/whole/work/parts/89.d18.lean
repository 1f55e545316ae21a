/-! LAYER 2: the class counts rows left alone -/
def qfr (z : Nat) (M M' : hM) : Prop := M'.2 = M.2 ∧ ∀ b, b ≠ z + 11 → b ≠ z + 12 → M'.1 b = M.1 b
def pJ (N z : Nat) (p1 : Option Nat) (K22 : Int32 → Int32 → Int32 → hX Int32) (x3 x4 x5 : Int32) (x6 : Option Nat) : hX Int32 := b_let (fun (x3 : Int32) (x4 : Int32) (x5 : Int32) => K22 x3 x4 (x5 + 1)) (fun J108 => b_nn p1 (fun a1 => b_getR a1 3 3 (fun r2 => b_is (z + 10) 4 (b_call (f_Pairing_pairFrom N (z + 10) x4 x6 r2) (fun v3 => (if v3 = 0 then J108 x3 x4 x5 else b_getR (z + 10) 4 0 (fun r7 => b_nn r7 (fun a8 => b_ast a8 5 x5 (vp_nar .boolean 1) (J108 (x3 + 1) x4 x5)))))))))
section CCNT
variable {N z : Nat} {M M' M'' : hM} {A B : aPk} {a a' : Nat} {uA uB : Nat → Int32}
theorem qfr.rf : qfr z M M := ⟨rfl, fun _ _ _ => rfl⟩
theorem qfr.tr (h : qfr z M M') (g : qfr z M' M'') : qfr z M M'' := ⟨g.1.trans h.1, fun b x y => (g.2 b x y).trans (h.2 b x y)⟩
theorem qfr.d (h : qfr z M M') : dfr (z + 43) M M' := ⟨by rw [h.1]; exact Nat.le_refl _, fun b hb _ => h.2 b (by omega) (by omega)⟩
theorem s_adv {x : aR} {bx i : Nat} {u x3 : Int32} {p0 : Option Nat} {K22 : Int32 → Int32 → Int32 → hX Int32} (hN : 2001 ≤ N) (oB : okP B) (hB : pkB (z + 43) M a' B uB) (wx : wfA x) (hx : rwA (z + 43) M bx x u) : ∀ (d fu fm : Nat), d + fm = B.2.2.2.length → d < fu → (∀ j y, j < fm → B.2.2.2[j]? = some y → oz y x < 0) →
    ∃ fm', fm' ≤ B.2.2.2.length ∧ (∀ j y, j < fm' → B.2.2.2[j]? = some y → oz y x < 0) ∧ (∀ j y, fm' ≤ j → B.2.2.2[j]? = some y → 0 ≤ oz y x) ∧ (f_Pairing_countAlone_51 N (z + 10) p0 (some a') K22 fu x3 (nI fm) (nI i) (some bx)).1 M = (pJ N z (some a') K22 x3 (nI fm') (nI i) (some bx)).1 M := by
  have hB' := hB
  obtain ⟨gr, h0, nb, fa, ra, gf, h1, h2, h3, h4, h5, h6, h7, h8, h9⟩ := hB
  have hl := oB.1.2.2.2.1
  intro d
  induction d with
  | zero =>
    intro fu fm k1 k2 k3
    obtain ⟨fu, rfl⟩ : ∃ g, fu = g + 1 := ⟨fu - 1, by omega⟩
    refine ⟨fm, by omega, k3, fun j y hj hy => absurd (List.getElem?_eq_some_iff.mp hy).1 (by omega), ?_⟩
    rw [e_Pairing_countAlone_51, r_let, r_nn]
    refine (r_getR (r := some ra) h1 rfl).trans (r_nn.trans ((r_len h7).trans ?_))
    dsimp only
    rw [r_if_t (show nI B.2.2.2.length ≤ nI fm from nI_le (by omega) (by omega))]
    rfl
  | succ d ih =>
    intro fu fm k1 k2 k3
    obtain ⟨fu, rfl⟩ : ∃ g, fu = g + 1 := ⟨fu - 1, by omega⟩
    have hk : fm < B.2.2.2.length := by omega
    have hget := List.getElem?_eq_getElem hk
    obtain ⟨b, b1, b2, b3⟩ := h8 fm _ hget
    have i1 : ¬ (nI fm < 0 ∨ B.2.2.2.length ≤ (nI fm).toNatClampNeg) := nI_in (by omega) (by omega)
    have c1 := nI_clamp (n := fm) (by omega)
    obtain ⟨fs, hc⟩ := b2.cell
    have ho := s_Roworder (N := N) hN b3 wx b2 hx
    have pre : ∀ {X : Option (Int32 × hM)}, (if 0 ≤ ordR B.2.2.2[fm] x then pJ N z (some a') K22 x3 (nI fm) (nI i) (some bx) else f_Pairing_countAlone_51 N (z + 10) p0 (some a') K22 fu x3 (nI fm + 1) (nI i) (some bx)).1 M = X → (f_Pairing_countAlone_51 N (z + 10) p0 (some a') K22 (fu + 1) x3 (nI fm) (nI i) (some bx)).1 M = X := by
      intro X hX
      rw [e_Pairing_countAlone_51, r_let, r_nn]
      refine (r_getR (r := some ra) h1 rfl).trans (r_nn.trans ((r_len h7).trans ?_))
      dsimp only
      rw [r_if_f (show ¬ nI B.2.2.2.length ≤ nI fm from nI_ge (by omega) (by omega))]
      refine (r_getR (r := some ra) h1 rfl).trans (r_nn.trans ((r_aldR h7 i1).trans ?_))
      rw [c1, b1, r_nn]
      refine (r_is hc).trans (r_callE.trans ?_)
      rw [ho, Option.bind_some]
      exact hX
    by_cases c : ordR B.2.2.2[fm] x < 0
    · have c' := (ord_lt b3 wx).mp c
      obtain ⟨fm', x1, x2, x3', x4⟩ := ih fu (fm + 1) (by omega) (by omega) (fun j y hj hy => by
        by_cases e : j = fm
        · rw [e, hget] at hy; cases hy; exact c'
        · exact k3 j y (by omega) hy)
      refine ⟨fm', x1, x2, x3', pre ?_⟩
      rw [r_if_f (Int32.not_le.mpr c), nI_1]
      exact x4
    · refine ⟨fm, by omega, k3, fun j y hj hy => ?_, pre ?_⟩
      · have c' : ¬ oz B.2.2.2[fm] x < 0 := fun z => c ((ord_lt b3 wx).mpr z)
        by_cases e : j = fm
        · rw [e, hget] at hy; cases hy; omega
        · obtain ⟨q1, q2⟩ := List.getElem?_eq_some_iff.mp hy
          have hs := List.pairwise_iff_getElem.mp oB.2.1 fm j hk q1 (by omega)
          rw [q2] at hs
          have n1 : oz x B.2.2.2[fm] = - oz B.2.2.2[fm] x := oz_n
          have n2 : oz x y = - oz y x := oz_n
          have := oz_t (x := x) (y := B.2.2.2[fm]) (w := y) (by omega) hs
          omega
      · rw [r_if_t (Int32.not_lt.mp c)]
theorem s_pJ {x : aR} {bx i fm p : Nat} {u : Int32} {t : List Bool} {f1 f2 : Nat → Int32} {K22 : Int32 → Int32 → Int32 → hX Int32} (hN : 2001 ≤ N) (oB : okP B) (hB : pkB (z + 43) M a' B uB) (wx : wfA x) (hx : rwA (z + 43) M bx x u) (h10 : M.1 (z + 10) = some (.inr (4, [.ref (z + 11), .ref (z + 12)]))) (h11 : M.1 (z + 11) = some (.inl (5, 200, .inl f1))) (h12 : M.1 (z + 12) = some (.inl (5, 200, .inl f2))) (ht : t.length = B.2.2.2.length) (htf : ∀ j b, t[j]? = some b → f2 j = bZ b) (hi : i < 200) (hf : fm ≤ B.2.2.2.length) (hlo : ∀ j y, j < fm → B.2.2.2[j]? = some y → oz y x < 0) (hhi : ∀ j y, fm ≤ j → B.2.2.2[j]? = some y → 0 ≤ oz y x) :
    (pJ N z (some a') K22 (nI p) (nI fm) (nI i) (some bx)).1 M = match ffn x B.2.2.2 t 0 with
      | none => (K22 (nI p) (nI fm) (nI (i + 1))).1 M
      | some j => (K22 (nI (p + 1)) (nI fm) (nI (i + 1))).1 (hm_up (hm_up M (z + 12) (bAr (va_up f2 j 1))) (z + 11) (bAr (va_up f1 i 1))) := by
  obtain ⟨gr, h0, nb, fa, ra, gf, h1, h2, h3, h4, h5, h6, h7, h8, h9⟩ := hB
  have hl := oB.1.2.2.2.1
  have hP := s_pairFrom (N := N) (p0 := nI fm) hN wx hx h10 h12 h7 hl ht htf h8 oB.2.1 (B.2.2.2.length - fm) N fm (by omega) (by omega) hhi
  have hsk := ffn_skip (x := x) fm B.2.2.2 t 0 ht (fun j y hj hy => by
    cases hL : isL x y with
    | false => rfl
    | true =>
      exfalso
      obtain ⟨_, _, _, wy⟩ := h8 j y hy
      have e0 := isL_k wx wy hL
      have e1 := hlo j y hj hy
      have e2 : oz y x = - oz x y := oz_n
      omega)
  rw [Nat.zero_add] at hsk
  rw [hsk]
  unfold pJ
  rw [r_let, r_nn]
  refine (r_getR (r := some ra) h1 rfl).trans ((r_is h10).trans (r_callE.trans ?_))
  rw [e_Pairing_pairFrom, hP]
  cases ffn x (B.2.2.2.drop fm) (t.drop fm) fm with
  | none =>
    dsimp only
    rw [Option.bind_some, r_if_t rfl, nI_1]
  | some j =>
    dsimp only
    rw [Option.bind_some]
    dsimp only
    rw [r_if_f (show ¬ (1 : Int32) = 0 by decide)]
    have i2 : ¬ (nI i < 0 ∨ 200 ≤ (nI i).toNatClampNeg) := nI_in (by omega) (by decide)
    have c1 := nI_clamp (n := i) (by omega)
    refine (r_getR (r := some (z + 11)) ((up_n (by omega)).trans h10) rfl).trans (r_nn.trans ((r_ast ((up_n (by omega)).trans h11) i2).trans ?_))
    rw [c1, upd_va, show vp_nar .boolean 1 = 1 from by decide, nI_1, nI_1]
    rfl
theorem s_count (hN : 2001 ≤ N) (oA : okP A) (oB : okP B) : ∀ (d fu i fm p : Nat) (M : hM) (t : List Bool) (f1 f2 : Nat → Int32), d + i = A.2.2.2.length → d < fu → pkB (z + 43) M a A uA → pkB (z + 43) M a' B uB → M.1 (z + 10) = some (.inr (4, [.ref (z + 11), .ref (z + 12)])) → M.1 (z + 11) = some (.inl (5, 200, .inl f1)) → M.1 (z + 12) = some (.inl (5, 200, .inl f2)) → t.length = B.2.2.2.length → (∀ j b, t[j]? = some b → f2 j = bZ b) → (∀ j, i ≤ j → j < 200 → f1 j = 0) → fm ≤ B.2.2.2.length → (∀ j y x, j < fm → B.2.2.2[j]? = some y → A.2.2.2[i]? = some x → oz y x < 0) → p ≤ i →
    ∃ M' f1' f2', (f_Pairing_countAlone_22 N (z + 10) (some a) (some a') fu (nI p) (nI fm) (nI i)).1 M = some ((nI A.2.2.2.length + nI B.2.2.2.length) - (2 * nI (p + (prL B.2.2.2 (A.2.2.2.drop i) t).1.count true)), M') ∧ M'.1 (z + 11) = some (.inl (5, 200, .inl f1')) ∧ M'.1 (z + 12) = some (.inl (5, 200, .inl f2')) ∧ qfr z M M' ∧ (∀ j, j < i → f1' j = f1 j) ∧ (∀ j b, (prL B.2.2.2 (A.2.2.2.drop i) t).1[j]? = some b → f1' (i + j) = bZ b) ∧ (∀ j b, (prL B.2.2.2 (A.2.2.2.drop i) t).2[j]? = some b → f2' j = bZ b) := by
  have hlA := oA.1.2.2.2.1
  have hlB := oB.1.2.2.2.1
  intro d
  induction d with
  | zero =>
    intro fu i fm p M t f1 f2 k1 k2 hA hB h10 h11 h12 ht htf hf1 hfm hlo hp
    obtain ⟨fu, rfl⟩ : ∃ g, fu = g + 1 := ⟨fu - 1, by omega⟩
    obtain ⟨gr, h0, nb, fa, ra, gf, h1, h2, h3, h4, h5, h6, h7, h8, h9⟩ := hA
    obtain ⟨gr', _, nb', fa', ra', gf', j1, _, _, _, _, _, j7, _, _⟩ := hB
    rw [List.drop_eq_nil_of_le (by omega)]
    refine ⟨M, f1, f2, ?_, h11, h12, qfr.rf, fun _ _ => rfl, fun j b hj => (nil_get hj).elim, htf⟩
    rw [e_Pairing_countAlone_22, r_let, r_nn]
    refine (r_getR (r := some ra) h1 rfl).trans (r_nn.trans ((r_len h7).trans ?_))
    dsimp only
    rw [r_if_t (show nI A.2.2.2.length ≤ nI i from nI_le (by omega) (by omega)), r_nn]
    refine (r_getR (r := some ra) h1 rfl).trans (r_nn.trans ((r_len h7).trans ?_))
    rw [r_nn]
    refine (r_getR (r := some ra') j1 rfl).trans (r_nn.trans ((r_len j7).trans ?_))
    rfl
  | succ d ih =>
    intro fu i fm p M t f1 f2 k1 k2 hA hB h10 h11 h12 ht htf hf1 hfm hlo hp
    obtain ⟨fu, rfl⟩ : ∃ g, fu = g + 1 := ⟨fu - 1, by omega⟩
    have hA' := hA
    obtain ⟨gr, h0, nb, fa, ra, gf, h1, h2, h3, h4, h5, h6, h7, h8, h9⟩ := hA
    have hi : i < A.2.2.2.length := by omega
    have hget := List.getElem?_eq_getElem hi
    obtain ⟨bx, b1, b2, b3⟩ := h8 i _ hget
    have i1 : ¬ (nI i < 0 ∨ A.2.2.2.length ≤ (nI i).toNatClampNeg) := nI_in (by omega) (by omega)
    have c1 := nI_clamp (n := i) (by omega)
    obtain ⟨fm', x1, x2, x3, x4⟩ := s_adv (N := N) (p0 := some a) (i := i) (x3 := nI p) (K22 := f_Pairing_countAlone_22 N (z + 10) (some a) (some a') fu) hN oB hB b3 b2 (B.2.2.2.length - fm) N fm (by omega) (by omega) (fun j y hj hy => hlo j y _ hj hy hget)
    have x5 := s_pJ (N := N) (p := p) (i := i) (K22 := f_Pairing_countAlone_22 N (z + 10) (some a) (some a') fu) hN oB hB b3 b2 h10 h11 h12 ht htf (by omega) x1 x2 x3
    have pre : (f_Pairing_countAlone_22 N (z + 10) (some a) (some a') (fu + 1) (nI p) (nI fm) (nI i)).1 M = (pJ N z (some a') (f_Pairing_countAlone_22 N (z + 10) (some a) (some a') fu) (nI p) (nI fm') (nI i) (some bx)).1 M := by
      rw [e_Pairing_countAlone_22, r_let, r_nn]
      refine (r_getR (r := some ra) h1 rfl).trans (r_nn.trans ((r_len h7).trans ?_))
      dsimp only
      rw [r_if_f (show ¬ nI A.2.2.2.length ≤ nI i from nI_ge (by omega) (by omega))]
      refine (r_getR (r := some (z + 11)) h10 rfl).trans (r_nn.trans ((r_len h11).trans ?_))
      dsimp only
      rw [r_if_f (show ¬ nI 200 ≤ nI i from nI_ge (by omega) (by omega))]
      refine (r_getR (r := some ra) h1 rfl).trans (r_nn.trans ((r_aldR h7 i1).trans ?_))
      rw [c1, b1]
      exact x4
    have hlo' : ∀ j y x, j < fm' → B.2.2.2[j]? = some y → A.2.2.2[i + 1]? = some x → oz y x < 0 := fun j y x hj hy hx => by
      obtain ⟨q1, q2⟩ := List.getElem?_eq_some_iff.mp hx
      have hs := List.pairwise_iff_getElem.mp oA.2.1 i (i + 1) hi q1 (by omega)
      rw [q2] at hs
      exact oz_st (x2 j y hj hy) hs
    rw [List.drop_eq_getElem_cons hi, show ∀ (x : aR) (l : List aR), prL B.2.2.2 (x :: l) t = match ffn x B.2.2.2 t 0 with
      | some j => (true :: (prL B.2.2.2 l (t.set j true)).1, (prL B.2.2.2 l (t.set j true)).2)
      | none => (false :: (prL B.2.2.2 l t).1, (prL B.2.2.2 l t).2) from fun _ _ => rfl, pre, x5]
    cases hff : ffn A.2.2.2[i] B.2.2.2 t 0 with
    | none =>
      dsimp only
      obtain ⟨M', f1', f2', y1, y2, y3, y4, y5, y6, y7⟩ := ih fu (i + 1) fm' p M t f1 f2 (by omega) (by omega) hA' hB h10 h11 h12 ht htf (fun j hj hj2 => hf1 j (by omega) hj2) x1 hlo' (by omega)
      refine ⟨M', f1', f2', ?_, y2, y3, y4, fun j hj => y5 j (by omega), fun j b hj => ?_, y7⟩
      · rw [y1, List.count_cons_of_ne (by decide)]
      · rcases j with _ | j
        · cases hj
          rw [Nat.add_zero, y5 i (by omega), hf1 i (Nat.le_refl _) (by omega)]; rfl
        · rw [List.getElem?_cons_succ] at hj
          rw [show i + (j + 1) = i + 1 + j by omega]; exact y6 j b hj
    | some j =>
      dsimp only
      have hq : qfr z M (hm_up (hm_up M (z + 12) (bAr (va_up f2 j 1))) (z + 11) (bAr (va_up f1 i 1))) := ⟨rfl, fun b n1 n2 => (up_n n1).trans (up_n n2)⟩
      obtain ⟨M', f1', f2', y1, y2, y3, y4, y5, y6, y7⟩ := ih fu (i + 1) fm' (p + 1) (hm_up (hm_up M (z + 12) (bAr (va_up f2 j 1))) (z + 11) (bAr (va_up f1 i 1))) (t.set j true) (va_up f1 i 1) (va_up f2 j 1) (by omega) (by omega) (hA'.f hq.d) (hB.f hq.d) ((hq.2 _ (by omega) (by omega)).trans h10) up_s ((up_n (by omega)).trans up_s) (by rw [List.length_set]; exact ht) (fun q b hb => by
        rw [List.getElem?_set] at hb
        by_cases e : j = q
        · rw [if_pos e] at hb
          split at hb
          · cases hb; rw [e, ua_s]; rfl
          · cases hb
        · rw [if_neg e] at hb
          rw [ua_n (fun z => e z.symm)]; exact htf q b hb) (fun q hq1 hq2 => by rw [ua_n (by omega)]; exact hf1 q (by omega) hq2) x1 hlo' (by omega)
      refine ⟨M', f1', f2', ?_, y2, y3, hq.tr y4, fun q hq' => ?_, fun q b hb => ?_, y7⟩
      · rw [y1, List.count_cons_self, show p + 1 + List.count true (prL B.2.2.2 (A.2.2.2.drop (i + 1)) (t.set j true)).1 = p + (List.count true (prL B.2.2.2 (A.2.2.2.drop (i + 1)) (t.set j true)).1 + 1) by omega]
      · rw [y5 q (by omega), ua_n (by omega)]
      · rcases q with _ | q
        · cases hb
          rw [Nat.add_zero, y5 i (by omega), ua_s]; rfl
        · rw [List.getElem?_cons_succ] at hb
          rw [show i + (q + 1) = i + 1 + q by omega]; exact y6 q b hb
end CCNT
