/-! LAYER 2: the class's same and differ, whole -/
section CDIF
variable {N z : Nat} {M M' M'' : hM} {A B : aPk} {a a' : Nat} {f : Nat → Int32} {n : Nat} {pk : List aPk} {ch : List (Nat × Nat)} {pr : List Int32} {uA uB : Nat → Int32}
theorem s_heads_loop (hN : 2001 ≤ N) (wA : wfP A) (wB : wfP B) (hA : pkB (z + 43) M a A uA) (hB : pkB (z + 43) M a' B uB) : ∀ (d fu i : Nat), d + i = (dsF A.2.2.1).length → d < fu → (f_Pack_headsAlike_43 N a (some a') fu (nI i)).1 M = some (bZ (((dsF A.2.2.1).drop i).all (fun w => hasF w B.2.2.1)), M) := by
  obtain ⟨gr, h0, nb, fa, ra, gf, h1, h2, h3, h4, h5, h6, h7, h8, h9⟩ := hA
  have hB' := hB
  obtain ⟨gr', _, nb', fa', ra', gf', j1, _⟩ := hB
  have hl := Nat.le_trans (dsF_len (fs := A.2.2.1)) wA.2.2.1
  intro d
  induction d with
  | zero =>
    intro fu i k1 k2
    obtain ⟨fu, rfl⟩ : ∃ g, fu = g + 1 := ⟨fu - 1, by omega⟩
    rw [List.drop_eq_nil_of_le (by omega), e_Pack_headsAlike_43]
    refine (r_getR (r := some fa) h1 rfl).trans (r_nn.trans ((r_len h4).trans ?_))
    dsimp only
    rw [r_if_t (show nI (dsF A.2.2.1).length ≤ nI i from nI_le (by omega) (by omega))]
    exact rZ1
  | succ d ih =>
    intro fu i k1 k2
    obtain ⟨fu, rfl⟩ : ∃ g, fu = g + 1 := ⟨fu - 1, by omega⟩
    have hi : i < (dsF A.2.2.1).length := by omega
    obtain ⟨c, e1, e2, e3⟩ := h5 i _ (List.getElem?_eq_getElem hi)
    have i1 : ¬ (nI i < 0 ∨ (dsF A.2.2.1).length ≤ (nI i).toNatClampNeg) := nI_in (by omega) (by omega)
    have c1 := nI_clamp (n := i) (by omega)
    have hF := s_hasFeature (N := N) hN wB hB' e3 e2
    rw [List.drop_eq_getElem_cons hi, List.all_cons, e_Pack_headsAlike_43]
    refine (r_getR (r := some fa) h1 rfl).trans (r_nn.trans ((r_len h4).trans ?_))
    dsimp only
    rw [r_if_f (show ¬ nI (dsF A.2.2.1).length ≤ nI i from nI_ge (by omega) (by omega))]
    refine (r_getR (r := some fa) h1 rfl).trans (r_nn.trans ((r_aldR h4 i1).trans ?_))
    rw [c1, e1, r_nn]
    refine (r_is j1).trans (r_callE.trans ?_)
    rw [hF, Option.bind_some]
    dsimp only
    cases hasF (dsF A.2.2.1)[i] B.2.2.1 with
    | false => rw [r_if_t (show bZ false = 0 by decide), Bool.false_and]; exact rZ0
    | true => rw [r_if_f (show ¬ bZ true = 0 by decide), Bool.true_and, nI_1]; exact ih fu (i + 1) (by omega) (by omega)
theorem s_heads (hN : 2001 ≤ N) (wA : wfP A) (wB : wfP B) (hA : pkB (z + 43) M a A uA) (hB : pkB (z + 43) M a' B uB) : (f_Pack_headsAlike N a (some a')).1 M = some (bZ (A.2.1 == B.2.1 && (cmpN A.1 B.1 == 0 && (hasA A.2.2.1 B.2.2.1 && hasA B.2.2.1 A.2.2.1))), M) := by
  have hL := s_heads_loop (N := N) hN wA wB hA hB (dsF A.2.2.1).length N 0 (by omega) (by have := Nat.le_trans (dsF_len (fs := A.2.2.1)) wA.2.2.1; omega)
  rw [List.drop_zero] at hL
  have hlA := Nat.le_trans (dsF_len (fs := A.2.2.1)) wA.2.2.1
  have hlB := Nat.le_trans (dsF_len (fs := B.2.2.1)) wB.2.2.1
  have hD := hasA_ds wA.2.1 wB.2.1
  obtain ⟨gr, h0, nb, fa, ra, gf, h1, h2, h3, h4, _⟩ := hA
  obtain ⟨gr', _, nb', fa', ra', gf', j1, j2, _, j4, _⟩ := hB
  have hvA := wA.2.2.2.2.2
  have hvB := wB.2.2.2.2.2
  have nmc : ∃ fs, M.1 nb = some (.inr (2, fs)) := by obtain ⟨_, _, _, _, _, q, _⟩ := h2; exact ⟨_, q⟩
  obtain ⟨fs, nmc⟩ := nmc
  rw [e_Pack_headsAlike]
  refine (r_getR (r := some nb) h1 rfl).trans (r_nn.trans ((r_getR (r := some nb') j1 rfl).trans (r_nn.trans ((r_is nmc).trans (r_callE.trans ?_)))))
  rw [s_foldsLike hN wA.1 wB.1 h2 j2, Option.bind_some]
  dsimp only
  cases hc : (cmpN A.1 B.1 == 0) with
  | false => rw [r_if_t (show bZ false = 0 by decide), Bool.false_and, Bool.and_false]; exact rZ0
  | true =>
    rw [r_if_f (show ¬ bZ true = 0 by decide), Bool.true_and]
    refine (r_getL h1 rfl).trans ((r_getL j1 rfl).trans ?_)
    by_cases g1 : A.2.1 = B.2.1
    · rw [r_if_t (lg_eq.mpr (by rw [g1])), show (A.2.1 == B.2.1) = true from by rw [beq_iff_eq]; exact g1, Bool.true_and]
      refine (r_getR (r := some fa) h1 rfl).trans (r_nn.trans ((r_len h4).trans ((r_getR (r := some fa') j1 rfl).trans (r_nn.trans ((r_len j4).trans ?_)))))
      dsimp only
      by_cases g2 : (dsF A.2.2.1).length = (dsF B.2.2.1).length
      · rw [r_if_t (by rw [g2])]
        rw [show (f_Pack_headsAlike_43 N a (some a') N 0).1 M = _ from hL]
        have e : ((dsF A.2.2.1).all (fun w => hasF w B.2.2.1)) = (hasA A.2.2.1 B.2.2.1 && hasA B.2.2.1 A.2.2.1) := by
          rw [Bool.eq_iff_iff, Bool.and_eq_true, List.all_eq_true, ← hD]
          exact ⟨fun h => ⟨g2, h⟩, fun h => h.2⟩
        rw [e]
      · rw [r_if_f (fun z => g2 ((nI_eq (by omega) (by omega)).mp z))]
        have e : (hasA A.2.2.1 B.2.2.1 && hasA B.2.2.1 A.2.2.1) = false := by
          cases hq : (hasA A.2.2.1 B.2.2.1 && hasA B.2.2.1 A.2.2.1) with
          | false => rfl
          | true => rw [Bool.and_eq_true, ← hD] at hq; exact absurd hq.1 g2
        rw [e]; exact rZ0
    · rw [r_if_f (fun z => g1 (lN_inj (by omega) (by omega) (lg_eq.mp z))), show (A.2.1 == B.2.1) = false from by rw [beq_eq_false_iff_ne]; exact g1, Bool.false_and]; exact rZ0
theorem cfr.rf : cfr z M n M n := ⟨Nat.le_refl _, by omega, by omega, fun _ _ _ => rfl⟩
theorem qfr.c (h : qfr z M M') : cfr z M n M' n := ⟨by rw [h.1]; exact Nat.le_refl _, by rw [h.1]; omega, by rw [h.1]; omega, fun b h1 h2 => h.2 b (by omega) (by omega)⟩
theorem s_same {x y : Int32} (hN : 2001 ≤ N) (h : CI z M f n pk ch pr) : ∃ M', (f_PR_same N z x y).1 M = some (bZ (ansSame pk x y), M') ∧ CI z M' f n pk ch pr ∧ cfr z M n M' n := by
  obtain ⟨r, h1, h2⟩ := s_packOf (N := N) (x := x) h
  obtain ⟨r', h1', h2'⟩ := s_packOf (N := N) (x := y) h
  have hI := h
  obtain ⟨tf, hc, _, _, _, _, hPa, _⟩ := h
  have pre : (f_PR_same N z x y).1 M = (if r = none then b_retN .boolean 0 else (if r' = none then b_retN .boolean 0 else b_nn r (fun a9 => b_is a9 3 (b_call (f_Pack_headsAlike N a9 r') (fun v10 => (if v10 = 0 then b_retN .boolean 0 else b_getR z 0 5 (fun r14 => b_nn r14 (fun a15 => b_is a15 4 (b_call (f_Pairing_countAlone N a15 (some a9) r') (fun v16 => (if v16 = 0 then b_retN .boolean 1 else b_retN .boolean 0)))))))))) : hX Int32).1 M := by
    rw [e_PR_same, r_let]
    refine (r_is hc).trans (r_callE.trans ?_)
    rw [h1, Option.bind_some]
    dsimp only
    refine (r_is hc).trans (r_callE.trans ?_)
    rw [h1', Option.bind_some]
  rw [pre]
  unfold ansSame
  cases hp : pkOf pk x with
  | none =>
    rw [hp] at h2
    rw [r_if_t h2]
    exact ⟨M, rZ0, hI, cfr.rf⟩
  | some A =>
    rw [hp] at h2
    obtain ⟨oA, a, e, hA⟩ := h2
    rw [e, r_if_f (show ¬ some a = none from fun z => by cases z)]
    dsimp only
    cases hp' : pkOf pk y with
    | none =>
      rw [hp'] at h2'
      rw [r_if_t h2']
      exact ⟨M, rZ0, hI, cfr.rf⟩
    | some B =>
      rw [hp'] at h2'
      obtain ⟨oB, a', e', hB⟩ := h2'
      rw [e', r_if_f (show ¬ some a' = none from fun z => by cases z), r_nn]
      have ca : ∃ fs, M.1 a = some (.inr (3, fs)) := by obtain ⟨_, _, _, _, _, _, q, _⟩ := hA; exact ⟨_, q⟩
      obtain ⟨fs, ca⟩ := ca
      rw [(r_is ca).trans r_callE, s_heads hN oA.1 oB.1 hA hB, Option.bind_some]
      dsimp only
      have es : sameR A B = ((A.2.1 == B.2.1 && (cmpN A.1 B.1 == 0 && (hasA A.2.2.1 B.2.2.1 && hasA B.2.2.1 A.2.2.1))) && (alone A.2.2.2 B.2.2.2).length == 0) := by
        unfold sameR
        rw [Bool.and_assoc, Bool.and_assoc, Bool.and_assoc]
      rw [es]
      cases hh : (A.2.1 == B.2.1 && (cmpN A.1 B.1 == 0 && (hasA A.2.2.1 B.2.2.1 && hasA B.2.2.1 A.2.2.1))) with
      | false => rw [r_if_t (show bZ false = 0 by decide), Bool.false_and]; exact ⟨M, rZ0, hI, cfr.rf⟩
      | true =>
        rw [r_if_f (show ¬ bZ true = 0 by decide), Bool.true_and]
        obtain ⟨M', f1, f2, x1, x2, x3, x4, _⟩ := s_countAlone (N := N) hN oA oB hPa hA hB
        have hl := alone_len (la := A.2.2.2) (lb := B.2.2.2)
        have hlA := oA.1.2.2.2.1
        have hlB := oB.1.2.2.2.1
        refine ⟨M', ?_, hI.q x4 ⟨_, x2⟩ ⟨_, x3⟩, x4.c⟩
        refine (r_getR (r := some (z + 10)) hc rfl).trans (r_nn.trans ((r_is hPa.1).trans (r_callE.trans ?_)))
        rw [x1, Option.bind_some]
        dsimp only
        by_cases c : (alone A.2.2.2 B.2.2.2).length = 0
        · rw [r_if_t (show nI (alone A.2.2.2 B.2.2.2).length = 0 by rw [c]; rfl), c]; exact rZ1
        · rw [r_if_f (show ¬ nI (alone A.2.2.2 B.2.2.2).length = 0 from fun z => c ((nI_eq (b := 0) (by omega) (by omega)).mp z)), show ((alone A.2.2.2 B.2.2.2).length == 0) = false by rw [beq_eq_false_iff_ne]; exact c]; exact rZ0
/-- what is told goes on -/
theorem s_tell {l : List Bool} {A1 np tf : Nat} {g : Nat → Int32} (hl : l.length ≤ 200) (nz : A1 ≠ z) (n13 : A1 ≠ z + 13) (hg : ∀ j b, l[j]? = some b → g j = bZ b) : ∀ (d fu i : Nat) (M : hM) (T : List Nat) (ft : Nat → Int32), d + i = l.length → d < fu → M.1 A1 = some (.inl (5, 200, .inl g)) → M.1 z = some (prC z np tf T.length) → M.1 (z + 13) = some (.inl (2, 400, .inl ft)) → (∀ i c, T[i]? = some c → ft i = nI c) → T.length + (alI i (l.drop i)).length ≤ 400 →
    ∃ M' ft', (f_PR_tellAlone_2 N z (some A1) (nI l.length) fu (nI i)).1 M = some ((), M') ∧ M'.1 z = some (prC z np tf (T ++ alI i (l.drop i)).length) ∧ M'.1 (z + 13) = some (.inl (2, 400, .inl ft')) ∧ (∀ q c, (T ++ alI i (l.drop i))[q]? = some c → ft' q = nI c) ∧ M'.2 = M.2 ∧ ∀ b, b ≠ z → b ≠ z + 13 → M'.1 b = M.1 b := by
  intro d
  induction d with
  | zero =>
    intro fu i M T ft k1 k2 hA hZ h13 hT hb
    obtain ⟨fu, rfl⟩ : ∃ g, fu = g + 1 := ⟨fu - 1, by omega⟩
    rw [List.drop_eq_nil_of_le (by omega), show alI i [] = [] from rfl, List.append_nil]
    refine ⟨M, ft, ?_, hZ, h13, hT, rfl, fun _ _ _ => rfl⟩
    rw [e_PR_tellAlone_2, r_let, r_if_t (show nI l.length ≤ nI i from nI_le (by omega) (by omega))]; rfl
  | succ d ih =>
    intro fu i M T ft k1 k2 hA hZ h13 hT hb
    obtain ⟨fu, rfl⟩ : ∃ g, fu = g + 1 := ⟨fu - 1, by omega⟩
    have hi : i < l.length := by omega
    have i1 : ¬ (nI i < 0 ∨ 200 ≤ (nI i).toNatClampNeg) := nI_in (by omega) (by decide)
    have c1 := nI_clamp (n := i) (by omega)
    have hgi := hg i _ (List.getElem?_eq_getElem hi)
    rw [List.drop_eq_getElem_cons hi] at hb ⊢
    rw [show ∀ b, alI i (b :: l.drop (i + 1)) = if b = true then alI (i + 1) (l.drop (i + 1)) else i :: alI (i + 1) (l.drop (i + 1)) from fun _ => rfl] at hb ⊢
    have pre : (f_PR_tellAlone_2 N z (some A1) (nI l.length) (fu + 1) (nI i)).1 M = (if nI 400 ≤ nI T.length then b_ret () else (if bZ l[i] = 0 then b_getR z 0 6 (fun r7 => b_getI z 0 8 (fun v8 => b_nn r7 (fun a9 => b_ast a9 2 v8 (nI i) (b_getI z 0 8 (fun v10 => b_put z 0 8 (.int (v10 + 1)) (f_PR_tellAlone_2 N z (some A1) (nI l.length) fu (nI i + 1))))))) else f_PR_tellAlone_2 N z (some A1) (nI l.length) fu (nI i + 1)) : hX Unit).1 M := by
      rw [e_PR_tellAlone_2, r_let, r_if_f (show ¬ nI l.length ≤ nI i from nI_ge (by omega) (by omega))]
      refine (r_nn.trans (r_len hA)).trans ?_
      dsimp only
      rw [r_if_f (show ¬ nI 200 ≤ nI i from nI_ge (by omega) (by omega))]
      refine (r_getI hZ rfl).trans ((r_getR (r := some (z + 13)) hZ rfl).trans (r_nn.trans ((r_len h13).trans ?_)))
      dsimp only
      by_cases c : nI 400 ≤ nI T.length
      · rw [r_if_t c, r_if_t c]
      · rw [r_if_f c, r_if_f c]
        refine (r_ald hA i1).trans ?_
        rw [c1, hgi]
    rw [pre]
    by_cases cT : T.length = 400
    · have e0 : (if l[i] = true then alI (i + 1) (l.drop (i + 1)) else i :: alI (i + 1) (l.drop (i + 1))) = [] := List.length_eq_zero_iff.mp (by omega)
      rw [e0, List.append_nil]
      refine ⟨M, ft, ?_, hZ, h13, hT, rfl, fun _ _ _ => rfl⟩
      rw [r_if_t (show nI 400 ≤ nI T.length by rw [cT]; exact Int32.le_refl _)]; rfl
    · rw [r_if_f (show ¬ nI 400 ≤ nI T.length from nI_ge (by omega) (by omega))]
      cases hb' : l[i] with
      | true =>
        rw [hb', if_pos rfl] at hb
        rw [if_pos rfl]
        obtain ⟨M', ft', x1, x2⟩ := ih fu (i + 1) M T ft (by omega) (by omega) hA hZ h13 hT hb
        refine ⟨M', ft', ?_, x2⟩
        rw [r_if_f (show ¬ bZ true = 0 by decide), nI_1]; exact x1
      | false =>
        rw [hb', if_neg Bool.false_ne_true, List.length_cons] at hb
        rw [if_neg Bool.false_ne_true]
        have i2 : ¬ (nI T.length < 0 ∨ 400 ≤ (nI T.length).toNatClampNeg) := nI_in (by omega) (by decide)
        have c2 := nI_clamp (n := T.length) (by omega)
        have hlen : (T ++ [i]).length = T.length + 1 := by rw [List.length_append]; rfl
        obtain ⟨M', ft', x1, x2, x3, x4, x5, x6⟩ := ih fu (i + 1) (hm_up (hm_up M (z + 13) (.inl (2, 400, .inl (va_up ft T.length (nI i))))) z (prC z np tf (T ++ [i]).length)) (T ++ [i]) (va_up ft T.length (nI i)) (by omega) (by omega) ((up_n nz).trans ((up_n n13).trans hA)) up_s ((up_n (by omega)).trans up_s) (fun q c hc => by
          rcases app_get hc with e | ⟨e1, e2⟩
          · have := (List.getElem?_eq_some_iff.mp e).1
            rw [ua_n (by omega)]; exact hT q c e
          · rw [e1, e2, ua_s]) (by rw [hlen]; omega)
        rw [List.append_assoc] at x2 x4
        refine ⟨M', ft', ?_, x2, x3, x4, x5, fun b n0 n1 => (x6 b n0 n1).trans ((up_n n0).trans (up_n n1))⟩
        rw [r_if_t (show bZ false = 0 by decide)]
        refine (r_getR (r := some (z + 13)) hZ rfl).trans ((r_getI hZ rfl).trans (r_nn.trans ((r_ast h13 i2).trans ?_)))
        rw [c2, upd_va]
        refine (r_getI ((up_n (by omega)).trans hZ) rfl).trans ((r_put ((up_n (by omega)).trans hZ) (Nat.le_of_ble_eq_true rfl)).trans ?_)
        rw [nI_1, nI_1]
        rw [hlen] at x1
        exact x1
theorem s_differ {x y : Int32} (hN : 2001 ≤ N) (h : CI z M f n pk ch pr) : match pkOf pk x with
    | none => ∃ M', (f_PR_differ N z x y).1 M = some (-1, M') ∧ CI z M' f n pk ch pr ∧ cfr z M n M' n
    | some A => match pkOf pk y with
      | none => ∃ M', (f_PR_differ N z x y).1 M = some (-1, M') ∧ CI z M' f n pk ch pr ∧ cfr z M n M' n
      | some B => ∃ M', (f_PR_differ N z x y).1 M = some (nI (alone A.2.2.2 B.2.2.2).length, M') ∧ CI z M' f n pk (alone A.2.2.2 B.2.2.2) pr ∧ cfr z M n M' n := by
  obtain ⟨r, h1, h2⟩ := s_packOf (N := N) (x := x) h
  obtain ⟨r', h1', h2'⟩ := s_packOf (N := N) (x := y) h
  have hI := h
  obtain ⟨tf, hc, _, _, _, _, hPa, hl40, _, ft, h13, _⟩ := h
  have pre : ∃ K, (f_PR_differ N z x y).1 M = (if r = none then b_ret (-1 : Int32) else (if r' = none then b_ret (-1 : Int32) else K) : hX Int32).1 M ∧ K = b_getR z 0 5 (fun r9 => b_nn r9 (fun a10 => b_is a10 4 (b_call (f_Pairing_countAlone N a10 r r') (fun v11 => b_put z 0 8 (.int 0) (b_getR z 0 5 (fun r15 => b_nn r15 (fun a16 => b_getR a16 4 0 (fun r17 => b_nn r (fun a18 => b_getR a18 3 3 (fun r19 => b_nn r19 (fun a20 => b_len a20 1 (fun v21 => b_is z 0 (b_call (f_PR_tellAlone N z r17 v21) (fun _ => b_getI z 0 8 (fun v26 => b_put z 0 7 (.int v26) (b_getR z 0 5 (fun r27 => b_nn r27 (fun a28 => b_getR a28 4 1 (fun r29 => b_nn r' (fun a30 => b_getR a30 3 3 (fun r31 => b_nn r31 (fun a32 => b_len a32 1 (fun v33 => b_is z 0 (b_call (f_PR_tellAlone N z r29 v33) (fun _ => b_getI z 0 8 (fun v38 => b_ret v38)))))))))))))))))))))))))) := by
    refine ⟨_, ?_, rfl⟩
    rw [e_PR_differ]
    refine (r_is hc).trans (r_callE.trans ?_)
    rw [h1, Option.bind_some]
    dsimp only
    refine (r_is hc).trans (r_callE.trans ?_)
    rw [h1', Option.bind_some]
  obtain ⟨K, pre, eK⟩ := pre
  rw [pre]
  cases hp : pkOf pk x with
  | none =>
    rw [hp] at h2
    dsimp only
    rw [r_if_t h2]
    exact ⟨M, rfl, hI, cfr.rf⟩
  | some A =>
    rw [hp] at h2
    obtain ⟨oA, a, e, hA⟩ := h2
    dsimp only
    rw [r_if_f (show ¬ r = none from fun z => by rw [e] at z; cases z)]
    cases hp' : pkOf pk y with
    | none =>
      rw [hp'] at h2'
      dsimp only
      rw [r_if_t h2']
      exact ⟨M, rfl, hI, cfr.rf⟩
    | some B =>
      rw [hp'] at h2'
      obtain ⟨oB, a', e', hB⟩ := h2'
      dsimp only
      rw [r_if_f (show ¬ r' = none from fun z => by rw [e'] at z; cases z), eK, e, e']
      clear pre eK
      obtain ⟨M1, f1, f2, x1, x2, x3, x4, x5, x6⟩ := s_countAlone (N := N) hN oA oB hPa hA hB
      have hl := alone_len (la := A.2.2.2) (lb := B.2.2.2)
      have hlA := oA.1.2.2.2.1
      have hlB := oB.1.2.2.2.1
      have hC1 := hI.q x4 ⟨_, x2⟩ ⟨_, x3⟩
      obtain ⟨l1, l2, _⟩ := prL_cnt (lb := B.2.2.2) A.2.2.2 (flF B.2.2.2)
      have l3 : (flF B.2.2.2).length = B.2.2.2.length := by unfold flF; exact List.length_replicate
      rw [l3] at l2
      have hAl : (alone A.2.2.2 B.2.2.2).length = (alI 0 (prL B.2.2.2 A.2.2.2 (flF B.2.2.2)).1).length + (alI 0 (prL B.2.2.2 A.2.2.2 (flF B.2.2.2)).2).length := by
        unfold alone; rw [List.length_append, List.length_map, List.length_map]
      generalize hp1 : (prL B.2.2.2 A.2.2.2 (flF B.2.2.2)).1 = b1 at *
      generalize hp2 : (prL B.2.2.2 A.2.2.2 (flF B.2.2.2)).2 = b2 at *
      have hch : alone A.2.2.2 B.2.2.2 = (alI 0 b1).map (fun i => (0, i)) ++ (alI 0 b2).map (fun i => (1, i)) := by unfold alone; rw [hp1, hp2]
      -- the first package's
      have c1 : M1.1 z = some (prC z pk.length tf ch.length) := (x4.2 _ (by omega) (by omega)).trans hc
      have c13 : M1.1 (z + 13) = some (.inl (2, 400, .inl ft)) := (x4.2 _ (by omega) (by omega)).trans h13
      have c10 : M1.1 (z + 10) = some (.inr (4, [.ref (z + 11), .ref (z + 12)])) := (x4.2 _ (by omega) (by omega)).trans hPa.1
      obtain ⟨M2, ft2, y1, y2, y3, y4, y5, y6⟩ := s_tell (N := N) (z := z) (l := b1) (A1 := z + 11) (np := pk.length) (tf := tf) (g := f1) (by omega) (by omega) (by omega) x5 b1.length N 0 (hm_up M1 z (prC z pk.length tf 0)) [] ft (by omega) (by omega) ((up_n (by omega)).trans x2) up_s ((up_n (by omega)).trans c13) (fun i c hc => (nil_get hc).elim) (by rw [List.drop_zero]; show 0 + _ ≤ _; omega)
      rw [List.drop_zero, List.nil_append] at y2 y4
      -- the second's
      have d12 : M2.1 (z + 12) = some (.inl (5, 200, .inl f2)) := (y6 _ (by omega) (by omega)).trans ((up_n (by omega)).trans x3)
      obtain ⟨M3, ft3, w1, w2, w3, w4, w5, w6⟩ := s_tell (N := N) (z := z) (l := b2) (A1 := z + 12) (np := pk.length) (tf := (alI 0 b1).length) (g := f2) (by omega) (by omega) (by omega) x6 b2.length N 0 (hm_up M2 z (prC z pk.length (alI 0 b1).length (alI 0 b1).length)) (alI 0 b1) ft2 (by omega) (by omega) ((up_n (by omega)).trans d12) up_s ((up_n (by omega)).trans y3) y4 (by rw [List.drop_zero]; omega)
      rw [List.drop_zero] at w2 w4
      have fr3 : ∀ b, b ≠ z → b ≠ z + 13 → M3.1 b = M1.1 b := fun b n0 n13 => (w6 b n0 n13).trans ((up_n n0).trans ((y6 b n0 n13).trans (up_n n0)))
      have s3 : M3.2 = M1.2 := w5.trans y5
      obtain ⟨tf1, q1, q2, q3, q4, q5, q6, q7⟩ := hC1
      have hlen : (alI 0 b1 ++ alI 0 b2).length = (alone A.2.2.2 B.2.2.2).length := by rw [List.length_append, hAl]
      refine ⟨M3, ?_, ⟨(alI 0 b1).length, by rw [w2, hlen], q2.fr (fr3 _ (by omega) (by omega)) (fr3 _ (by omega) (by omega)), q3.fr (by rw [s3]; exact Nat.le_refl _) (fr3 _ (by omega) (by omega)) (fr3 _ (by omega) (by omega)) (fr3 _ (by omega) (by omega)) (fr3 _ (by omega) (by omega)), q4.fr ⟨by rw [s3]; exact Nat.le_refl _, fun b hb _ => fr3 b (by omega) (by omega)⟩ (fr3 _ (by omega) (by omega)), q5.fr (fr3 _ (by omega) (by omega)) (fr3 _ (by omega) (by omega)), q6.fr (fr3 _ (by omega) (by omega)) (fr3 _ (by omega) (by omega)) (fr3 _ (by omega) (by omega)), by omega, by rw [hAl]; omega, ft3, w3, fun i c hcc => ?_⟩, ?_⟩
      · obtain ⟨grA, hA0, nbA, faA, raA, gfA, hA1, _, _, _, _, hA6, hA7, _⟩ := hA
        obtain ⟨grB, hB0, nbB, faB, raB, gfB, hB1, _, _, _, _, hB6, hB7, _⟩ := hB
        have g43 : z + 43 ≤ a := by omega
        have g43' : z + 43 ≤ a' := by omega
        refine (r_getR (r := some (z + 10)) hc rfl).trans (r_nn.trans ((r_is hPa.1).trans (r_callE.trans ?_)))
        rw [x1, Option.bind_some]
        dsimp only
        refine (r_put c1 (Nat.le_of_ble_eq_true rfl)).trans ?_
        have pz : ∀ q t, (hm_up M1 z (prC z pk.length q t)).1 z = some (prC z pk.length q t) := fun q t => up_s
        show (b_getR z 0 5 _).1 (hm_up M1 z (prC z pk.length tf 0)) = _
        have o1 : ∀ b, b ≠ z → (hm_up M1 z (prC z pk.length tf 0)).1 b = M1.1 b := fun b hb => up_n hb
        have zAl : (raA : Nat) ≠ z ∧ (raA : Nat) ≠ z + 11 ∧ (raA : Nat) ≠ z + 12 ∧ (raA : Nat) ≠ z + 13 := by
          have q : z + 43 ≤ (raA : Nat) := hA6.1
          exact ⟨Nat.ne_of_gt (by omega), Nat.ne_of_gt (by omega), Nat.ne_of_gt (by omega), Nat.ne_of_gt (by omega)⟩
        have zBl : (raB : Nat) ≠ z ∧ (raB : Nat) ≠ z + 11 ∧ (raB : Nat) ≠ z + 12 ∧ (raB : Nat) ≠ z + 13 := by
          have q : z + 43 ≤ (raB : Nat) := hB6.1
          exact ⟨Nat.ne_of_gt (by omega), Nat.ne_of_gt (by omega), Nat.ne_of_gt (by omega), Nat.ne_of_gt (by omega)⟩
        have kA : M1.1 a = some (.inr (3, [.ref nbA, .long (lN A.2.1), .ref faA, .ref raA])) := (x4.2 _ (by omega) (by omega)).trans hA1
        have kA7 : M1.1 raA = some (.inl (1, A.2.2.2.length, .inr (.inr (.inr (.inr grA))))) := (x4.2 _ zAl.2.1 zAl.2.2.1).trans hA7
        have kB : M1.1 a' = some (.inr (3, [.ref nbB, .long (lN B.2.1), .ref faB, .ref raB])) := (x4.2 _ (by omega) (by omega)).trans hB1
        have kB7 : M1.1 raB = some (.inl (1, B.2.2.2.length, .inr (.inr (.inr (.inr grB))))) := (x4.2 _ zBl.2.1 zBl.2.2.1).trans hB7
        refine (r_getR (r := some (z + 10)) (pz _ _) rfl).trans (r_nn.trans ((r_getR (r := some (z + 11)) ((o1 _ (by omega)).trans c10) rfl).trans (r_nn.trans ((r_getR (r := some raA) ((o1 _ (by omega)).trans kA) rfl).trans (r_nn.trans ((r_len ((o1 _ zAl.1).trans kA7)).trans ((r_is (pz _ _)).trans (r_callE.trans ?_))))))))
        dsimp only
        rw [e_PR_tellAlone, ← l1, show (f_PR_tellAlone_2 N z (some (z + 11)) (nI b1.length) N 0).1 _ = _ from y1, Option.bind_some]
        dsimp only
        refine (r_getI y2 rfl).trans ((r_put y2 (Nat.le_of_ble_eq_true rfl)).trans ?_)
        show (b_getR z 0 5 _).1 (hm_up M2 z (prC z pk.length (alI 0 b1).length (alI 0 b1).length)) = _
        have o2 : ∀ b, b ≠ z → b ≠ z + 13 → (hm_up M2 z (prC z pk.length (alI 0 b1).length (alI 0 b1).length)).1 b = M1.1 b := fun b hb h13 => (up_n hb).trans ((y6 b hb h13).trans (up_n hb))
        have pz2 : (hm_up M2 z (prC z pk.length (alI 0 b1).length (alI 0 b1).length)).1 z = some (prC z pk.length (alI 0 b1).length (alI 0 b1).length) := up_s
        refine (r_getR (r := some (z + 10)) pz2 rfl).trans (r_nn.trans ((r_getR (r := some (z + 12)) ((o2 _ (by omega) (by omega)).trans c10) rfl).trans (r_nn.trans ((r_getR (r := some raB) ((o2 _ (by omega) (by omega)).trans kB) rfl).trans (r_nn.trans ((r_len ((o2 _ zBl.1 zBl.2.2.2).trans kB7)).trans ((r_is pz2).trans (r_callE.trans ?_))))))))
        dsimp only
        rw [e_PR_tellAlone, ← l2, show (f_PR_tellAlone_2 N z (some (z + 12)) (nI b2.length) N 0).1 _ = _ from w1, Option.bind_some]
        dsimp only
        refine (r_getI w2 rfl).trans ?_
        rw [hlen]; rfl
      · rw [hch] at hcc
        by_cases ci : i < (alI 0 b1).length
        · rw [List.getElem?_append_left (by rw [List.length_map]; exact ci), List.getElem?_map, List.getElem?_eq_getElem ci] at hcc
          cases hcc
          refine ⟨w4 i _ (by rw [List.getElem?_append_left ci, List.getElem?_eq_getElem ci]), ?_⟩
          rw [if_pos ci]
        · rw [List.getElem?_append_right (by rw [List.length_map]; omega), List.getElem?_map, List.length_map] at hcc
          cases hq : (alI 0 b2)[i - (alI 0 b1).length]? with
          | none => rw [hq] at hcc; cases hcc
          | some q =>
            rw [hq] at hcc
            cases hcc
            refine ⟨w4 i _ (by rw [List.getElem?_append_right (by omega)]; exact hq), ?_⟩
            rw [if_neg ci]
      · exact ⟨by rw [s3, x4.1]; exact Nat.le_refl _, by rw [s3, x4.1]; omega, by rw [s3, x4.1]; omega, fun b hb1 hb2 => (fr3 b (by omega) (by omega)).trans (x4.2 b (by omega) (by omega))⟩
end CDIF
