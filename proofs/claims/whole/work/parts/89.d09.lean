/-! LAYER 2: the class's packages: why a row is broken -/
/-- a package's cells, its rows marked by u -/
def pkG (D : Nat) (M : hM) (a : Nat) (P : aPk) (u : Nat → Int32) (gr : Nat → Option Nat) : Prop := (D ≤ a ∧ a < M.2.1) ∧ ∃ nb fa ra gf, M.1 a = some (.inr (3, [.ref nb, .long (lN P.2.1), .ref fa, .ref ra])) ∧ nmA D M nb P.1 ∧ (D ≤ fa ∧ fa < M.2.1) ∧ M.1 fa = some (.inl (3, (dsF P.2.2.1).length, .inr (.inr (.inr (.inr gf))))) ∧ nmsA D M gf (dsF P.2.2.1) ∧ (D ≤ ra ∧ ra < M.2.1) ∧ M.1 ra = some (.inl (1, P.2.2.2.length, .inr (.inr (.inr (.inr gr))))) ∧ (∀ i x, P.2.2.2[i]? = some x → ∃ b, gr i = some b ∧ rwA D M b x (u i) ∧ wfA x) ∧ (∀ i j b, i < P.2.2.2.length → j < P.2.2.2.length → gr i = some b → gr j = some b → i = j)
def pkB (D : Nat) (M : hM) (a : Nat) (P : aPk) (u : Nat → Int32) : Prop := ∃ gr, pkG D M a P u gr
/-- what a package is like -/
def wfP (P : aPk) : Prop := wfN P.1 ∧ (∀ w, w ∈ P.2.2.1 → wfN w) ∧ P.2.2.1.length ≤ 181 ∧ P.2.2.2.length ≤ 200 ∧ (∀ x, x ∈ P.2.2.2 → wfA x) ∧ P.2.1 < 10 ^ 18
section CPK
variable {N D : Nat} {M M' M'' : hM} {a : Nat} {P : aPk} {u : Nat → Int32}
theorem pkB.f (h : pkB D M a P u) (g : dfr D M M') : pkB D M' a P u := by
  obtain ⟨gr, h0, nb, fa, ra, gf, h1, h2, h3, h4, h5, h6, h7, h8, h9⟩ := h
  have l := g.1
  refine ⟨gr, ⟨h0.1, by omega⟩, nb, fa, ra, gf, (g.2 a h0.1 h0.2).trans h1, h2.f g, ⟨h3.1, Nat.lt_of_lt_of_le h3.2 l⟩, (g.2 fa h3.1 h3.2).trans h4, h5.f g, ⟨h6.1, Nat.lt_of_lt_of_le h6.2 l⟩, (g.2 ra h6.1 h6.2).trans h7, fun i x hx => ?_, h9⟩
  obtain ⟨b, b1, b2, b3⟩ := h8 i x hx
  exact ⟨b, b1, b2.f g, b3⟩
theorem s_isNeed {k : Nat} (hk : k < 16) : (f_Kind_isNeed N (nI k)).1 M = some (bZ (decide (k < 5)), M) := by
  rw [e_Kind_isNeed, r_let]
  by_cases c : 4 < k
  · rw [r_if_t (show 4 < nI k from nI_lt (a := 4) c (by omega)), decide_eq_false (by omega)]; exact rZ0
  · rw [r_if_f (show ¬ 4 < nI k from nI_nlt (a := 4) (by omega) (by omega)), decide_eq_true (by omega)]; exact rZ1
theorem dsF_len {fs : List (List Int32)} : (dsF fs).length ≤ fs.length := by
  have := dst_len [] fs
  have e : ([] : List (List Int32)).length = 0 := rfl
  unfold dsF; omega
theorem s_hasFeature {c : Nat} {w : List Int32} (hN : 2001 ≤ N) (hP : wfP P) (h : pkB D M a P u) (hw : wfN w) (hc : nmA D M c w) : (f_Pack_hasFeature N a (some c)).1 M = some (bZ (hasF w P.2.2.1), M) := by
  obtain ⟨gr, h0, nb, fa, ra, gf, h1, h2, h3, h4, h5, _⟩ := h
  have nmc : ∃ fs, M.1 c = some (.inr (2, fs)) := by obtain ⟨_, _, _, _, _, q, _⟩ := hc; exact ⟨_, q⟩
  obtain ⟨fs, nmc⟩ := nmc
  have hl := dsF_len (fs := P.2.2.1)
  have hl2 := hP.2.2.1
  rw [e_Pack_hasFeature]
  refine (r_getR (r := some fa) h1 rfl).trans ((r_getR (r := some fa) h1 rfl).trans (r_nn.trans ((r_len h4).trans (r_nn.trans ((r_is nmc).trans (r_callE.trans ?_))))))
  dsimp only
  rw [s_oneOf hN hw hc h4 (Nat.le_refl _) (by omega) h5, Option.bind_some, hasF_ds hw hP.2.1]
  dsimp only
  cases hasF w P.2.2.1 with
  | true => exact rZ1
  | false => exact rZ0
theorem s_hasO {c : Nat} {w : List Int32} (hN : 2001 ≤ N) (hP : wfP P) (h : pkB D M a P u) (hw : wfN w) (hc : nmA D M c w) : ∀ (d fu i : Nat), d + i = P.2.2.2.length → d < fu → (f_Pack_hasOptionalNeed_2 N a (some c) fu (nI i)).1 M = some (bZ (hasO w (P.2.2.2.drop i)), M) := by
  obtain ⟨gr, h0, nb, fa, ra, gf, h1, h2, h3, h4, h5, h6, h7, h8, _⟩ := h
  have hl2 := hP.2.2.2.1
  intro d
  induction d with
  | zero =>
    intro fu i g1 g2
    obtain ⟨fu, rfl⟩ : ∃ g, fu = g + 1 := ⟨fu - 1, by omega⟩
    rw [e_Pack_hasOptionalNeed_2, r_let, List.drop_eq_nil_of_le (by omega)]
    refine (r_getR (r := some ra) h1 rfl).trans (r_nn.trans ((r_len h7).trans ?_))
    dsimp only
    rw [r_if_t (show nI P.2.2.2.length ≤ nI i from nI_le (by omega) (by omega))]
    exact rZ0
  | succ d ih =>
    intro fu i g1 g2
    obtain ⟨fu, rfl⟩ : ∃ g, fu = g + 1 := ⟨fu - 1, by omega⟩
    have hi : i < P.2.2.2.length := by omega
    obtain ⟨b, b1, b2, b3⟩ := h8 i _ (List.getElem?_eq_getElem hi)
    obtain ⟨_, nb', ob', k1, k2, _⟩ := b2
    have i1 : ¬ (nI i < 0 ∨ P.2.2.2.length ≤ (nI i).toNatClampNeg) := nI_in (by omega) (by omega)
    have c1 := nI_clamp (n := i) (by omega)
    have nmc : ∃ fs, M.1 nb' = some (.inr (2, fs)) := by obtain ⟨_, _, _, _, _, q, _⟩ := k2; exact ⟨_, q⟩
    obtain ⟨fs, nmc⟩ := nmc
    have hk16 := b3.1
    have hf := s_foldsLike (N := N) hN b3.2.1 hw k2 hc
    rw [e_Pack_hasOptionalNeed_2, r_let, List.drop_eq_getElem_cons hi]
    generalize P.2.2.2[i] = x at *
    refine (r_getR (r := some ra) h1 rfl).trans (r_nn.trans ((r_len h7).trans ?_))
    dsimp only
    rw [r_if_f (show ¬ nI P.2.2.2.length ≤ nI i from nI_ge (by omega) (by omega))]
    refine (r_getR (r := some ra) h1 rfl).trans (r_nn.trans ((r_aldR h7 i1).trans ?_))
    rw [c1, b1, r_nn]
    refine (r_getI k1 rfl).trans ?_
    have := ih fu (i + 1) (by omega) (by omega)
    rw [show hasO w (x :: P.2.2.2.drop (i + 1)) = ((x.1 == 3 && cmpN x.2.2.1 w == 0) || hasO w (P.2.2.2.drop (i + 1))) from rfl]
    by_cases c3 : x.1 = 3
    · rw [r_if_t (show nI x.1 = 3 by rw [c3]; rfl)]
      refine (r_getR (r := some ra) h1 rfl).trans (r_nn.trans ((r_aldR h7 i1).trans ?_))
      rw [c1, b1, r_nn]
      refine (r_getR (r := some nb') k1 rfl).trans (r_nn.trans ((r_is nmc).trans (r_callE.trans ?_)))
      rw [hf, Option.bind_some, show (x.1 == 3) = true by rw [c3]; rfl, Bool.true_and]
      dsimp only
      cases (cmpN x.2.2.1 w == 0) with
      | true => rw [r_if_f (show ¬ bZ true = 0 by decide)]; exact rZ1
      | false => rw [r_if_t (show bZ false = 0 by decide), nI_1]; exact this
    · rw [r_if_f (show ¬ nI x.1 = 3 from fun z => c3 ((nI_eq (b := 3) (by omega) (by omega)).mp z)), show (x.1 == 3) = false by simpa using c3, nI_1]; exact this
theorem s_why {b : Nat} {x : aR} {y : Int32} (hN : 2001 ≤ N) (hP : wfP P) (h : pkB D M a P u) (hx : wfA x) (hb : rwA D M b x y) : (f_Pack_whyBroken N a (some b)).1 M = some (whyR P x, M) := by
  have h' := h
  obtain ⟨gr, h0, nb, fa, ra, gf, h1, h2, _⟩ := h
  obtain ⟨_, nb', ob', k1, k2, _⟩ := hb
  have nmc : ∃ fs, M.1 nb' = some (.inr (2, fs)) := by obtain ⟨_, _, _, _, _, q, _⟩ := k2; exact ⟨_, q⟩
  obtain ⟨fs, nmc⟩ := nmc
  have hk := hx.1
  have hl2 := hP.2.2.2.1
  have hf := s_foldsLike (N := N) hN hx.2.1 hP.1 k2 h2
  have hF := s_hasFeature (N := N) hN hP h' hx.2.1 k2
  have hO := s_hasO (N := N) hN hP h' hx.2.1 k2 P.2.2.2.length N 0 (by omega) (by omega)
  rw [List.drop_zero] at hO
  have hE := s_emptyRange (N := N) hx k1
  have eq : ∀ m : Nat, m < 2 ^ 31 → (nI x.1 = nI m ↔ x.1 = m) := fun m hm => nI_eq (by omega) hm
  -- behind the first reason
  have rest : ∀ (J87 : hX Int32), J87 = (b_let (fun (y0 : Int32) => b_ret y0) (fun J99 => b_nn (some b) (fun a1 => b_getI a1 7 6 (fun v2 => (if v2 = 0 then J99 0 else J99 4))))) → (b_nn (some b) (fun a3 => b_is a3 7 (b_call (f_Row_hasEmptyRange N a3) (fun v4 => (if v4 = 0 then b_getI a3 7 0 (fun v8 => (if v8 = 9 then b_getR a3 7 2 (fun r9 => b_is a 3 (b_call (f_Pack_hasFeature N a r9) (fun v10 => (if v10 = 0 then b_getR a3 7 2 (fun r14 => b_is a 3 (b_call (f_Pack_hasOptionalNeed N a r14) (fun v15 => (if v15 = 0 then b_ret (3 : Int32) else J87)))) else J87)))) else J87)) else b_ret (2 : Int32)))))).1 M = some ((if (x.1 < 7 ∨ x.1 = 8) ∧ ¬ x.2.2.2.2.1 < x.2.2.2.2.2.1 then 2 else if x.1 = 9 ∧ hasF x.2.2.1 P.2.2.1 = false ∧ hasO x.2.2.1 P.2.2.2 = false then 3 else if x.2.2.2.2.2.2 = true then 4 else 0), M) := by
    intro J87 e87
    have E87 : J87.1 M = some ((if x.2.2.2.2.2.2 = true then 4 else 0), M) := by
      rw [e87, r_let, r_nn]
      refine (r_getI k1 rfl).trans ?_
      cases x.2.2.2.2.2.2 with
      | true => rw [r_if_f (show ¬ bZ true = 0 by decide), if_pos rfl]; rfl
      | false => rw [r_if_t (show bZ false = 0 by decide), if_neg (by decide)]; rfl
    rw [r_nn]
    refine (r_is k1).trans (r_callE.trans ?_)
    rw [hE, Option.bind_some]
    dsimp only
    by_cases c : (x.1 < 7 ∨ x.1 = 8) ∧ ¬ x.2.2.2.2.1 < x.2.2.2.2.2.1
    · rw [decide_eq_true c, r_if_f (show ¬ bZ true = 0 by decide), if_pos c]; rfl
    · rw [decide_eq_false c, r_if_t (show bZ false = 0 by decide), if_neg c]
      refine (r_getI k1 rfl).trans ?_
      by_cases c9 : x.1 = 9
      · rw [r_if_t (show nI x.1 = 9 by rw [c9]; rfl)]
        refine (r_getR (r := some nb') k1 rfl).trans ((r_is h1).trans (r_callE.trans ?_))
        rw [hF, Option.bind_some]
        dsimp only
        cases eF : hasF x.2.2.1 P.2.2.1 with
        | true => rw [r_if_f (show ¬ bZ true = 0 by decide), if_neg (fun z => Bool.noConfusion z.2.1)]; exact E87
        | false =>
          rw [r_if_t (show bZ false = 0 by decide)]
          refine (r_getR (r := some nb') k1 rfl).trans ((r_is h1).trans (r_callE.trans ?_))
          rw [e_Pack_hasOptionalNeed, show (f_Pack_hasOptionalNeed_2 N a (some nb') N 0).1 M = _ from hO, Option.bind_some]
          dsimp only
          cases eO : hasO x.2.2.1 P.2.2.2 with
          | true => rw [r_if_f (show ¬ bZ true = 0 by decide), if_neg (fun z => Bool.noConfusion z.2.2)]; exact E87
          | false => rw [r_if_t (show bZ false = 0 by decide), if_pos ⟨c9, rfl, rfl⟩]; rfl
      · rw [r_if_f (show ¬ nI x.1 = 9 from fun z => c9 ((eq 9 (by omega)).mp z)), if_neg (fun z => c9 z.1)]; exact E87
  rw [e_Pack_whyBroken]
  unfold whyR
  have two : ∀ (J24 : Int32 → hX Int32), (∀ q : Int32, (J24 q).1 M = some ((if q ≠ 0 ∧ cmpN x.2.2.1 P.1 = 0 then 1 else if (x.1 < 7 ∨ x.1 = 8) ∧ ¬ x.2.2.2.2.1 < x.2.2.2.2.2.1 then 2 else if x.1 = 9 ∧ hasF x.2.2.1 P.2.2.1 = false ∧ hasO x.2.2.1 P.2.2.2 = false then 3 else if x.2.2.2.2.2.2 = true then 4 else 0), M)) → (b_let (J24 1) (fun J19 => b_nn (some b) (fun a27 => b_getI a27 7 0 (fun v28 => b_call (f_Kind_isNeed N v28) (fun v29 => (if v29 = 0 then b_getI a27 7 0 (fun v32 => (if v32 = 8 then J19 else J24 0)) else J19)))))).1 M = some ((if (x.1 < 5 ∨ x.1 = 8) ∧ cmpN x.2.2.1 P.1 = 0 then 1 else if (x.1 < 7 ∨ x.1 = 8) ∧ ¬ x.2.2.2.2.1 < x.2.2.2.2.2.1 then 2 else if x.1 = 9 ∧ hasF x.2.2.1 P.2.2.1 = false ∧ hasO x.2.2.1 P.2.2.2 = false then 3 else if x.2.2.2.2.2.2 = true then 4 else 0), M) := by
    intro J24 h24
    rw [r_let, r_nn]
    refine (r_getI k1 rfl).trans (r_callE.trans ?_)
    rw [s_isNeed hk, Option.bind_some]
    dsimp only
    by_cases c5 : x.1 < 5
    · rw [decide_eq_true c5, r_if_f (show ¬ bZ true = 0 by decide), h24]
      by_cases cn : cmpN x.2.2.1 P.1 = 0
      · rw [if_pos ⟨by decide, cn⟩, if_pos ⟨Or.inl c5, cn⟩]
      · rw [if_neg (fun z => cn z.2), if_neg (c := (x.1 < 5 ∨ x.1 = 8) ∧ cmpN x.2.2.1 P.1 = 0) (fun z => cn z.2)]
    · rw [decide_eq_false c5, r_if_t (show bZ false = 0 by decide)]
      refine (r_getI k1 rfl).trans ?_
      by_cases c8 : x.1 = 8
      · rw [r_if_t (show nI x.1 = 8 by rw [c8]; rfl), h24]
        by_cases cn : cmpN x.2.2.1 P.1 = 0
        · rw [if_pos ⟨by decide, cn⟩, if_pos ⟨Or.inr c8, cn⟩]
        · rw [if_neg (fun z => cn z.2), if_neg (c := (x.1 < 5 ∨ x.1 = 8) ∧ cmpN x.2.2.1 P.1 = 0) (fun z => cn z.2)]
      · rw [r_if_f (show ¬ nI x.1 = 8 from fun z => c8 ((eq 8 (by omega)).mp z)), h24, if_neg (fun z => absurd rfl z.1), if_neg (c := (x.1 < 5 ∨ x.1 = 8) ∧ cmpN x.2.2.1 P.1 = 0) (fun z => by omega)]
  refine r_letJ (fun J24 eJ => two J24 (fun q => ?_))
  rw [eJ]
  dsimp only
  rw [r_let]
  by_cases cq : q = 0
  · rw [r_if_t cq, if_neg (fun z => z.1 cq)]
    exact rest _ rfl
  · rw [r_if_f cq, r_nn]
    refine (r_getR (r := some nb') k1 rfl).trans ((r_getR (r := some nb) h1 rfl).trans (r_nn.trans ((r_is nmc).trans (r_callE.trans ?_))))
    rw [hf, Option.bind_some]
    dsimp only
    by_cases cn : cmpN x.2.2.1 P.1 = 0
    · rw [show (cmpN x.2.2.1 P.1 == 0) = true by rw [beq_iff_eq]; exact cn, r_if_f (show ¬ bZ true = 0 by decide), if_pos ⟨cq, cn⟩]; rfl
    · rw [show (cmpN x.2.2.1 P.1 == 0) = false by rw [beq_eq_false_iff_ne]; exact cn, r_if_t (show bZ false = 0 by decide), if_neg (fun z => cn z.2)]
      exact rest _ rfl
end CPK
