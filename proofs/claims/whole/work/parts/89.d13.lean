/-! LAYER 2: what the class holds between calls; its questions -/
def okP (P : aPk) : Prop := wfP P ∧ List.Pairwise (fun x y => oz x y ≤ 0) P.2.2.2 ∧ (prP P).length ≤ 4181
def prC (z np tf nc : Nat) : va_E := .inr (0, [.ref (z + 1), .ref (z + 2), .ref (z + 7), .int (nI np), .ref (z + 8), .ref (z + 10), .ref (z + 13), .int (nI tf), .int (nI nc)])
def cSc (z : Nat) (M : hM) (f : Nat → Int32) (n : Nat) : Prop := (∃ v : sV, M.1 (z + 2) = some (scC (z + 3) v) ∧ v.1 = nI n) ∧ M.1 (z + 3) = some (.inl (0, 2000, .inl f)) ∧ n ≤ 2000 ∧ fit8 f
def cPk (z : Nat) (M : hM) (pk : List aPk) : Prop := pk.length ≤ 40 ∧ ∃ gp, M.1 (z + 7) = some (.inl (4, 40, .inr (.inr (.inr (.inr gp))))) ∧ ∀ q P, pk[q]? = some P → okP P ∧ ∃ a, gp q = some a ∧ pkB (z + 43) M a P (yW P)
def cPr (z : Nat) (M : hM) (pr : List Int32) : Prop := M.1 (z + 8) = some (.inr (5, [.ref (z + 9), .int (nI pr.length)])) ∧ pr.length ≤ 4181 ∧ ∃ fp, M.1 (z + 9) = some (.inl (0, 4181, .inl fp)) ∧ ∀ i c, pr[i]? = some c → fp i = c
def cPa (z : Nat) (M : hM) : Prop := M.1 (z + 10) = some (.inr (4, [.ref (z + 11), .ref (z + 12)])) ∧ (∃ b, M.1 (z + 11) = some (.inl (5, 200, .inl b))) ∧ ∃ b, M.1 (z + 12) = some (.inl (5, 200, .inl b))
def cTo (z : Nat) (M : hM) (ch : List (Nat × Nat)) (tf : Nat) : Prop := ch.length ≤ 400 ∧ tf ≤ ch.length ∧ ∃ ft, M.1 (z + 13) = some (.inl (2, 400, .inl ft)) ∧ ∀ i c, ch[i]? = some c → ft i = nI c.2 ∧ c.1 = if i < tf then 0 else 1
def CI (z : Nat) (M : hM) (f : Nat → Int32) (n : Nat) (pk : List aPk) (ch : List (Nat × Nat)) (pr : List Int32) : Prop := ∃ tf, M.1 z = some (prC z pk.length tf ch.length) ∧ cSc z M f n ∧ shp z M ∧ cPk z M pk ∧ cPr z M pr ∧ cPa z M ∧ cTo z M ch tf
section CQ
variable {N z : Nat} {M M' : hM} {f : Nat → Int32} {n : Nat} {pk : List aPk} {ch : List (Nat × Nat)} {pr : List Int32}
theorem cPk.fr (h : cPk z M pk) (g : dfr (z + 43) M M') (e : M'.1 (z + 7) = M.1 (z + 7)) : cPk z M' pk := by
  obtain ⟨h1, gp, h2, h3⟩ := h
  refine ⟨h1, gp, e.trans h2, fun q P hP => ?_⟩
  obtain ⟨k1, a, k2, k3⟩ := h3 q P hP
  exact ⟨k1, a, k2, k3.f g⟩
theorem cSc.fr (h : cSc z M f n) (e2 : M'.1 (z + 2) = M.1 (z + 2)) (e3 : M'.1 (z + 3) = M.1 (z + 3)) : cSc z M' f n := by
  obtain ⟨⟨v, h1, h2⟩, h3, h4⟩ := h
  exact ⟨⟨v, e2.trans h1, h2⟩, e3.trans h3, h4⟩
theorem shp.fr (h : shp z M) (g : M.2.1 ≤ M'.2.1) (e1 : M'.1 (z + 1) = M.1 (z + 1)) (e4 : M'.1 (z + 4) = M.1 (z + 4)) (e5 : M'.1 (z + 5) = M.1 (z + 5)) (e6 : M'.1 (z + 6) = M.1 (z + 6)) : shp z M' := by
  obtain ⟨h1, h2, h3, h4, h5⟩ := h
  unfold shp
  rw [e1, e4, e5, e6]
  exact ⟨h1, h2, h3, h4, Nat.le_trans h5 g⟩
theorem cPr.fr (h : cPr z M pr) (e8 : M'.1 (z + 8) = M.1 (z + 8)) (e9 : M'.1 (z + 9) = M.1 (z + 9)) : cPr z M' pr := by unfold cPr at *; rw [e8, e9]; exact h
theorem cPa.fr (h : cPa z M) (e10 : M'.1 (z + 10) = M.1 (z + 10)) (e11 : M'.1 (z + 11) = M.1 (z + 11)) (e12 : M'.1 (z + 12) = M.1 (z + 12)) : cPa z M' := by unfold cPa at *; rw [e10, e11, e12]; exact h
theorem cTo.fr {tf : Nat} (h : cTo z M ch tf) (e13 : M'.1 (z + 13) = M.1 (z + 13)) : cTo z M' ch tf := by unfold cTo at *; rw [e13]; exact h
/-- the reference's cells don't matter -/
theorem CI.fr (h : CI z M f n pk ch pr) (g : M.2.1 ≤ M'.2.1) (e : ∀ b, b < M.2.1 → (b < z + 14 ∨ z + 43 ≤ b) → M'.1 b = M.1 b) : CI z M' f n pk ch pr := by
  obtain ⟨tf, h1, h2, h3, h4, h5, h6, h7⟩ := h
  have hz := h3.2.2.2.2
  have e' : ∀ b, b < z + 14 → M'.1 b = M.1 b := fun b hb => e b (by omega) (Or.inl hb)
  exact ⟨tf, (e' _ (by omega)).trans h1, h2.fr (e' _ (by omega)) (e' _ (by omega)), h3.fr g (e' _ (by omega)) (e' _ (by omega)) (e' _ (by omega)) (e' _ (by omega)), h4.fr ⟨g, fun b hb hb2 => e b hb2 (Or.inr hb)⟩ (e' _ (by omega)), h5.fr (e' _ (by omega)) (e' _ (by omega)), h6.fr (e' _ (by omega)) (e' _ (by omega)) (e' _ (by omega)), h7.fr (e' _ (by omega))⟩
theorem s_packOf {x : Int32} (h : CI z M f n pk ch pr) : ∃ r, (f_PR_packOf N z x).1 M = some (r, M) ∧ match pkOf pk x with
    | none => r = none
    | some P => okP P ∧ ∃ a, r = some a ∧ pkB (z + 43) M a P (yW P) := by
  obtain ⟨tf, h1, _, _, ⟨h40, gp, h2, h3⟩, _⟩ := h
  rw [e_PR_packOf, r_let, r_let]
  unfold pkOf
  by_cases c : x < 0
  · rw [r_if_t c, if_pos c]
    exact ⟨none, rfl, rfl⟩
  · rw [r_if_f c, if_neg c]
    obtain ⟨e, hl⟩ := i_nat c
    rw [(show (b_getI z 0 3 (fun v1 => (if x < v1 then b_getR z 0 2 (fun r2 => b_nn r2 (fun a3 => b_aldR a3 4 x (fun r4 => (fun (y0 : Option Nat) => b_ret y0) r4))) else (fun (y0 : Option Nat) => b_ret y0) none))).1 M = _ from r_getI h1 rfl)]
    by_cases d : x.toNatClampNeg < pk.length
    · rw [r_if_t (show x < nI pk.length by rw [e]; exact nI_lt d (by omega))]
      obtain ⟨k1, a, k2, k3⟩ := h3 x.toNatClampNeg _ (List.getElem?_eq_getElem d)
      rw [List.getElem?_eq_getElem d]
      refine ⟨some a, ?_, k1, a, rfl, k3⟩
      refine (r_getR (r := some (z + 7)) h1 rfl).trans (r_nn.trans ((r_aldR h2 (fun z => z.elim c (fun y => by omega))).trans ?_))
      rw [k2]; rfl
    · rw [r_if_f (show ¬ x < nI pk.length by rw [e]; exact nI_nlt (by omega) (by omega)), List.getElem?_eq_none (by omega)]
      exact ⟨none, rfl, rfl⟩
theorem s_rows {x : Int32} (h : CI z M f n pk ch pr) : (f_PR_rows N z x).1 M = some ((match pkOf pk x with
    | some P => nI P.2.2.2.length
    | none => -1), M) := by
  obtain ⟨r, h1, h2⟩ := s_packOf (N := N) (x := x) h
  obtain ⟨tf, hc, _⟩ := h
  rw [e_PR_rows, r_let]
  refine (r_is hc).trans (r_callE.trans ?_)
  rw [h1, Option.bind_some]
  dsimp only
  cases hp : pkOf pk x with
  | none =>
    rw [hp] at h2
    rw [r_if_t h2]; rfl
  | some P =>
    rw [hp] at h2
    obtain ⟨_, a, e, gr, _, nb, fa, ra, gf, k1, _, _, _, _, _, k7, _⟩ := h2
    rw [e, r_if_f (show ¬ some a = none from fun z => by cases z), r_nn]
    refine (r_getR (r := some ra) k1 rfl).trans (r_nn.trans ((r_len k7).trans rfl))
theorem s_rowOf {x i : Int32} (h : CI z M f n pk ch pr) : ∃ r, (f_PR_rowOf N z x i).1 M = some (r, M) ∧ match pkOf pk x with
    | none => r = none
    | some P => match rwAt P i with
      | none => r = none
      | some y => ∃ b, r = some b ∧ rwA (z + 43) M b y (whyR P y) ∧ wfA y := by
  obtain ⟨r, h1, h2⟩ := s_packOf (N := N) (x := x) h
  obtain ⟨tf, hc, _⟩ := h
  rw [e_PR_rowOf, r_let, r_let]
  rw [(r_is hc).trans r_callE, h1, Option.bind_some]
  dsimp only
  cases hp : pkOf pk x with
  | none =>
    rw [hp] at h2
    rw [r_if_t h2]
    exact ⟨none, rfl, rfl⟩
  | some P =>
    rw [hp] at h2
    obtain ⟨hok, a, e, gr, _, nb, fa, ra, gf, k1, _, _, _, _, _, k7, k8, _⟩ := h2
    have hl := hok.1.2.2.2.1
    rw [e, r_if_f (show ¬ some a = none from fun z => by cases z)]
    dsimp only
    unfold rwAt
    by_cases c : i < 0
    · rw [r_if_t c, if_pos c]
      exact ⟨none, rfl, rfl⟩
    · rw [r_if_f c, if_neg c, r_nn]
      obtain ⟨ei, hil⟩ := i_nat c
      rw [(show (b_getR a 3 3 (fun r6 => b_nn r6 (fun a7 => b_len a7 1 (fun v8 => (if i < v8 then b_getR a 3 3 (fun r9 => b_nn r9 (fun a10 => b_aldR a10 1 i (fun r11 => (fun (y0 : Option Nat) => b_ret y0) r11))) else (fun (y0 : Option Nat) => b_ret y0) none))))).1 M = _ from (r_getR (r := some ra) k1 rfl).trans (r_nn.trans (r_len k7)))]
      dsimp only
      by_cases d : i.toNatClampNeg < P.2.2.2.length
      · rw [r_if_t (show i < nI P.2.2.2.length by rw [ei]; exact nI_lt d (by omega)), List.getElem?_eq_getElem d]
        obtain ⟨b, b1, b2, b3⟩ := k8 _ _ (List.getElem?_eq_getElem d)
        have hy : yW P i.toNatClampNeg = whyR P P.2.2.2[i.toNatClampNeg] := by unfold yW; rw [List.getElem?_eq_getElem d]
        rw [hy] at b2
        refine ⟨some b, ?_, b, rfl, b2, b3⟩
        refine (r_getR (r := some ra) k1 rfl).trans (r_nn.trans ((r_aldR k7 (fun z => z.elim c (fun y => by omega))).trans ?_))
        rw [b1]; rfl
      · rw [r_if_f (show ¬ i < nI P.2.2.2.length by rw [ei]; exact nI_nlt (by omega) (by omega)), List.getElem?_eq_none (by omega)]
        exact ⟨none, rfl, rfl⟩
theorem s_row {x i w : Int32} (h : CI z M f n pk ch pr) : (f_PR_row N z x i w).1 M = some (ansRow pk x i w, M) := by
  obtain ⟨r, h1, h2⟩ := s_rowOf (N := N) (x := x) (i := i) h
  obtain ⟨tf, hc, _⟩ := h
  rw [e_PR_row]
  refine (r_is hc).trans (r_callE.trans ?_)
  rw [h1, Option.bind_some]
  dsimp only
  unfold ansRow
  cases hp : pkOf pk x with
  | none =>
    rw [hp] at h2
    rw [r_if_t h2]; rfl
  | some P =>
    rw [hp] at h2
    dsimp only at h2 ⊢
    cases hr : rwAt P i with
    | none =>
      rw [hr] at h2
      rw [r_if_t h2]; rfl
    | some y =>
      rw [hr] at h2
      obtain ⟨b, e, ⟨_, nb, ob, k1, k2, k3, k4⟩, hy⟩ := h2
      obtain ⟨p1, p2, _, _, _, q1, q2, q3⟩ := k2
      rw [e, r_if_f (show ¬ some b = none from fun z => by cases z)]
      dsimp only
      by_cases c0 : w = 0
      · rw [r_if_t c0, if_pos c0, r_nn]; exact (r_getI k1 rfl).trans rfl
      · rw [r_if_f c0, if_neg c0]
        by_cases c1 : w = 1
        · rw [r_if_t c1, if_pos c1, r_nn]; exact (r_getI k1 rfl).trans rfl
        · rw [r_if_f c1, if_neg c1]
          by_cases c2 : w = 2
          · rw [r_if_t c2, if_pos c2, r_nn]
            exact (r_getR (r := some nb) k1 rfl).trans (r_nn.trans ((r_getR (r := some p1) q1 rfl).trans (r_nn.trans ((r_len q2).trans rfl))))
          · rw [r_if_f c2, if_neg c2]
            by_cases c3 : w = 3
            · rw [r_if_t c3, if_pos c3, r_nn]
              exact (r_getR (r := some nb) k1 rfl).trans (r_nn.trans ((r_getI q1 rfl).trans rfl))
            · rw [r_if_f c3, if_neg c3]
              by_cases c4 : w = 4
              · rw [r_if_t c4, if_pos c4, r_nn]; exact (r_getI k1 rfl).trans rfl
              · rw [r_if_f c4, if_neg c4]; rfl
theorem sgAt_nil {k : Int32} : sgAt [] k = -1 := by
  unfold sgAt
  by_cases c : k < 0
  · rw [if_pos c]
  · rw [if_neg c, if_pos (show nI ([] : List Int32).length ≤ k from Int32.not_lt.mp c)]
theorem s_letter {x i w k : Int32} (h : CI z M f n pk ch pr) : (f_PR_letter N z x i w k).1 M = some (ansLet pk x i w k, M) := by
  obtain ⟨r, h1, h2⟩ := s_rowOf (N := N) (x := x) (i := i) h
  obtain ⟨tf, hc, _⟩ := h
  rw [e_PR_letter, r_let]
  refine (r_is hc).trans (r_callE.trans ?_)
  rw [h1, Option.bind_some]
  dsimp only
  unfold ansLet
  cases hp : pkOf pk x with
  | none =>
    rw [hp] at h2
    rw [r_if_t h2, show rwOf pk x i = none by unfold rwOf; rw [hp]; rfl]; rfl
  | some P =>
    rw [hp] at h2
    rw [rwOf_s hp]
    dsimp only at h2
    cases hr : rwAt P i with
    | none =>
      rw [hr] at h2
      rw [r_if_t h2]; rfl
    | some y =>
      rw [hr] at h2
      obtain ⟨b, e, ⟨_, nb, ob, k1, k2, k3, k4⟩, hy⟩ := h2
      have hw := s_writtenAt (N := N) (k := k) hy.2.1 k2
      have hf := s_foldedAt (N := N) (k := k) hy.2.1 k2
      have nmc : ∃ fs, M.1 nb = some (.inr (2, fs)) := by obtain ⟨_, _, _, _, _, q, _⟩ := k2; exact ⟨_, q⟩
      obtain ⟨fs, nmc⟩ := nmc
      rw [e, r_if_f (show ¬ some b = none from fun z => by cases z)]
      dsimp only
      by_cases c0 : w = 0
      · rw [r_if_t c0, if_pos c0, r_nn]
        refine (r_getR (r := some nb) k1 rfl).trans (r_nn.trans ((r_is nmc).trans (r_callE.trans ?_)))
        rw [hw, Option.bind_some]; rfl
      · rw [r_if_f c0, if_neg c0]
        by_cases c1 : w = 1
        · rw [r_if_t c1, if_pos c1, r_nn]
          refine (r_getR (r := some nb) k1 rfl).trans (r_nn.trans ((r_is nmc).trans (r_callE.trans ?_)))
          rw [hf, Option.bind_some]; rfl
        · rw [r_if_f c1, if_neg c1]
          by_cases c2 : w = 2
          · rw [r_if_t c2, if_pos c2, r_nn]
            refine (r_getR (r := ob) k1 rfl).trans ?_
            by_cases co : y.2.2.2.1 = []
            · rw [r_if_t (k3 co), co, sgAt_nil]; rfl
            · obtain ⟨c, ec, hcn⟩ := k4 co
              have ho := s_writtenAt (N := N) (k := k) hy.2.2.2.1 hcn
              have nmc' : ∃ fs, M.1 c = some (.inr (2, fs)) := by obtain ⟨_, _, _, _, _, q, _⟩ := hcn; exact ⟨_, q⟩
              obtain ⟨fs', nmc'⟩ := nmc'
              rw [r_if_f (show ¬ ob = none from fun z => by rw [ec] at z; cases z)]
              refine (r_getR (r := ob) k1 rfl).trans ?_
              rw [ec, r_nn]
              refine (r_is nmc').trans (r_callE.trans ?_)
              rw [ho, Option.bind_some]; rfl
          · rw [r_if_f c2, if_neg c2]; rfl
theorem s_low {x i : Int32} (h : CI z M f n pk ch pr) : (f_PR_low N z x i).1 M = some ((match rwOf pk x i with
    | some a => a.2.2.2.2.1
    | none => -1), M) := by
  obtain ⟨r, h1, h2⟩ := s_rowOf (N := N) (x := x) (i := i) h
  obtain ⟨tf, hc, _⟩ := h
  rw [e_PR_low, r_let]
  refine (r_is hc).trans (r_callE.trans ?_)
  rw [h1, Option.bind_some]
  dsimp only
  cases hp : pkOf pk x with
  | none =>
    rw [hp] at h2
    rw [r_if_t h2, show rwOf pk x i = none by unfold rwOf; rw [hp]; rfl]; rfl
  | some P =>
    rw [hp] at h2
    rw [rwOf_s hp]
    dsimp only at h2
    cases hr : rwAt P i with
    | none =>
      rw [hr] at h2
      rw [r_if_t h2]; rfl
    | some y =>
      rw [hr] at h2
      obtain ⟨b, e, ⟨_, nb, ob, k1, k2, k3, k4⟩, hy⟩ := h2
      rw [e, r_if_f (show ¬ some b = none from fun z => by cases z), r_nn]
      exact (r_getL k1 rfl).trans rfl
theorem s_high {x i : Int32} (h : CI z M f n pk ch pr) : (f_PR_high N z x i).1 M = some ((match rwOf pk x i with
    | some a => a.2.2.2.2.2.1
    | none => -1), M) := by
  obtain ⟨r, h1, h2⟩ := s_rowOf (N := N) (x := x) (i := i) h
  obtain ⟨tf, hc, _⟩ := h
  rw [e_PR_high, r_let]
  refine (r_is hc).trans (r_callE.trans ?_)
  rw [h1, Option.bind_some]
  dsimp only
  cases hp : pkOf pk x with
  | none =>
    rw [hp] at h2
    rw [r_if_t h2, show rwOf pk x i = none by unfold rwOf; rw [hp]; rfl]; rfl
  | some P =>
    rw [hp] at h2
    rw [rwOf_s hp]
    dsimp only at h2
    cases hr : rwAt P i with
    | none =>
      rw [hr] at h2
      rw [r_if_t h2]; rfl
    | some y =>
      rw [hr] at h2
      obtain ⟨b, e, ⟨_, nb, ob, k1, k2, k3, k4⟩, hy⟩ := h2
      rw [e, r_if_f (show ¬ some b = none from fun z => by cases z), r_nn]
      exact (r_getL k1 rfl).trans rfl
theorem s_chk_loop {a : Nat} {P : aPk} {x : Int32} (hP : wfP P) (h : pkB (z + 43) M a P (yW P)) : ∀ (d fu i : Nat), d + i = P.2.2.2.length → d < fu → (f_PR_check_14 N z x fu (some a) (nI i)).1 M = some (chkL P i (P.2.2.2.drop i), M) := by
  obtain ⟨gr, h0, nb, fa, ra, gf, h1, h2, h3, h4, h5, h6, h7, h8, _⟩ := h
  have hl2 := hP.2.2.2.1
  intro d
  induction d with
  | zero =>
    intro fu i g1 g2
    obtain ⟨fu, rfl⟩ : ∃ g, fu = g + 1 := ⟨fu - 1, by omega⟩
    rw [e_PR_check_14, List.drop_eq_nil_of_le (by omega), r_nn]
    refine (r_getR (r := some ra) h1 rfl).trans (r_nn.trans ((r_len h7).trans ?_))
    dsimp only
    rw [r_if_t (show nI P.2.2.2.length ≤ nI i from nI_le (by omega) (by omega))]; rfl
  | succ d ih =>
    intro fu i g1 g2
    obtain ⟨fu, rfl⟩ : ∃ g, fu = g + 1 := ⟨fu - 1, by omega⟩
    have hi : i < P.2.2.2.length := by omega
    obtain ⟨b, b1, b2, b3⟩ := h8 i _ (List.getElem?_eq_getElem hi)
    have hy : yW P i = whyR P P.2.2.2[i] := by unfold yW; rw [List.getElem?_eq_getElem hi]
    rw [hy] at b2
    obtain ⟨_, nb', ob', k1, k2, _⟩ := b2
    have i1 : ¬ (nI i < 0 ∨ P.2.2.2.length ≤ (nI i).toNatClampNeg) := nI_in (by omega) (by omega)
    have c1 := nI_clamp (n := i) (by omega)
    rw [e_PR_check_14, List.drop_eq_getElem_cons hi, r_nn]
    refine (r_getR (r := some ra) h1 rfl).trans (r_nn.trans ((r_len h7).trans ?_))
    dsimp only
    rw [r_if_f (show ¬ nI P.2.2.2.length ≤ nI i from nI_ge (by omega) (by omega))]
    refine (r_getR (r := some ra) h1 rfl).trans (r_nn.trans ((r_aldR h7 i1).trans ?_))
    rw [c1, b1, r_nn]
    refine (r_getI k1 rfl).trans ?_
    unfold chkL
    by_cases c : whyR P P.2.2.2[i] = 0
    · rw [r_if_t c, if_pos c, nI_1]; exact ih fu (i + 1) (by omega) (by omega)
    · rw [r_if_f c, if_neg c, nI_1]; rfl
theorem s_check {x : Int32} (hN : 2001 ≤ N) (h : CI z M f n pk ch pr) : (f_PR_check N z x).1 M = some (ansChk pk x, M) := by
  obtain ⟨r, h1, h2⟩ := s_packOf (N := N) (x := x) h
  obtain ⟨tf, hc, _⟩ := h
  rw [e_PR_check]
  refine (r_is hc).trans (r_callE.trans ?_)
  rw [h1, Option.bind_some]
  dsimp only
  unfold ansChk
  cases hp : pkOf pk x with
  | none =>
    rw [hp] at h2
    rw [r_if_t h2]; rfl
  | some P =>
    rw [hp] at h2
    obtain ⟨hok, a, e, hB⟩ := h2
    rw [e, r_if_f (show ¬ some a = none from fun z => by cases z)]
    have hl := hok.1.2.2.2.1
    have := s_chk_loop (N := N) (x := x) hok.1 hB P.2.2.2.length N 0 (by omega) (by omega)
    rw [List.drop_zero] at this
    exact this
theorem s_change {k w : Int32} (h : CI z M f n pk ch pr) : (f_PR_change N z k w).1 M = some (ansChg ch k w, M) := by
  obtain ⟨tf, hc, _, _, _, _, _, h1, h2, ft, h3, h4⟩ := h
  rw [e_PR_change, r_let]
  unfold ansChg
  by_cases k0 : k < 0
  · rw [r_if_t k0, if_pos k0]; rfl
  · rw [r_if_f k0, if_neg k0]
    obtain ⟨e, hl⟩ := i_nat k0
    refine (r_getI hc rfl).trans ?_
    by_cases d : k.toNatClampNeg < ch.length
    · rw [r_if_t (show k < nI ch.length by rw [e]; exact nI_lt d (by omega)), List.getElem?_eq_getElem d]
      obtain ⟨q1, q2⟩ := h4 _ _ (List.getElem?_eq_getElem d)
      dsimp only
      by_cases c0 : w = 0
      · rw [r_if_t c0, if_pos c0]
        refine (r_getI hc rfl).trans ?_
        rw [q2]
        by_cases ct : k.toNatClampNeg < tf
        · rw [if_pos ct, r_if_f (show ¬ nI tf ≤ k by rw [e]; exact nI_ge ct (by omega))]; rfl
        · rw [if_neg ct, r_if_t (show nI tf ≤ k by rw [e]; exact nI_le (by omega) (by omega))]; rfl
      · rw [r_if_f c0, if_neg c0]
        by_cases c1 : w = 1
        · rw [r_if_t c1, if_pos c1]
          refine (r_getR (r := some (z + 13)) hc rfl).trans (r_nn.trans ((r_ald h3 (fun z => z.elim k0 (fun y => by omega))).trans ?_))
          rw [q1]; rfl
        · rw [r_if_f c1, if_neg c1]; rfl
    · rw [r_if_f (show ¬ k < nI ch.length by rw [e]; exact nI_nlt (by omega) (by omega)), List.getElem?_eq_none (by omega)]; rfl
theorem s_at {k : Int32} (h : CI z M f n pk ch pr) : (f_PR_at N z k).1 M = some (sgAt pr k, M) := by
  obtain ⟨tf, hc, _, _, _, ⟨h1, h2, fp, h3, h4⟩, _⟩ := h
  rw [e_PR_at, r_let, r_let]
  unfold sgAt
  by_cases k0 : k < 0
  · rw [r_if_t k0, if_pos k0]; rfl
  · rw [r_if_f k0, if_neg k0]
    obtain ⟨e, hl⟩ := i_nat k0
    refine (r_getR (r := some (z + 8)) hc rfl).trans (r_nn.trans ((r_getI h1 rfl).trans ?_))
    by_cases d : k.toNatClampNeg < pr.length
    · rw [r_if_t (show k < nI pr.length by rw [e]; exact nI_lt d (by omega)), if_neg (show ¬ nI pr.length ≤ k by rw [e]; exact nI_ge d (by omega))]
      refine (r_getR (r := some (z + 8)) hc rfl).trans (r_nn.trans ((r_getR (r := some (z + 9)) h1 rfl).trans (r_nn.trans ((r_ald h3 (fun z => z.elim k0 (fun y => by omega))).trans ?_))))
      rw [h4 _ _ (List.getElem?_eq_getElem d), List.getD_eq_getElem?_getD, List.getElem?_eq_getElem d]; rfl
    · rw [r_if_f (show ¬ k < nI pr.length by rw [e]; exact nI_nlt (by omega) (by omega)), if_pos (show nI pr.length ≤ k by rw [e]; exact nI_le (by omega) (by omega))]; rfl
end CQ
