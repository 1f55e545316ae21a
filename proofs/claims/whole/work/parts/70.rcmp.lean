/-! LAYER 2: rows compared, in the reference -/
/-- two rows of two packages are alike -/
def isL (x y : aR) : Bool := ordR x y == 0 && (x.2.2.2.2.1 == y.2.2.2.2.1 && (x.2.2.2.2.2.1 == y.2.2.2.2.2.1 && cmpN x.2.2.2.1 y.2.2.2.1 == 0))
/-- the first that isn't taken and alike -/
def ffn (x : aR) : List aR → List Bool → Nat → Option Nat
  | y :: ys, b :: bs, j => if b = false ∧ isL x y = true then some j else ffn x ys bs (j + 1)
  | _, _, _ => none
/-- which of the first are paired, which of the second are taken -/
def prL (lb : List aR) : List aR → List Bool → List Bool × List Bool
  | [], t => ([], t)
  | x :: xs, t => match ffn x lb t 0 with
    | some j => (true :: (prL lb xs (t.set j true)).1, (prL lb xs (t.set j true)).2)
    | none => (false :: (prL lb xs t).1, (prL lb xs t).2)
/-- the places of those left alone -/
def alI : Nat → List Bool → List Nat
  | _, [] => []
  | i, b :: l => if b = true then alI (i + 1) l else i :: alI (i + 1) l
def flF (lb : List aR) : List Bool := List.replicate lb.length false
/-- what is in one of both alone -/
def alone (la lb : List aR) : List (Nat × Nat) := (alI 0 (prL lb la (flF lb)).1).map (fun i => (0, i)) ++ (alI 0 (prL lb la (flF lb)).2).map (fun i => (1, i))
/-- the flags in the reference's array -/
def TK (s : rS) (t : List Bool) : Prop := t.length ≤ 200 ∧ ∀ j b, t[j]? = some b → s.2.2.1 27 j = bZ b
section RCMP
variable {N : Nat} {M : hM} {m p : Nat} {s s' s'' : rS} {f : Nat → Int32} {n : Nat} {pk : List aPk} {ch : List (Nat × Nat)} {pr : List Int32}
theorem TK.k {t : List Bool} (h : TK s t) (g : ks s s') : TK s' t := ⟨h.1, fun j b hb => by rw [g.2.2.2 27 (by omega) (by omega)]; exact h.2 j b hb⟩
theorem m_isLike {r r' : Nat} {x y : aR} (hN : 2001 ≤ N) (hr : r < 8200) (hr' : r' < 8200) (hx : RR s r x) (hy : RR s r' y) (wx : wfR x) (wy : wfR y) :
    ∃ s', (f_MD_isLike N m (nI r) (nI r')).1 (ov M m s) = some (bZ (isL x y), ov M m s') ∧ ks s s' := by
  have i1 : ¬ (nI r < 0 ∨ 8200 ≤ (nI r).toNatClampNeg) := nI_in hr (by decide)
  have c1 := nI_clamp (n := r) (by omega)
  have i2 : ¬ (nI r' < 0 ∨ 8200 ≤ (nI r').toNatClampNeg) := nI_in hr' (by decide)
  have c2 := nI_clamp (n := r') (by omega)
  have e20 : (20 : Int32) * nI r = nI (20 * r) := nI_mul
  have e20' : (20 : Int32) * nI r' = nI (20 * r') := nI_mul
  obtain ⟨s1, r1, r2⟩ := m_order (N := N) (M := M) (m := m) hN hr hr' hx hy wx wy
  have hx1 := hx.k r2
  have hy1 := hy.k r2
  rw [e_MD_isLike, r_let, r_let, mI_is, r_callE, r1, Option.bind_some]
  unfold isL
  by_cases d1 : ordR x y = 0
  · rw [r_if_t d1, show (ordR x y == 0) = true from by rw [beq_iff_eq]; exact d1, Bool.true_and]
    simp only [mR_25, r_nn, mA_18 i1, mA_18 i2, c1, c2, hx1.1.2.2.2.2.2.2.1, hy1.1.2.2.2.2.2.2.1]
    by_cases d2 : x.2.2.2.2.1 = y.2.2.2.2.1
    · rw [r_if_t (lg_eq.mpr d2), show (x.2.2.2.2.1 == y.2.2.2.2.1) = true from by rw [beq_iff_eq]; exact d2, Bool.true_and]
      simp only [mR_26, r_nn, mA_19 i1, mA_19 i2, c1, c2, hx1.1.2.2.2.2.2.2.2.1, hy1.1.2.2.2.2.2.2.2.1]
      by_cases d3 : x.2.2.2.2.2.1 = y.2.2.2.2.2.1
      · rw [r_if_t (lg_eq.mpr d3), show (x.2.2.2.2.2.1 == y.2.2.2.2.2.1) = true from by rw [beq_iff_eq]; exact d3, Bool.true_and]
        obtain ⟨s2, u1, u2⟩ := m_compare (N := N) (M := M) (m := m) hN (hx1.o wx hr) (hy1.o wy hr')
        simp only [mR_24, mR_22, r_nn, mA_15 i1, mA_15 i2, c1, c2, hx1.1.2.2.2.2.1, hy1.1.2.2.2.2.1, e20, e20', mI_is, r_callE, u1, Option.bind_some]
        refine ⟨s2, ?_, r2.tr u2⟩
        by_cases d4 : cmpN x.2.2.2.1 y.2.2.2.1 = 0
        · rw [r_if_t d4, show (cmpN x.2.2.2.1 y.2.2.2.1 == 0) = true from by rw [beq_iff_eq]; exact d4]; exact rZ1
        · rw [r_if_f d4, show (cmpN x.2.2.2.1 y.2.2.2.1 == 0) = false from by rw [beq_eq_false_iff_ne]; exact d4]; exact rZ0
      · rw [r_if_f (fun z => d3 (lg_eq.mp z)), show (x.2.2.2.2.2.1 == y.2.2.2.2.2.1) = false from by rw [beq_eq_false_iff_ne]; exact d3, Bool.false_and]
        exact ⟨s1, rZ0, r2⟩
    · rw [r_if_f (fun z => d2 (lg_eq.mp z)), show (x.2.2.2.2.1 == y.2.2.2.2.1) = false from by rw [beq_eq_false_iff_ne]; exact d2, Bool.false_and]
      exact ⟨s1, rZ0, r2⟩
  · rw [r_if_f d1, show (ordR x y == 0) = false from by rw [beq_eq_false_iff_ne]; exact d1, Bool.false_and]
    exact ⟨s1, rZ0, r2⟩
/-- one more is told -/
theorem m_tell {w i : Nat} (hw : w = 0 ∨ w = 1) (hI : RInv s f n pk ch pr) (hl : ch.length < 400) {t : List Bool} (hT : TK s t) : ∃ s', (f_MD_tell N m (nI w) (nI i)).1 (ov M m s) = some ((), ov M m s') ∧ RInv s' f n pk (ch ++ [(w, i)]) pr ∧ TK s' t := by
  obtain ⟨a1, a2, a3, a4, a5, ⟨a6, a7, a8⟩, b⟩ := hI
  have i1 : ¬ (nI ch.length < 0 ∨ 400 ≤ (nI ch.length).toNatClampNeg) := nI_in hl (by decide)
  have c1 := nI_clamp (n := ch.length) (by omega)
  refine ⟨(va_up s.1 39 (nI (ch.length + 1)), s.2.1, va_up (va_up s.2.2.1 25 (va_up (s.2.2.1 25) ch.length (nI w))) 26 (va_up (s.2.2.1 26) ch.length (nI i)), s.2.2.2), ?_, ⟨a1, a2, a3, a4, a5, ⟨by rw [List.length_append]; rfl, by rw [List.length_append]; exact hl, fun j c hc => ?_⟩, b⟩, hT⟩
  · rw [e_MD_tell, r_let]
    rcases hw with e | e <;> subst e
    · simp only [mR_40, mI_39, a6, show nI 0 = 0 from rfl, if_true, r_nn, mS_25 i1, c1, mR_41, mS_26 i1, nI_1, mP_39, r_ret, ua_n (show ¬ 26 = 25 by decide)]
    · simp only [mR_40, mI_39, a6, show nI 1 = 1 from rfl, show ¬ (1 : Int32) = 0 by decide, if_false, r_nn, mS_25 i1, c1, mR_41, mS_26 i1, nI_1, mP_39, r_ret, ua_n (show ¬ 26 = 25 by decide)]
  · show va_up (s.2.2.1 25) ch.length (nI w) j = nI c.1 ∧ va_up (s.2.2.1 26) ch.length (nI i) j = nI c.2
    rcases app_get hc with d | ⟨d1, d2⟩
    · have hj := (List.getElem?_eq_some_iff.mp d).1
      rw [ua_n (by omega), ua_n (by omega)]; exact a8 j c d
    · rw [d1, d2, ua_s, ua_s]; exact ⟨rfl, rfl⟩
theorem TK.set {t : List Bool} {j : Nat} (h : TK s t) (hj : j < t.length) : TK (s.1, s.2.1, va_up s.2.2.1 27 (va_up (s.2.2.1 27) j 1), s.2.2.2) (t.set j true) := by
  refine ⟨by rw [List.length_set]; exact h.1, fun k b hb => ?_⟩
  show va_up (s.2.2.1 27) j 1 k = bZ b
  by_cases c : k = j
  · subst c
    rw [List.getElem?_set_self hj] at hb
    cases hb
    rw [ua_s]; rfl
  · rw [List.getElem?_set_ne (Ne.symm c)] at hb
    rw [ua_n c]; exact h.2 k b hb
theorem RInv.tk {A : Nat → Int32} (h : RInv s f n pk ch pr) : RInv (s.1, s.2.1, va_up s.2.2.1 27 A, s.2.2.2) f n pk ch pr := h
theorem m_cmp48 {qa qb i c : Nat} {A B : aPk} {tl : Bool} {x : aR} {K34 : Int32 → Int32 → hX Int32} (hN : 2001 ≤ N) (ha : pk[qa]? = some A) (hb : pk[qb]? = some B) (hx : A.2.2.2[i]? = some x) (hc : tl = true → ch.length < 400) (hcn : c < 1000) : ∀ (d fu j : Nat) (s : rS) (t : List Bool), d + j = B.2.2.2.length → d < fu → t.length = B.2.2.2.length → RInv s f n pk ch pr → TK s t →
    ∃ s', (f_MD_compareRows_48 N m (nI qa) (nI qb) (bZ tl) K34 fu (nI c) (nI i) (nI j)).1 (ov M m s) = (match ffn x (B.2.2.2.drop j) (t.drop j) j with
      | some j' => (K34 (nI c) (nI (i + 1))).1 (ov M m s')
      | none => (K34 (nI (c + 1)) (nI (i + 1))).1 (ov M m s')) ∧ (match ffn x (B.2.2.2.drop j) (t.drop j) j with
      | some j' => RInv s' f n pk ch pr ∧ TK s' (t.set j' true)
      | none => RInv s' f n pk (if tl = true then ch ++ [(0, i)] else ch) pr ∧ TK s' t) := by
  intro d
  induction d with
  | zero =>
    intro fu j s t h1 h2 ht hI hT
    obtain ⟨fu, rfl⟩ : ∃ g, fu = g + 1 := ⟨fu - 1, by omega⟩
    have hB := hI.2.2.2.2.1 qb B hb
    have hqb := (List.getElem?_eq_some_iff.mp hb).1
    have h40 := hI.2.2.1
    have ip : ¬ (nI qb < 0 ∨ 41 ≤ (nI qb).toNatClampNeg) := nI_in (by omega) (by decide)
    have cp := nI_clamp (n := qb) (by omega)
    have hl := hB.2.2.2.2.2.1
    rw [List.drop_eq_nil_of_le (show B.2.2.2.length ≤ j by omega)]
    rw [show ffn x [] (t.drop j) j = none from by unfold ffn; rfl]
    dsimp only
    have c1 : nI B.2.2.2.length ≤ nI j := nI_le (by omega) (by omega)
    rw [e_MD_compareRows_48, r_let, r_let]
    cases tl with
    | false =>
      refine ⟨s, ?_, hI, hT⟩
      simp only [mR_13, r_nn, mA_6 ip, cp, hB.2.2.2.2.1, c1, if_true, r_let, show bZ false = 0 from rfl, nI_1]
    | true =>
      obtain ⟨s1, u1, u2, u3⟩ := m_tell (N := N) (M := M) (m := m) (w := 0) (i := i) (Or.inl rfl) hI (hc rfl) hT
      refine ⟨s1, ?_, u2, u3⟩
      have u1' : (f_MD_tell N m 0 (nI i)).1 (ov M m s) = some ((), ov M m s1) := u1
      simp only [mR_13, r_nn, mA_6 ip, cp, hB.2.2.2.2.1, c1, if_true, r_let, show bZ true = 1 from rfl, show ¬ (1 : Int32) = 0 by decide, if_false, mI_is, r_callE, u1', Option.bind_some, nI_1]
  | succ d ih =>
    intro fu j s t h1 h2 ht hI hT
    obtain ⟨fu, rfl⟩ : ∃ g, fu = g + 1 := ⟨fu - 1, by omega⟩
    have hB := hI.2.2.2.2.1 qb B hb
    have hA := hI.2.2.2.2.1 qa A ha
    have hqb := (List.getElem?_eq_some_iff.mp hb).1
    have hqa := (List.getElem?_eq_some_iff.mp ha).1
    have hii := (List.getElem?_eq_some_iff.mp hx).1
    have h40 := hI.2.2.1
    have ip : ¬ (nI qb < 0 ∨ 41 ≤ (nI qb).toNatClampNeg) := nI_in (by omega) (by decide)
    have cp := nI_clamp (n := qb) (by omega)
    have hl := hB.2.2.2.2.2.1
    have hla := hA.2.2.2.2.2.1
    have hj : j < B.2.2.2.length := by omega
    have hget : B.2.2.2[j]? = some B.2.2.2[j] := List.getElem?_eq_getElem hj
    have htj : t[j]? = some t[j] := List.getElem?_eq_getElem (by omega)
    have e27 := hT.2 j _ htj
    have i1 : ¬ (nI j < 0 ∨ 200 ≤ (nI j).toNatClampNeg) := nI_in (by omega) (by decide)
    have c1 := nI_clamp (n := j) (by omega)
    have cn : ¬ nI B.2.2.2.length ≤ nI j := nI_ge (by omega) (by omega)
    rw [List.drop_eq_getElem_cons hj, List.drop_eq_getElem_cons (show j < t.length by omega)]
    rw [show ffn x (B.2.2.2[j] :: B.2.2.2.drop (j + 1)) (t[j] :: t.drop (j + 1)) j = if t[j] = false ∧ isL x B.2.2.2[j] = true then some j else ffn x (B.2.2.2.drop (j + 1)) (t.drop (j + 1)) (j + 1) from rfl]
    rw [e_MD_compareRows_48, r_let, r_let]
    simp only [mR_13, r_nn, mA_6 ip, cp, hB.2.2.2.2.1, cn, if_false, mR_42, mA_27 i1, c1, e27]
    obtain ⟨x1, x2⟩ := hA.2.2.2.2.2.2.1 i x hx
    obtain ⟨y1, y2⟩ := hB.2.2.2.2.2.2.1 j _ hget
    have ea : (200 : Int32) * nI qa + nI i = nI (200 * qa + i) := by rw [show (200 : Int32) * nI qa = nI (200 * qa) from nI_mul, nI_add]
    have eb : (200 : Int32) * nI qb + nI j = nI (200 * qb + j) := by rw [show (200 : Int32) * nI qb = nI (200 * qb) from nI_mul, nI_add]
    by_cases d1 : t[j] = true
    · rw [d1, r_if_f (show ¬ bZ true = 0 by decide), if_neg (fun z => by cases z.1), nI_1]
      exact ih fu (j + 1) s t (by omega) (by omega) ht hI hT
    · have d1' : t[j] = false := by cases h : t[j]; rfl; exact absurd h d1
      rw [d1', r_if_t (show bZ false = 0 by decide)]
      obtain ⟨s1, u1, u2⟩ := m_isLike (N := N) (M := M) (m := m) hN (show 200 * qa + i < 8200 by omega) (show 200 * qb + j < 8200 by omega) x1 y1 x2 y2
      rw [ea, eb, mI_is, r_callE, u1, Option.bind_some]
      dsimp only
      by_cases d2 : isL x B.2.2.2[j] = true
      · rw [d2, r_if_f (show ¬ bZ true = 0 by decide), if_pos (show (false = false ∧ true = true) from ⟨rfl, rfl⟩)]
        dsimp only
        have hI1 := hI.ks u2
        have hT1 := hT.k u2
        have hB1 := hB.k u2
        refine ⟨(s1.1, s1.2.1, va_up s1.2.2.1 27 (va_up (s1.2.2.1 27) j 1), s1.2.2.2), ?_, hI1.tk, hT1.set (by omega)⟩
        simp only [r_let, mR_13, r_nn, mA_6 ip, cp, hB1.2.2.2.2.1, cn, if_false, mR_42, mS_27 i1, c1, show vp_nar .boolean 1 = 1 from by decide, nI_1]
      · have d2' : isL x B.2.2.2[j] = false := by cases h : isL x B.2.2.2[j]; rfl; exact absurd h d2
        rw [d2', r_if_t (show bZ false = 0 by decide), if_neg (show ¬ (false = false ∧ false = true) from fun z => by cases z.2), nI_1]
        exact ih fu (j + 1) s1 t (by omega) (by omega) ht (hI.ks u2) (hT.k u2)
end RCMP
