/-! LAYER 2: the reference's same and differ -/
def hasA (fa fb : List (List Int32)) : Bool := fa.all (fun w => hasF w fb)
def sameR (A B : aPk) : Bool := A.2.1 == B.2.1 && (cmpN A.1 B.1 == 0 && (hasA A.2.2.1 B.2.2.1 && (hasA B.2.2.1 A.2.2.1 && (alone A.2.2.2 B.2.2.2).length == 0)))
def ansSame (pk : List aPk) (x y : Int32) : Bool := match pkOf pk x with
  | none => false
  | some A => match pkOf pk y with
    | none => false
    | some B => sameR A B
section RSAME
variable {N : Nat} {M : hM} {m p : Nat} {s s' s'' : rS} {f : Nat → Int32} {n : Nat} {pk : List aPk} {ch : List (Nat × Nat)} {pr : List Int32}
theorem m_hasA_loop {qa qb : Nat} {A B : aPk} (hN : 2001 ≤ N) (hqa : qa < 40) (hqb : qb < 40) : ∀ (d fu i : Nat) (b : Bool) (s : rS), d + i = A.2.2.1.length → d < fu → RPk s qa A → RPk s qb B →
    ∃ s', (f_MD_hasAll_9 N m (nI qa) (nI qb) fu (bZ b) (nI (250 * qa + i))).1 (ov M m s) = some (bZ (b && hasA (A.2.2.1.drop i) B.2.2.1), ov M m s') ∧ ks s s' := by
  have ip : ¬ (nI qa < 0 ∨ 41 ≤ (nI qa).toNatClampNeg) := nI_in (by omega) (by decide)
  have cp := nI_clamp (n := qa) (by omega)
  intro d
  induction d with
  | zero =>
    intro fu i b s h1 h2 hA hB
    obtain ⟨fu, rfl⟩ : ∃ g, fu = g + 1 := ⟨fu - 1, by omega⟩
    have hf := hA.2.2.2.1.2.1
    have er : (250 : Int32) * nI qa + nI A.2.2.1.length = nI (250 * qa + A.2.2.1.length) := by rw [show (250 : Int32) * nI qa = nI (250 * qa) from nI_mul, nI_add]
    refine ⟨s, ?_, ks.rf⟩
    rw [e_MD_hasAll_9, r_let, r_let, List.drop_eq_nil_of_le (by omega)]
    simp only [mR_14, r_nn, mA_7 ip, cp, hA.2.2.2.1.1, er, show nI (250 * qa + A.2.2.1.length) ≤ nI (250 * qa + i) from nI_le (by omega) (by omega), if_true]
    rw [show hasA [] B.2.2.1 = true from rfl, Bool.and_true]
    cases b
    · exact rZ0
    · exact rZ1
  | succ d ih =>
    intro fu i b s h1 h2 hA hB
    obtain ⟨fu, rfl⟩ : ∃ g, fu = g + 1 := ⟨fu - 1, by omega⟩
    have hf := hA.2.2.2.1.2.1
    have hi : i < A.2.2.1.length := by omega
    have hget : A.2.2.1[i]? = some A.2.2.1[i] := List.getElem?_eq_getElem hi
    obtain ⟨⟨b1, b2, b3⟩, bw⟩ := hA.2.2.2.1.2.2 i _ hget
    have er : (250 : Int32) * nI qa + nI A.2.2.1.length = nI (250 * qa + A.2.2.1.length) := by rw [show (250 : Int32) * nI qa = nI (250 * qa) from nI_mul, nI_add]
    have e20 : (20 : Int32) * nI (250 * qa + i) = nI (20 * (250 * qa + i)) := nI_mul
    have i1 : ¬ (nI (250 * qa + i) < 0 ∨ 10250 ≤ (nI (250 * qa + i)).toNatClampNeg) := nI_in (by omega) (by decide)
    have c1 := nI_clamp (n := 250 * qa + i) (by omega)
    rw [e_MD_hasAll_9, r_let, r_let, List.drop_eq_getElem_cons hi]
    simp only [mR_14, r_nn, mA_7 ip, cp, hA.2.2.2.1.1, er, show ¬ nI (250 * qa + A.2.2.1.length) ≤ nI (250 * qa + i) from nI_ge (by omega) (by omega), if_false]
    rw [show hasA (A.2.2.1[i] :: A.2.2.1.drop (i + 1)) B.2.2.1 = (hasF A.2.2.1[i] B.2.2.1 && hasA (A.2.2.1.drop (i + 1)) B.2.2.1) from rfl]
    cases b with
    | false =>
      rw [r_if_t (show bZ false = 0 by decide), nI_1]
      obtain ⟨s1, u1, u2⟩ := ih fu (i + 1) false s (by omega) (by omega) hA hB
      refine ⟨s1, ?_, u2⟩
      rw [Bool.false_and] at u1 ⊢
      exact u1
    | true =>
      rw [r_if_f (show ¬ bZ true = 0 by decide)]
      have hN2 : nAt M m s 10 (20 * (250 * qa + i)) A.2.2.1[i] := ⟨205000, by decide, ld_10, by omega, b2, bw, by decide, by decide⟩
      obtain ⟨s1, r1, r2⟩ := m_isFeature (N := N) (M := M) (m := m) hN (show qb ≤ 40 by omega) hN2 hB.2.2.2.1
      simp only [mR_17, mR_18, r_nn, mA_11 i1, c1, b1, e20, mI_is, r_callE, r1, Option.bind_some]
      rw [Bool.true_and]
      cases hh : hasF A.2.2.1[i] B.2.2.1 with
      | false =>
        rw [r_if_t (show bZ false = 0 by decide), nI_1]
        obtain ⟨s2, u1, u2⟩ := ih fu (i + 1) false s1 (by omega) (by omega) (hA.k r2) (hB.k r2)
        refine ⟨s2, ?_, r2.tr u2⟩
        rw [Bool.false_and] at u1 ⊢
        exact u1
      | true =>
        rw [r_if_f (show ¬ bZ true = 0 by decide), nI_1]
        obtain ⟨s2, u1, u2⟩ := ih fu (i + 1) true s1 (by omega) (by omega) (hA.k r2) (hB.k r2)
        exact ⟨s2, u1, r2.tr u2⟩
theorem m_hasAll {qa qb : Nat} {A B : aPk} (hN : 2001 ≤ N) (hqa : qa < 40) (hqb : qb < 40) (hA : RPk s qa A) (hB : RPk s qb B) : ∃ s', (f_MD_hasAll N m (nI qa) (nI qb)).1 (ov M m s) = some (bZ (hasA A.2.2.1 B.2.2.1), ov M m s') ∧ ks s s' := by
  have hf := hA.2.2.2.1.2.1
  obtain ⟨s1, u1, u2⟩ := m_hasA_loop (N := N) (M := M) (m := m) hN hqa hqb A.2.2.1.length N 0 true s (by omega) (by omega) hA hB
  refine ⟨s1, ?_, u2⟩
  rw [e_MD_hasAll, show (250 : Int32) * nI qa = nI (250 * qa + 0) from nI_mul]
  rw [Bool.true_and, List.drop_zero] at u1
  exact u1
theorem m_same {x y : Int32} (hN : 2001 ≤ N) (hv : ∀ P, P ∈ pk → P.2.1 < 2 ^ 63) (h : RInv s f n pk ch pr) : ∃ s', (f_MD_same N m x y).1 (ov M m s) = some (bZ (ansSame pk x y), ov M m s') ∧ RInv s' f n pk ch pr := by
  rw [e_MD_same, r_let, r_let, mP_0, mI_is, r_callE, m_isPackage h.t, Option.bind_some]
  unfold ansSame
  have ht := h.t
  generalize ((va_up s.1 0 0, s.2) : rS) = s0 at *
  cases hp : pkOf pk x with
  | none => exact ⟨s0, rZ0, ht⟩
  | some A =>
    rw [show bZ (some A).isSome = 1 from rfl, r_if_f (show ¬ (1 : Int32) = 0 by decide), mI_is, r_callE, m_isPackage ht, Option.bind_some]
    dsimp only
    cases hp2 : pkOf pk y with
    | none => exact ⟨s0, rZ0, ht⟩
    | some B =>
      rw [show bZ (some B).isSome = 1 from rfl, r_if_f (show ¬ (1 : Int32) = 0 by decide)]
      dsimp only
      obtain ⟨qa, e1, h1, h2, h3, hA, i1, c1⟩ := pkIn ht hp
      obtain ⟨qb, e2, k1, k2, k3, hB, j1, d1⟩ := pkIn ht hp2
      subst e1 e2
      have va := hv A (List.mem_of_getElem? h3)
      have vb := hv B (List.mem_of_getElem? k3)
      simp only [mR_16, r_nn, mA_9 i1, mA_9 j1, c1, d1, hA.2.2.1, hB.2.2.1]
      unfold sameR
      by_cases g1 : A.2.1 = B.2.1
      · rw [r_if_t (lg_eq.mpr (by rw [g1])), show (A.2.1 == B.2.1) = true from by rw [beq_iff_eq]; exact g1, Bool.true_and]
        have nA : nAt M m s0 8 (20 * qa) A.1 := ⟨820, by decide, ld_8, by have := hA.2.2.2.2.2.2.2.1; omega, hA.2.1, hA.2.2.2.2.2.2.2, by decide, by decide⟩
        have nB : nAt M m s0 8 (20 * qb) B.1 := ⟨820, by decide, ld_8, by have := hB.2.2.2.2.2.2.2.1; omega, hB.2.1, hB.2.2.2.2.2.2.2, by decide, by decide⟩
        have e20 : (20 : Int32) * nI qa = nI (20 * qa) := nI_mul
        have e20' : (20 : Int32) * nI qb = nI (20 * qb) := nI_mul
        obtain ⟨s1, u1, u2⟩ := m_compare (N := N) (M := M) (m := m) hN nA nB
        simp only [mR_15, mR_12, r_nn, mA_5 i1, mA_5 j1, c1, d1, hA.1, hB.1, e20, e20', mI_is, r_callE, u1, Option.bind_some]
        by_cases g2 : cmpN A.1 B.1 = 0
        · rw [r_if_t g2, show (cmpN A.1 B.1 == 0) = true from by rw [beq_iff_eq]; exact g2, Bool.true_and]
          obtain ⟨s2, v1, v2⟩ := m_hasAll (N := N) (M := M) (m := m) hN h1 k1 (hA.k u2) (hB.k u2)
          rw [mI_is, r_callE, v1, Option.bind_some]
          cases g3 : hasA A.2.2.1 B.2.2.1 with
          | false => rw [r_if_t (show bZ false = 0 by decide), Bool.false_and]; exact ⟨s2, rZ0, ht.ks (u2.tr v2)⟩
          | true =>
            rw [r_if_f (show ¬ bZ true = 0 by decide), Bool.true_and]
            obtain ⟨s3, w1, w2⟩ := m_hasAll (N := N) (M := M) (m := m) hN k1 h1 (hB.k (u2.tr v2)) (hA.k (u2.tr v2))
            rw [mI_is, r_callE, w1, Option.bind_some]
            cases g4 : hasA B.2.2.1 A.2.2.1 with
            | false => rw [r_if_t (show bZ false = 0 by decide), Bool.false_and]; exact ⟨s3, rZ0, ht.ks ((u2.tr v2).tr w2)⟩
            | true =>
              rw [r_if_f (show ¬ bZ true = 0 by decide), Bool.true_and]
              obtain ⟨s4, x1, x2⟩ := m_cmpRows (N := N) (M := M) (m := m) (tl := false) hN h3 k3 (ht.ks ((u2.tr v2).tr w2)) (fun z => by cases z)
              have x1' : (f_MD_compareRows N m (nI qa) (nI qb) 0).1 (ov M m s3) = some (nI (alone A.2.2.2 B.2.2.2).length, ov M m s4) := x1
              rw [mI_is, r_callE, x1', Option.bind_some]
              refine ⟨s4, ?_, x2⟩
              have hle : (alone A.2.2.2 B.2.2.2).length ≤ 400 := by
                unfold alone
                rw [List.length_append, List.length_map, List.length_map]
                have p1 := prL_len (lb := B.2.2.2) A.2.2.2 (flF B.2.2.2)
                have p2 := alI_len 0 (prL B.2.2.2 A.2.2.2 (flF B.2.2.2)).1
                have p3 := alI_len 0 (prL B.2.2.2 A.2.2.2 (flF B.2.2.2)).2
                have p4 : (flF B.2.2.2).length = B.2.2.2.length := by unfold flF; rw [List.length_replicate]
                have := hA.2.2.2.2.2.1
                have := hB.2.2.2.2.2.1
                omega
              by_cases g5 : (alone A.2.2.2 B.2.2.2).length = 0
              · rw [r_if_t (show nI (alone A.2.2.2 B.2.2.2).length = 0 by rw [g5]; rfl), show ((alone A.2.2.2 B.2.2.2).length == 0) = true from by rw [beq_iff_eq]; exact g5]; exact rZ1
              · rw [r_if_f (show ¬ nI (alone A.2.2.2 B.2.2.2).length = 0 from fun z => g5 ((nI_eq (b := 0) (by omega) (by omega)).mp z)), show ((alone A.2.2.2 B.2.2.2).length == 0) = false from by rw [beq_eq_false_iff_ne]; exact g5]; exact rZ0
        · rw [r_if_f g2, show (cmpN A.1 B.1 == 0) = false from by rw [beq_eq_false_iff_ne]; exact g2, Bool.false_and]
          exact ⟨s1, rZ0, ht.ks u2⟩
      · rw [r_if_f (fun z => g1 (lN_inj (by omega) (by omega) (lg_eq.mp z))), show (A.2.1 == B.2.1) = false from by rw [beq_eq_false_iff_ne]; exact g1, Bool.false_and]
        exact ⟨s0, rZ0, ht⟩
theorem m_differ {x y : Int32} (hN : 2001 ≤ N) (h : RInv s f n pk ch pr) : match pkOf pk x with
    | none => ∃ s', (f_MD_differ N m x y).1 (ov M m s) = some (-1, ov M m s') ∧ RInv s' f n pk ch pr
    | some A => match pkOf pk y with
      | none => ∃ s', (f_MD_differ N m x y).1 (ov M m s) = some (-1, ov M m s') ∧ RInv s' f n pk ch pr
      | some B => ∃ s', (f_MD_differ N m x y).1 (ov M m s) = some (nI (alone A.2.2.2 B.2.2.2).length, ov M m s') ∧ RInv s' f n pk (alone A.2.2.2 B.2.2.2) pr := by
  have go : (f_MD_differ N m x y).1 (ov M m s) = ((f_MD_isPackage N m x).1 (ov M m (va_up s.1 0 0, s.2))).bind (fun Z => (if Z.1 = 0 then b_ret (-1 : Int32) else b_is m 1 (b_call (f_MD_isPackage N m y) (fun v5 => (if v5 = 0 then b_ret (-1 : Int32) else b_put m 1 39 (.int 0) (b_is m 1 (b_call (f_MD_compareRows N m x y 1) (fun v9 => b_ret v9))))))).1 Z.2) := by
    rw [e_MD_differ, mP_0, mI_is, r_callE]
  rw [go, m_isPackage h.t, Option.bind_some]
  have ht := h.t
  clear go
  generalize ((va_up s.1 0 0, s.2) : rS) = s0 at *
  cases hp : pkOf pk x with
  | none => exact ⟨s0, rfl, ht⟩
  | some A =>
    dsimp only
    rw [show bZ (some A).isSome = 1 from rfl, r_if_f (show ¬ (1 : Int32) = 0 by decide), mI_is, r_callE, m_isPackage ht, Option.bind_some]
    cases hp2 : pkOf pk y with
    | none => exact ⟨s0, rfl, ht⟩
    | some B =>
      rw [show bZ (some B).isSome = 1 from rfl, r_if_f (show ¬ (1 : Int32) = 0 by decide)]
      obtain ⟨qa, e1, h1, h2, h3, hA, i1, c1⟩ := pkIn ht hp
      obtain ⟨qb, e2, k1, k2, k3, hB, j1, d1⟩ := pkIn ht hp2
      subst e1 e2
      dsimp only
      have hI0 : RInv (va_up s0.1 39 0, s0.2) f n pk [] pr := by
        obtain ⟨a1, a2, a3, a4, a5, a6, a7⟩ := ht
        exact ⟨a1, a2, a3, a4, a5, ⟨rfl, by decide, fun i c hc => (nil_get hc).elim⟩, a7⟩
      obtain ⟨s4, x1, x2⟩ := m_cmpRows (N := N) (M := M) (m := m) (tl := true) hN h3 k3 hI0 (fun _ => rfl)
      have x1' : (f_MD_compareRows N m (nI qa) (nI qb) 1).1 (ov M m (va_up s0.1 39 0, s0.2)) = some (nI (alone A.2.2.2 B.2.2.2).length, ov M m s4) := x1
      rw [if_pos rfl] at x2
      exact ⟨s4, by rw [mP_39, mI_is, r_callE, x1', Option.bind_some]; rfl, x2⟩
end RSAME
