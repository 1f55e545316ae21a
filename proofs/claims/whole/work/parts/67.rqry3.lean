/-! LAYER 2: the reference's questions -/
def ansChk (pk : List aPk) (x : Int32) : Int32 := match pkOf pk x with
  | none => -1
  | some P => chkL P 0 P.2.2.2
def ansChg (ch : List (Nat × Nat)) (k w : Int32) : Int32 := if k < 0 then -1 else match ch[k.toNatClampNeg]? with
  | none => -1
  | some c => if w = 0 then nI c.1 else if w = 1 then nI c.2 else -1
section RQRY3
variable {N : Nat} {M : hM} {m p : Nat} {s s' s'' : rS} {f : Nat → Int32} {n : Nat} {pk : List aPk} {ch : List (Nat × Nat)} {pr : List Int32}
theorem rwOf_s {x i : Int32} {P : aPk} (h : pkOf pk x = some P) : rwOf pk x i = rwAt P i := by unfold rwOf; rw [h]; rfl
theorem m_row {x i w : Int32} (hN : 2001 ≤ N) (h : RInv s f n pk ch pr) : ∃ s', (f_MD_row N m x i w).1 (ov M m s) = some (ansRow pk x i w, ov M m s') ∧ RInv s' f n pk ch pr := by
  rw [e_MD_row, mP_0, mI_is, r_callE, m_isRow h.t, Option.bind_some]
  have ht := h.t
  generalize ((va_up s.1 0 0, s.2) : rS) = s0 at *
  cases ha : rwOf pk x i with
  | none =>
    refine ⟨s0, ?_, ht⟩
    have e : ansRow pk x i w = -1 := by
      unfold ansRow
      cases hp : pkOf pk x with
      | none => rfl
      | some P => rw [rwOf_s hp] at ha; dsimp only; rw [ha]
    rw [e]; rfl
  | some a =>
    obtain ⟨q, j, P, e1, e2, l1, l2, hp, h3, h3', h4, h5, h6, e3, i1, c1⟩ := rw_in ht ha
    rw [rwOf_s hp] at ha
    unfold ansRow
    rw [hp]
    dsimp only
    rw [ha]
    dsimp only
    rw [show bZ (some a).isSome = 1 from rfl, r_if_f (show ¬ (1 : Int32) = 0 by decide)]
    obtain ⟨x1, x2, x3, x4, x5, x6, x7, x8, x9⟩ := h5.1
    by_cases w0 : w = 0
    · refine ⟨s0, ?_, ht⟩
      rw [r_if_t w0, if_pos w0]
      simp only [mR_19, r_nn, e3, mA_12 i1, c1, x1, r_ret]
    · rw [r_if_f w0, if_neg w0]
      by_cases w1 : w = 1
      · refine ⟨s0, ?_, ht⟩
        rw [r_if_t w1, if_pos w1]
        simp only [mR_20, r_nn, e3, mA_13 i1, c1, x2, r_ret]
      · rw [r_if_f w1, if_neg w1]
        by_cases w2 : w = 2
        · refine ⟨s0, ?_, ht⟩
          rw [r_if_t w2, if_pos w2]
          simp only [mR_21, r_nn, e3, mA_14 i1, c1, x3, r_ret]
        · rw [r_if_f w2, if_neg w2]
          by_cases w3 : w = 3
          · rw [r_if_t w3, if_pos w3]
            obtain ⟨A, a1, a2⟩ := m_folded (N := N) (M := M) (m := m) (dj := 23) hN (h5.n h6 (by omega)) (Or.inl rfl)
            refine ⟨(s0.1, s0.2.1, va_up s0.2.2.1 23 A, s0.2.2.2), ?_, ht.ks ⟨rfl, rfl, rfl, fun j x _ => ua_n x⟩⟩
            have e20 : (20 : Int32) * nI (200 * q + j) = nI (20 * (200 * q + j)) := nI_mul
            simp only [mR_23, mR_21, r_nn, e3, mA_14 i1, c1, x3, mR_37, e20, r_callE, a1, Option.bind_some, r_ret]
          · rw [r_if_f w3, if_neg w3]
            by_cases w4 : w = 4
            · rw [r_if_t w4, if_pos w4]
              obtain ⟨s1, u1, u2⟩ := m_why (N := N) (M := M) (m := m) hN l1 (by omega) h4 h5 h6
              refine ⟨s1, ?_, ht.ks u2⟩
              rw [e3, e1]
              simp only [mI_is, r_callE, u1, Option.bind_some, r_ret]
            · rw [r_if_f w4, if_neg w4]
              exact ⟨s0, rfl, ht⟩
theorem nm_sg {A : Nat → Int32} {b : Nat} {l : List Int32} (h : nmI A b l) {k : Int32} (h0 : ¬ k < 0) (h1 : ¬ nI l.length ≤ k) (hl : l.length < 2 ^ 31) : k.toNatClampNeg < l.length ∧ A (b + k.toNatClampNeg) = sgAt l k := by
  obtain ⟨e, hk⟩ := i_nat h0
  have : k.toNatClampNeg < l.length := by
    apply Nat.lt_of_not_le
    intro z
    exact h1 (by rw [e]; exact nI_le z hk)
  refine ⟨this, ?_⟩
  unfold sgAt
  rw [if_neg h0, if_neg h1]
  exact h _ this
theorem m_letter {x i w k : Int32} (hN : 2001 ≤ N) (h : RInv s f n pk ch pr) : ∃ s', (f_MD_letter N m x i w k).1 (ov M m s) = some (ansLet pk x i w k, ov M m s') ∧ RInv s' f n pk ch pr := by
  rw [e_MD_letter, r_let, r_let, r_let, mP_0, mI_is, r_callE, m_isRow h.t, Option.bind_some]
  unfold ansLet
  have ht := h.t
  generalize ((va_up s.1 0 0, s.2) : rS) = s0 at *
  cases ha : rwOf pk x i with
  | none => exact ⟨s0, rfl, ht⟩
  | some a =>
    obtain ⟨q, j, P, e1, e2, l1, l2, hp, h3, h3', h4, h5, h6, e3, i1, c1⟩ := rw_in ht ha
    dsimp only
    rw [show bZ (some a).isSome = 1 from rfl, r_if_f (show ¬ (1 : Int32) = 0 by decide)]
    obtain ⟨x1, x2, x3, x4, x5, x6, x7, x8, x9⟩ := h5.1
    have e20 : (20 : Int32) * nI (200 * q + j) = nI (20 * (200 * q + j)) := nI_mul
    by_cases w0 : w < 0
    · rw [r_if_t w0, if_neg (fun z => by rw [z] at w0; exact absurd w0 (by decide)), if_neg (fun z => by rw [z] at w0; exact absurd w0 (by decide)), if_neg (fun z => by rw [z] at w0; exact absurd w0 (by decide))]
      exact ⟨s0, rfl, ht⟩
    · rw [r_if_f w0]
      by_cases w2 : 2 < w
      · rw [r_if_t w2, if_neg (fun z => by rw [z] at w2; exact absurd w2 (by decide)), if_neg (fun z => by rw [z] at w2; exact absurd w2 (by decide)), if_neg (fun z => by rw [z] at w2; exact absurd w2 (by decide))]
        exact ⟨s0, rfl, ht⟩
      · rw [r_if_f w2]
        by_cases k0 : k < 0
        · rw [r_if_f (Int32.not_le.mpr k0)]
          have e : ∀ l, sgAt l k = -1 := fun l => if_pos k0
          rw [e, e, e]
          refine ⟨s0, ?_, ht⟩
          have : (if w = 0 then (-1 : Int32) else if w = 1 then -1 else if w = 2 then -1 else -1) = -1 := by split; rfl; split; rfl; split <;> rfl
          rw [this]; rfl
        · rw [r_if_t (Int32.not_lt.mp k0)]
          obtain ⟨ek, hk⟩ := i_nat k0
          by_cases c1' : w = 1
          · rw [r_if_t c1', if_neg (by rw [c1']; decide), if_pos c1']
            obtain ⟨A, a1, a2⟩ := m_folded (N := N) (M := M) (m := m) (dj := 23) hN (h5.n h6 (by omega)) (Or.inl rfl)
            refine ⟨(s0.1, s0.2.1, va_up s0.2.2.1 23 A, s0.2.2.2), ?_, ht.ks ⟨rfl, rfl, rfl, fun j x _ => ua_n x⟩⟩
            simp only [mR_23, mR_21, r_nn, e3, mA_14 i1, c1, x3, mR_37, e20, r_callE, a1, Option.bind_some]
            have hfl : (fold a.2.2.1).length ≤ 20 := Nat.le_trans (fd_len _ _) h5.2.1
            by_cases d : nI (fold a.2.2.1).length ≤ k
            · rw [r_if_t d]
              unfold sgAt
              rw [if_neg k0, if_pos d]; rfl
            · rw [r_if_f d]
              obtain ⟨d1, d2⟩ := nm_sg (A := A) (b := 0) (l := fold a.2.2.1) (fun j hj => by rw [Nat.zero_add]; exact a2 j hj) k0 d (by omega)
              have i23 : ¬ (k < 0 ∨ 20 ≤ k.toNatClampNeg) := fun z => z.elim k0 (fun z => by omega)
              rw [Nat.zero_add] at d2
              simp only [mR_37, r_nn, mA_23 i23, ua_s, d2, r_ret]
          · rw [r_if_f c1']
            by_cases c0 : w = 0
            · rw [r_if_t c0, if_pos c0]
              refine ⟨s0, ?_, ht⟩
              simp only [mR_21, r_nn, e3, mA_14 i1, c1, x3]
              by_cases d : nI a.2.2.1.length ≤ k
              · rw [r_if_t d]
                unfold sgAt
                rw [if_neg k0, if_pos d]; rfl
              · rw [r_if_f d]
                have hl := h5.2.1
                obtain ⟨d1, d2⟩ := nm_sg x4 k0 d (by omega)
                have ei : nI (20 * (200 * q + j)) + k = nI (20 * (200 * q + j) + k.toNatClampNeg) := by rw [← nI_add, ← ek]
                have j1 : ¬ (nI (20 * (200 * q + j) + k.toNatClampNeg) < 0 ∨ 164000 ≤ (nI (20 * (200 * q + j) + k.toNatClampNeg)).toNatClampNeg) := nI_in (by omega) (by decide)
                have k1 := nI_clamp (n := 20 * (200 * q + j) + k.toNatClampNeg) (by omega)
                simp only [mR_23, r_nn, e20, ei, mA_16 j1, k1, d2, r_ret]
            · have c2 : w = 2 := by
                obtain ⟨ew, hw⟩ := i_nat w0
                have : ¬ 2 < w.toNatClampNeg := fun z => w2 (by rw [ew]; exact nI_lt (a := 2) z hw)
                have n0 : w.toNatClampNeg ≠ 0 := fun z => c0 (by rw [ew, z]; rfl)
                have n1 : w.toNatClampNeg ≠ 1 := fun z => c1' (by rw [ew, z]; rfl)
                have : w.toNatClampNeg = 2 := by omega
                rw [ew, this]; rfl
              rw [r_if_f c0, if_neg c0, if_neg c1', if_pos c2]
              refine ⟨s0, ?_, ht⟩
              simp only [mR_22, r_nn, e3, mA_15 i1, c1, x5]
              by_cases d : nI a.2.2.2.1.length ≤ k
              · rw [r_if_t d]
                unfold sgAt
                rw [if_neg k0, if_pos d]; rfl
              · rw [r_if_f d]
                have hl := h5.2.2
                obtain ⟨d1, d2⟩ := nm_sg x6 k0 d (by omega)
                have ei : nI (20 * (200 * q + j)) + k = nI (20 * (200 * q + j) + k.toNatClampNeg) := by rw [← nI_add, ← ek]
                have j1 : ¬ (nI (20 * (200 * q + j) + k.toNatClampNeg) < 0 ∨ 164000 ≤ (nI (20 * (200 * q + j) + k.toNatClampNeg)).toNatClampNeg) := nI_in (by omega) (by decide)
                have k1 := nI_clamp (n := 20 * (200 * q + j) + k.toNatClampNeg) (by omega)
                simp only [mR_24, r_nn, e20, ei, mA_17 j1, k1, d2, r_ret]
theorem whyR_ge {P : aPk} {x : aR} : (whyR P x ≤ 0 ↔ whyR P x = 0) := by
  unfold whyR
  split
  · decide
  · split
    · decide
    · split
      · decide
      · split <;> decide
theorem m_chk_loop {q : Nat} {P : aPk} (hN : 2001 ≤ N) (hq : q < 40) : ∀ (d fu i : Nat) (s : rS), d + i = P.2.2.2.length → d < fu → RPk s q P → ∃ s', (f_MD_check_17 N m (nI q) fu (nI i)).1 (ov M m s) = some (chkL P i (P.2.2.2.drop i), ov M m s') ∧ ks s s' := by
  have ip : ¬ (nI q < 0 ∨ 41 ≤ (nI q).toNatClampNeg) := nI_in (by omega) (by decide)
  have cp := nI_clamp (n := q) (by omega)
  intro d
  induction d with
  | zero =>
    intro fu i s h1 h2 hP
    obtain ⟨fu, rfl⟩ : ∃ g, fu = g + 1 := ⟨fu - 1, by omega⟩
    have hl := hP.2.2.2.2.2.1
    refine ⟨s, ?_, ks.rf⟩
    rw [e_MD_check_17, List.drop_eq_nil_of_le (by omega)]
    simp only [mR_13, r_nn, mA_6 ip, cp, hP.2.2.2.2.1, show nI P.2.2.2.length ≤ nI i from nI_le (by omega) (by omega), if_true]
    rfl
  | succ d ih =>
    intro fu i s h1 h2 hP
    obtain ⟨fu, rfl⟩ : ∃ g, fu = g + 1 := ⟨fu - 1, by omega⟩
    have hl := hP.2.2.2.2.2.1
    have hi : i < P.2.2.2.length := by omega
    have hget : P.2.2.2[i]? = some P.2.2.2[i] := List.getElem?_eq_getElem hi
    obtain ⟨x1, x2⟩ := hP.2.2.2.2.2.2.1 i _ hget
    obtain ⟨s1, u1, u2⟩ := m_why (N := N) (M := M) (m := m) hN hq (show 200 * q + i < 8200 by omega) hP x1 x2
    have e3 : (200 : Int32) * nI q + nI i = nI (200 * q + i) := by rw [show (200 : Int32) * nI q = nI (200 * q) from nI_mul, nI_add]
    rw [e_MD_check_17, List.drop_eq_getElem_cons hi]
    simp only [mR_13, r_nn, mA_6 ip, cp, hP.2.2.2.2.1, show ¬ nI P.2.2.2.length ≤ nI i from nI_ge (by omega) (by omega), if_false, e3, mI_is, r_callE, u1, Option.bind_some]
    unfold chkL
    by_cases c : whyR P P.2.2.2[i] = 0
    · rw [r_if_t (whyR_ge.mpr c), if_pos c, nI_1]
      obtain ⟨s2, v1, v2⟩ := ih fu (i + 1) s1 (by omega) (by omega) (hP.k u2)
      exact ⟨s2, v1, u2.tr v2⟩
    · rw [r_if_f (fun z => c (whyR_ge.mp z)), if_neg c, nI_1]
      exact ⟨s1, rfl, u2⟩
theorem m_check {x : Int32} (hN : 2001 ≤ N) (h : RInv s f n pk ch pr) : ∃ s', (f_MD_check N m x).1 (ov M m s) = some (ansChk pk x, ov M m s') ∧ RInv s' f n pk ch pr := by
  rw [e_MD_check, mP_0, mI_is, r_callE, m_isPackage h.t, Option.bind_some]
  unfold ansChk
  have ht := h.t
  generalize ((va_up s.1 0 0, s.2) : rS) = s0 at *
  cases hp : pkOf pk x with
  | none => exact ⟨s0, rfl, ht⟩
  | some P =>
    obtain ⟨q, e, h1, h2, h3, h4, i1, c1⟩ := pkIn ht hp
    have hl := h4.2.2.2.2.2.1
    obtain ⟨s1, u1, u2⟩ := m_chk_loop (N := N) (M := M) (m := m) hN h1 P.2.2.2.length N 0 s0 (by omega) (by omega) h4
    refine ⟨s1, ?_, ht.ks u2⟩
    rw [show bZ (some P).isSome = 1 from rfl, r_if_f (show ¬ (1 : Int32) = 0 by decide), e]
    exact u1
theorem m_change {k w : Int32} (h : RInv s f n pk ch pr) : ∃ s', (f_MD_change N m k w).1 (ov M m s) = some (ansChg ch k w, ov M m s') ∧ RInv s' f n pk ch pr := by
  refine ⟨(va_up s.1 0 0, s.2), ?_, h.t⟩
  rw [e_MD_change, r_let, mP_0]
  obtain ⟨a6, a7, a8⟩ := h.2.2.2.2.2.1
  unfold ansChg
  by_cases k0 : k < 0
  · rw [r_if_t k0, if_pos k0]; rfl
  · rw [r_if_f k0, if_neg k0]
    obtain ⟨ek, hk⟩ := i_nat k0
    have a6' : (va_up s.1 0 0, s.2).1 39 = nI ch.length := a6
    rw [mI_39, a6']
    by_cases d : ch.length ≤ k.toNatClampNeg
    · rw [r_if_t (show nI ch.length ≤ k by rw [ek]; exact nI_le d hk), List.getElem?_eq_none d]; rfl
    · rw [r_if_f (show ¬ nI ch.length ≤ k by rw [ek]; exact nI_ge (by omega) (by omega)), List.getElem?_eq_getElem (by omega)]
      obtain ⟨b1, b2⟩ := a8 _ _ (List.getElem?_eq_getElem (show k.toNatClampNeg < ch.length by omega))
      have i1 : ¬ (k < 0 ∨ 400 ≤ k.toNatClampNeg) := fun z => z.elim k0 (fun z => by omega)
      dsimp only
      by_cases w0 : w < 0
      · rw [r_if_t w0, if_neg (fun z => by rw [z] at w0; exact absurd w0 (by decide)), if_neg (fun z => by rw [z] at w0; exact absurd w0 (by decide))]; rfl
      · rw [r_if_f w0]
        by_cases w1 : w ≤ 1
        · rw [r_if_t w1]
          by_cases c0 : w = 0
          · rw [r_if_t c0, if_pos c0]
            simp only [mR_40, r_nn, mA_25 i1, b1, r_ret]
          · have c1 : w = 1 := by
              obtain ⟨ew, hw⟩ := i_nat w0
              have n0 : w.toNatClampNeg ≠ 0 := fun z => c0 (by rw [ew, z]; rfl)
              have : ¬ 2 ≤ w.toNatClampNeg := fun z => by
                rw [ew] at w1
                exact absurd w1 (nI_ge (a := 1) (by omega) hw)
              have : w.toNatClampNeg = 1 := by omega
              rw [ew, this]; rfl
            rw [r_if_f c0, if_neg c0, if_pos c1]
            simp only [mR_41, r_nn, mA_26 i1, b2, r_ret]
        · rw [r_if_f w1, if_neg (fun z => w1 (by rw [z]; decide)), if_neg (fun z => w1 (by rw [z]; decide))]; rfl
theorem m_at {k : Int32} (h : RInv s f n pk ch pr) : ∃ s', (f_MD_at N m k).1 (ov M m s) = some (sgAt pr k, ov M m s') ∧ RInv s' f n pk ch pr := by
  refine ⟨(va_up s.1 0 0, s.2), ?_, h.t⟩
  rw [e_MD_at, r_let, r_let, mP_0]
  obtain ⟨a6, a7, a8⟩ := h.2.2.2.2.2.2
  unfold sgAt
  by_cases k0 : k < 0
  · rw [r_if_t k0, if_pos k0]; rfl
  · rw [r_if_f k0, if_neg k0]
    obtain ⟨ek, hk⟩ := i_nat k0
    have a6' : (va_up s.1 0 0, s.2).1 43 = nI pr.length := a6
    rw [mI_43, a6']
    by_cases d : nI pr.length ≤ k
    · rw [r_if_t d, if_pos d]; rfl
    · rw [r_if_f d, if_neg d]
      have hlt : k.toNatClampNeg < pr.length := by
        apply Nat.lt_of_not_le
        intro z
        exact d (by rw [ek]; exact nI_le z hk)
      have b := a8 _ _ (List.getElem?_eq_getElem hlt)
      have i1 : ¬ (k < 0 ∨ 60000 ≤ k.toNatClampNeg) := fun z => z.elim k0 (fun z => by omega)
      simp only [mR_44, r_nn, mA_28 i1, b, r_ret]
      rw [List.getD_eq_getElem?_getD, List.getElem?_eq_getElem hlt]; rfl
end RQRY3
