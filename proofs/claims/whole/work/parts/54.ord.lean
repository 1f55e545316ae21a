/-! LAYER 2: features and the rows' order, in the reference -/
def hasF (w : List Int32) (fs : List (List Int32)) : Bool := fs.any (fun g => cmpN w g == 0)
def bZ (b : Bool) : Int32 := if b = true then 1 else 0
/-- a row as a text gives it -/
def wfR (a : aR) : Prop := a.1 < 16 ∧ wfN a.2.2.1 ∧ wfN a.2.2.2.1
/-- the order of the NORMAL FORM -/
def ordR (x y : aR) : Int32 := if x.1 = y.1 then (if x.2.1 = y.2.1 then (if (if x.1 = 9 then cmpN x.2.2.2.1 y.2.2.2.1 else 0) = 0 then cmpN x.2.2.1 y.2.2.1 else (if x.1 = 9 then cmpN x.2.2.2.1 y.2.2.2.1 else 0)) else x.2.1 - y.2.1) else nI x.1 - nI y.1
def PF (s : rS) (q : Nat) (fs : List (List Int32)) : Prop := s.2.2.1 7 q = nI fs.length ∧ fs.length < 250 ∧ ∀ i w, fs[i]? = some w → FF s (250 * q + i) w ∧ wfN w
section ORD
variable {N : Nat} {M : hM} {m p : Nat} {s s' s'' : rS}
theorem RR.k {r : Nat} {a : aR} (h : RR s r a) (g : ks s s') : RR s' r a := by
  refine ⟨?_, h.2⟩
  have := h.1
  unfold RRow at *
  rw [g.2.2.2 12 (by omega) (by omega), g.2.2.2 13 (by omega) (by omega), g.2.2.2 14 (by omega) (by omega), g.2.2.2 15 (by omega) (by omega), g.2.2.2 16 (by omega) (by omega), g.2.2.2 17 (by omega) (by omega), g.2.2.2 20 (by omega) (by omega), g.2.2.1]
  exact this
theorem PF.k {q : Nat} {fs : List (List Int32)} (h : PF s q fs) (g : ks s s') : PF s' q fs := by
  refine ⟨by rw [g.2.2.2 7 (by omega) (by omega)]; exact h.1, h.2.1, fun i w hw => ⟨?_, (h.2.2 i w hw).2⟩⟩
  have := (h.2.2 i w hw).1
  unfold FF at *
  rw [g.2.2.2 11 (by omega) (by omega), g.2.2.2 10 (by omega) (by omega)]; exact this
theorem RR.n {r : Nat} {a : aR} (h : RR s r a) (hw : wfR a) (hr : r < 8200) : nAt M m s 16 (20 * r) a.2.2.1 := ⟨164000, by decide, ld_16, by have := h.2.1; omega, h.1.2.2.2.1, hw.2.1, by decide, by decide⟩
theorem RR.o {r : Nat} {a : aR} (h : RR s r a) (hw : wfR a) (hr : r < 8200) : nAt M m s 17 (20 * r) a.2.2.2.1 := ⟨164000, by decide, ld_17, by have := h.2.2; omega, h.1.2.2.2.2.2.1, hw.2.2, by decide, by decide⟩
theorem m_isF_loop {q sj b : Nat} {w : List Int32} {fs : List (List Int32)} (hN : 2001 ≤ N) (hq : q ≤ 40) : ∀ (d fu i : Nat) (s : rS), d + i = fs.length → d < fu → nAt M m s sj b w → PF s q fs →
    ∃ s', (f_MD_isFeature_7 N m (nI q) (some (m + sj)) (nI b) (nI w.length) fu (nI (250 * q + i))).1 (ov M m s) = some (bZ (hasF w (fs.drop i)), ov M m s') ∧ ks s s' := by
  intro d
  induction d with
  | zero =>
    intro fu i s h1 h2 hA hF
    obtain ⟨fu, rfl⟩ : ∃ g, fu = g + 1 := ⟨fu - 1, by omega⟩
    have hip : ¬ (nI q < 0 ∨ 41 ≤ (nI q).toNatClampNeg) := nI_in (by omega) (by decide)
    have hcp := nI_clamp (n := q) (by omega)
    have hf := hF.2.1
    refine ⟨s, ?_, ks.rf⟩
    rw [e_MD_isFeature_7, List.drop_eq_nil_of_le (by omega)]
    have er : (250 : Int32) * nI q + nI fs.length = nI (250 * q + fs.length) := by rw [show (250 : Int32) * nI q = nI (250 * q) from nI_mul, nI_add]
    have hc : nI (250 * q + fs.length) ≤ nI (250 * q + i) := nI_le (by omega) (by omega)
    simp only [mR_14, r_nn, mA_7 hip, hcp, hF.1, er, hc, if_true]
    exact rZ0
  | succ d ih =>
    intro fu i s h1 h2 hA hF
    obtain ⟨fu, rfl⟩ : ∃ g, fu = g + 1 := ⟨fu - 1, by omega⟩
    have hip : ¬ (nI q < 0 ∨ 41 ≤ (nI q).toNatClampNeg) := nI_in (by omega) (by decide)
    have hcp := nI_clamp (n := q) (by omega)
    have hf := hF.2.1
    have er : (250 : Int32) * nI q + nI fs.length = nI (250 * q + fs.length) := by rw [show (250 : Int32) * nI q = nI (250 * q) from nI_mul, nI_add]
    have hc : ¬ nI (250 * q + fs.length) ≤ nI (250 * q + i) := nI_ge (by omega) (by omega)
    have hi1 : ¬ (nI (250 * q + i) < 0 ∨ 10250 ≤ (nI (250 * q + i)).toNatClampNeg) := nI_in (by omega) (by decide)
    have hcl := nI_clamp (n := 250 * q + i) (by omega)
    have hlt : i < fs.length := by omega
    have hget : fs[i]? = some fs[i] := List.getElem?_eq_getElem hlt
    obtain ⟨⟨b1, b2, b3⟩, bw⟩ := hF.2.2 i _ hget
    have e20 : (20 : Int32) * nI (250 * q + i) = nI (20 * (250 * q + i)) := nI_mul
    have hB : nAt M m s 10 (20 * (250 * q + i)) fs[i] := ⟨205000, by decide, ld_10, by omega, b2, bw, by decide, by decide⟩
    obtain ⟨s1, r1, r2⟩ := m_compare (N := N) hN hA hB
    rw [e_MD_isFeature_7]
    simp only [mR_14, r_nn, mA_7 hip, hcp, hF.1, er, hc, if_false, mR_17, mR_18, mA_11 hi1, hcl, b1, e20, mI_is, r_callE, r1, Option.bind_some]
    rw [List.drop_eq_getElem_cons hlt]
    unfold hasF
    rw [List.any_cons]
    by_cases c : cmpN w fs[i] = 0
    · refine ⟨s1, ?_, r2⟩
      rw [r_if_t c, show (cmpN w fs[i] == 0) = true from by rw [beq_iff_eq]; exact c, Bool.true_or]
      exact rZ1
    · rw [r_if_f c, show (cmpN w fs[i] == 0) = false from by rw [beq_eq_false_iff_ne]; exact c, Bool.false_or, nI_1]
      obtain ⟨s2, u1, u2⟩ := ih fu (i + 1) s1 (by omega) (by omega) (hA.k r2) (hF.k r2)
      exact ⟨s2, u1, r2.tr u2⟩
theorem m_isFeature {q sj b : Nat} {w : List Int32} {fs : List (List Int32)} (hN : 2001 ≤ N) (hq : q ≤ 40) (hA : nAt M m s sj b w) (hF : PF s q fs) :
    ∃ s', (f_MD_isFeature N m (nI q) (some (m + sj)) (nI b) (nI w.length)).1 (ov M m s) = some (bZ (hasF w fs), ov M m s') ∧ ks s s' := by
  have := m_isF_loop (N := N) (M := M) (m := m) (fs := fs) hN hq fs.length N 0 s (by omega) (by have := hF.2.1; omega) hA hF
  rw [e_MD_isFeature, show (250 : Int32) * nI q = nI (250 * q + 0) from nI_mul]
  exact this
theorem m_order {r r' : Nat} {x y : aR} (hN : 2001 ≤ N) (hr : r < 8200) (hr' : r' < 8200) (hx : RR s r x) (hy : RR s r' y) (wx : wfR x) (wy : wfR y) :
    ∃ s', (f_MD_order N m (nI r) (nI r')).1 (ov M m s) = some (ordR x y, ov M m s') ∧ ks s s' := by
  have i1 : ¬ (nI r < 0 ∨ 8200 ≤ (nI r).toNatClampNeg) := nI_in hr (by decide)
  have c1 := nI_clamp (n := r) (by omega)
  have i2 : ¬ (nI r' < 0 ∨ 8200 ≤ (nI r').toNatClampNeg) := nI_in hr' (by decide)
  have c2 := nI_clamp (n := r') (by omega)
  have e20 : (20 : Int32) * nI r = nI (20 * r) := nI_mul
  have e20' : (20 : Int32) * nI r' = nI (20 * r') := nI_mul
  rw [e_MD_order, r_let]
  obtain ⟨x1, x2, x3, x4, x5, x6, x7, x8, x9⟩ := hx.1
  obtain ⟨y1, y2, y3, y4, y5, y6, y7, y8, y9⟩ := hy.1
  simp only [mR_19, r_nn, mA_12 i1, mA_12 i2, c1, c2, x1, y1]
  unfold ordR
  by_cases d1 : x.1 = y.1
  · rw [if_pos d1, r_if_t (show nI x.1 = nI y.1 by rw [d1])]
    simp only [mR_20, r_nn, mA_13 i1, mA_13 i2, c1, c2, x2, y2]
    by_cases d2 : x.2.1 = y.2.1
    · rw [r_if_t d2, if_pos d2]
      simp only [mR_19, r_nn, mA_12 i1, c1, x1]
      have tail : ∀ (s1 : rS) (d : Int32), ks s s1 → ∃ s', (b_let (fun (y0 : Int32) => b_ret y0) (fun J146 => (if d = 0 then b_getR m 1 23 (fun r1 => b_getR m 1 21 (fun r2 => b_nn r2 (fun a3 => b_ald a3 2 (nI r) (fun v4 => b_getR m 1 23 (fun r5 => b_getR m 1 21 (fun r6 => b_nn r6 (fun a7 => b_ald a7 2 (nI r') (fun v8 => b_is m 1 (b_call (f_MD_compare N m r1 (20 * (nI r)) v4 r5 (20 * (nI r')) v8) (fun v9 => J146 v9)))))))))) else J146 d))).1 (ov M m s1) = some ((if d = 0 then cmpN x.2.2.1 y.2.2.1 else d), ov M m s') ∧ ks s s' := by
        intro s1 d g
        rw [r_let]
        by_cases c : d = 0
        · rw [r_if_t c, if_pos c]
          obtain ⟨s2, u1, u2⟩ := m_compare (N := N) (M := M) (m := m) hN ((hx.k g).n wx hr) ((hy.k g).n wy hr')
          refine ⟨s2, ?_, g.tr u2⟩
          have g14 := g.2.2.2 14 (by omega) (by omega)
          simp only [mR_23, mR_21, r_nn, mA_14 i1, mA_14 i2, c1, c2, g14, x3, y3, e20, e20', mI_is, r_callE, u1, Option.bind_some, r_ret]
        · rw [r_if_f c, if_neg c]; exact ⟨s1, rfl, g⟩
      by_cases d3 : x.1 = 9
      · rw [if_pos d3, r_if_t (show nI x.1 = 9 by rw [d3]; rfl)]
        obtain ⟨s1, u1, u2⟩ := m_compare (N := N) (M := M) (m := m) hN (hx.o wx hr) (hy.o wy hr')
        simp only [mR_24, mR_22, r_nn, mA_15 i1, mA_15 i2, c1, c2, x5, y5, e20, e20', mI_is, r_callE, u1, Option.bind_some]
        have := tail s1 (cmpN x.2.2.2.1 y.2.2.2.1) u2
        rw [e20, e20'] at this
        exact this
      · rw [if_neg d3, r_if_f (show ¬ nI x.1 = 9 from fun z => d3 ((nI_eq (b := 9) (by have := wx.1; omega) (by omega)).mp z))]
        exact tail s 0 ks.rf
    · rw [r_if_f d2, if_neg d2]
      refine ⟨s, ?_, ks.rf⟩
      simp only [mR_20, r_nn, mA_13 i1, mA_13 i2, c1, c2, x2, y2, r_ret]
  · have d1' : ¬ nI x.1 = nI y.1 := fun z => d1 ((nI_eq (by have := wx.1; omega) (by have := wy.1; omega)).mp z)
    rw [if_neg d1, r_if_f d1']
    refine ⟨s, ?_, ks.rf⟩
    simp only [mR_19, r_nn, mA_12 i1, mA_12 i2, c1, c2, x1, y1, r_ret]
end ORD
