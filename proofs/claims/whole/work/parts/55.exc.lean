/-! LAYER 2: the reference exchanges two rows -/
/-- pieces of i signs of rows r and r' exchanged -/
def sw2 (A : Nat → Int32) (r r' i : Nat) : Nat → Int32 := fun j => if 20 * r ≤ j ∧ j < 20 * r + i then sx (A (20 * r' + (j - 20 * r))) else if 20 * r' ≤ j ∧ j < 20 * r' + i then sx (A (20 * r + (j - 20 * r'))) else A j
section EXC
variable {N : Nat} {M : hM} {m p : Nat} {s s' s'' : rS}
theorem sw2_0 {A : Nat → Int32} {r r' : Nat} : sw2 A r r' 0 = A := by
  funext j; unfold sw2; rw [if_neg (by omega), if_neg (by omega)]
theorem sw2_a {A : Nat → Int32} {r r' i : Nat} (hi : i < 20) (h : r ≠ r') : sw2 A r r' i (20 * r + i) = A (20 * r + i) := by
  unfold sw2; rw [if_neg (by omega), if_neg (by omega)]
theorem sw2_b {A : Nat → Int32} {r r' i : Nat} (hi : i < 20) (h : r ≠ r') : sw2 A r r' i (20 * r' + i) = A (20 * r' + i) := by
  unfold sw2; rw [if_neg (by omega), if_neg (by omega)]
theorem sw2_s {A : Nat → Int32} {r r' i : Nat} (hi : i < 20) (h : r ≠ r') : va_up (va_up (sw2 A r r' i) (20 * r + i) (sx (A (20 * r' + i)))) (20 * r' + i) (sx (A (20 * r + i))) = sw2 A r r' (i + 1) := by
  funext j
  unfold va_up sw2
  by_cases c1 : j = 20 * r' + i
  · rw [if_pos c1, if_neg (by omega), if_pos (by omega), c1, Nat.add_sub_cancel_left]
  · rw [if_neg c1]
    by_cases c2 : j = 20 * r + i
    · rw [if_pos c2, if_pos (by omega), c2, Nat.add_sub_cancel_left]
    · rw [if_neg c2]
      by_cases c3 : 20 * r ≤ j ∧ j < 20 * r + i
      · rw [if_pos c3, if_pos (by omega)]
      · rw [if_neg c3, if_neg (show ¬ (20 * r ≤ j ∧ j < 20 * r + (i + 1)) by omega)]
        by_cases c4 : 20 * r' ≤ j ∧ j < 20 * r' + i
        · rw [if_pos c4, if_pos (by omega)]
        · rw [if_neg c4, if_neg (by omega)]
theorem m_exc_loop {r r' : Nat} (hr : r < 8200) (hr' : r' < 8200) (hne : r ≠ r') : ∀ (d fu i : Nat), d + i = 20 → d < fu →
    (f_MD_exchange_197 N m (nI r) (nI r') fu (nI i)).1 (ov M m (s.1, s.2.1, va_up (va_up s.2.2.1 16 (sw2 (s.2.2.1 16) r r' i)) 17 (sw2 (s.2.2.1 17) r r' i), s.2.2.2)) = some ((), ov M m (s.1, s.2.1, va_up (va_up s.2.2.1 16 (sw2 (s.2.2.1 16) r r' 20)) 17 (sw2 (s.2.2.1 17) r r' 20), s.2.2.2)) := by
  intro d
  induction d with
  | zero =>
    intro fu i hd hfu
    obtain ⟨fu, rfl⟩ : ∃ g, fu = g + 1 := ⟨fu - 1, by omega⟩
    rw [e_MD_exchange_197, r_if_t (show (20 : Int32) ≤ nI i from nI_le (a := 20) (by omega) (by omega)), show i = 20 by omega]
    rfl
  | succ d ih =>
    intro fu i hd hfu
    obtain ⟨fu, rfl⟩ : ∃ g, fu = g + 1 := ⟨fu - 1, by omega⟩
    have e1 : (20 : Int32) * nI r + nI i = nI (20 * r + i) := by rw [show (20 : Int32) * nI r = nI (20 * r) from nI_mul, nI_add]
    have e2 : (20 : Int32) * nI r' + nI i = nI (20 * r' + i) := by rw [show (20 : Int32) * nI r' = nI (20 * r') from nI_mul, nI_add]
    have i1 : ¬ (nI (20 * r + i) < 0 ∨ 164000 ≤ (nI (20 * r + i)).toNatClampNeg) := nI_in (by omega) (by decide)
    have c1 := nI_clamp (n := 20 * r + i) (by omega)
    have i2 : ¬ (nI (20 * r' + i) < 0 ∨ 164000 ≤ (nI (20 * r' + i)).toNatClampNeg) := nI_in (by omega) (by decide)
    have c2 := nI_clamp (n := 20 * r' + i) (by omega)
    have a1 := sw2_a (A := s.2.2.1 16) (r := r) (r' := r') (i := i) (by omega) hne
    have a2 := sw2_b (A := s.2.2.1 16) (r := r) (r' := r') (i := i) (by omega) hne
    have b1 := sw2_a (A := s.2.2.1 17) (r := r) (r' := r') (i := i) (by omega) hne
    have b2 := sw2_b (A := s.2.2.1 17) (r := r) (r' := r') (i := i) (by omega) hne
    have g16 : ∀ (F : Nat → Nat → Int32) A B, va_up (va_up F 16 A) 17 B 16 = A := fun F A B => rfl
    have g16' : ∀ (F : Nat → Nat → Int32) A B C, va_up (va_up (va_up F 16 A) 17 B) 16 C 17 = B := fun F A B C => rfl
    have cm : ∀ (F : Nat → Nat → Int32) A B C, va_up (va_up (va_up F 16 A) 17 B) 16 C = va_up (va_up F 16 C) 17 B := fun F A B C => by
      rw [ua_c (k := 17) (l := 16) (by decide), ua_ua]
    rw [e_MD_exchange_197, r_if_f (show ¬ (20 : Int32) ≤ nI i from nI_ge (b := 20) (by omega) (by omega))]
    simp only [mR_23, mR_24, r_nn, e1, e2, mA_16 i1, mA_16 i2, c1, c2, g16, a1, a2, mS_16 i1, mS_16 i2, nar_byte, ua_s, ua_ua, mA_17 i1, mA_17 i2, cm, b1, b2, mS_17 i1, mS_17 i2]
    rw [sw2_s (by omega) hne, sw2_s (by omega) hne, nI_1]
    exact ih fu (i + 1) (by omega) (by omega)
theorem nmI_sw {A : Nat → Int32} {r r' : Nat} {w : List Int32} (hne : r ≠ r') (hw : wfN w) (h : nmI A (20 * r') w) : nmI (sw2 A r r' 20) (20 * r) w := by
  have hl := hw.1
  intro j hj
  unfold sw2
  rw [if_pos (by omega), Nat.add_sub_cancel_left, h j hj]
  have hmem : w.getD j 0 ∈ w := by rw [List.getD_eq_getElem?_getD, List.getElem?_eq_getElem hj]; exact List.getElem_mem hj
  obtain ⟨_, b0, hb0, eb0⟩ := hw.2.1 _ hmem
  rw [eb0]
  have : ∀ b : Fin 128, sx (nI b.val) = nI b.val := by decide +kernel
  exact this ⟨b0, hb0⟩
theorem nmI_sw' {A : Nat → Int32} {r r' : Nat} {w : List Int32} (hne : r ≠ r') (hw : wfN w) (h : nmI A (20 * r) w) : nmI (sw2 A r r' 20) (20 * r') w := by
  have hl := hw.1
  intro j hj
  unfold sw2
  rw [if_neg (by omega), if_pos (by omega), Nat.add_sub_cancel_left, h j hj]
  have hmem : w.getD j 0 ∈ w := by rw [List.getD_eq_getElem?_getD, List.getElem?_eq_getElem hj]; exact List.getElem_mem hj
  obtain ⟨_, b0, hb0, eb0⟩ := hw.2.1 _ hmem
  rw [eb0]
  have : ∀ b : Fin 128, sx (nI b.val) = nI b.val := by decide +kernel
  exact this ⟨b0, hb0⟩
theorem nar_k {x : aR} (h : wfR x) : vp_nar .byte (nI x.1) = nI x.1 := by
  have : ∀ b : Fin 16, vp_nar .byte (nI b.val) = nI b.val := by decide +kernel
  exact this ⟨x.1, h.1⟩
theorem nar_b {b : Bool} : vp_nar .boolean (if b = true then 1 else 0) = if b = true then 1 else 0 := by cases b <;> decide
theorem m_exchange {r r' : Nat} {x y : aR} (hN : 2001 ≤ N) (hr : r < 8200) (hr' : r' < 8200) (hne : r ≠ r') (hx : RR s r x) (hy : RR s r' y) (wx : wfR x) (wy : wfR y) :
    ∃ s', (f_MD_exchange N m (nI r) (nI r')).1 (ov M m s) = some ((), ov M m s') ∧ s'.1 = s.1 ∧ s'.2.1 = s.2.1 ∧ RR s' r y ∧ RR s' r' x ∧ (∀ j i, ¬ tch r j i → ¬ tch r' j i → s'.2.2.1 j i = s.2.2.1 j i) ∧ (∀ j i, ¬ tchL r j i → ¬ tchL r' j i → s'.2.2.2 j i = s.2.2.2 j i) := by
  have i1 : ¬ (nI r < 0 ∨ 8200 ≤ (nI r).toNatClampNeg) := nI_in hr (by decide)
  have c1 := nI_clamp (n := r) (by omega)
  have i2 : ¬ (nI r' < 0 ∨ 8200 ≤ (nI r').toNatClampNeg) := nI_in hr' (by decide)
  have c2 := nI_clamp (n := r') (by omega)
  obtain ⟨x1, x2, x3, x4, x5, x6, x7, x8, x9⟩ := hx.1
  obtain ⟨y1, y2, y3, y4, y5, y6, y7, y8, y9⟩ := hy.1
  have kx := nar_k wx
  have ky := nar_k wy
  have n1 : ¬ r = r' := hne
  have n2 : ¬ r' = r := fun e => hne e.symm
  have fin : ∀ s1 : rS, s1.2.2.1 16 = s.2.2.1 16 → s1.2.2.1 17 = s.2.2.1 17 → (f_MD_exchange_197 N m (nI r) (nI r') N 0).1 (ov M m s1) = some ((), ov M m (s1.1, s1.2.1, va_up (va_up s1.2.2.1 16 (sw2 (s.2.2.1 16) r r' 20)) 17 (sw2 (s.2.2.1 17) r r' 20), s1.2.2.2)) := by
    intro s1 e1 e2
    have := m_exc_loop (N := N) (M := M) (m := m) (s := s1) hr hr' hne 20 N 0 (by omega) (by omega)
    rw [sw2_0, sw2_0, ua_self (k := 16) rfl, ua_self (k := 17) rfl, e1, e2] at this
    exact this
  rw [e_MD_exchange]
  simp only [mR_19, mR_20, mR_21, mR_22, mR_25, mR_26, mR_27, r_nn, mA_12 i1, mA_12 i2, c1, c2, x1, y1, kx, ky, mS_12 i1, mS_12 i2, ua_s, ua_ua,
    mA_13 i1, mA_13 i2, ua_n (show ¬ 13 = 12 by decide), x2, y2, mS_13 i1, mS_13 i2,
    mA_14 i1, mA_14 i2, ua_n (show ¬ 14 = 12 by decide), ua_n (show ¬ 14 = 13 by decide), x3, y3, mS_14 i1, mS_14 i2,
    mA_15 i1, mA_15 i2, ua_n (show ¬ 15 = 12 by decide), ua_n (show ¬ 15 = 13 by decide), ua_n (show ¬ 15 = 14 by decide), x5, y5, mS_15 i1, mS_15 i2,
    mA_18 i1, mA_18 i2, x7, y7, mS_18 i1, mS_18 i2, mA_19 i1, mA_19 i2, ua_n (show ¬ 19 = 18 by decide), x8, y8, mS_19 i1, mS_19 i2,
    mA_20 i1, mA_20 i2, ua_n (show ¬ 20 = 12 by decide), ua_n (show ¬ 20 = 13 by decide), ua_n (show ¬ 20 = 14 by decide), ua_n (show ¬ 20 = 15 by decide), x9, y9, nar_b, mS_20 i1, mS_20 i2]
  refine ⟨_, fin _ (by rfl) (by rfl), rfl, rfl, ⟨⟨?_, ?_, ?_, ?_, ?_, ?_, ?_, ?_, ?_⟩, hy.2⟩, ⟨⟨?_, ?_, ?_, ?_, ?_, ?_, ?_, ?_, ?_⟩, hx.2⟩, ?_, ?_⟩
  · exact (ua_n n1).trans ua_s
  · exact (ua_n n1).trans ua_s
  · exact (ua_n n1).trans ua_s
  · exact nmI_sw hne wy.2.1 y4
  · exact (ua_n n1).trans ua_s
  · exact nmI_sw hne wy.2.2 y6
  · exact (ua_n n1).trans ua_s
  · exact (ua_n n1).trans ua_s
  · exact (ua_n n1).trans ua_s
  · exact ua_s
  · exact ua_s
  · exact ua_s
  · exact nmI_sw' hne wx.2.1 x4
  · exact ua_s
  · exact nmI_sw' hne wx.2.2 x6
  · exact ua_s
  · exact ua_s
  · exact ua_s
  · intro j i h1 h2
    show va_up (va_up (va_up (va_up (va_up (va_up (va_up s.2.2.1 12 _) 13 _) 14 _) 15 _) 20 _) 16 _) 17 _ j i = s.2.2.1 j i
    unfold tch at h1 h2
    by_cases c17 : j = 17
    · subst c17; rw [ua_s]; unfold sw2; rw [if_neg (by omega), if_neg (by omega)]
    · rw [ua_n c17]
      by_cases c16 : j = 16
      · subst c16; rw [ua_s]; unfold sw2; rw [if_neg (by omega), if_neg (by omega)]
      · rw [ua_n c16]
        by_cases c20 : j = 20
        · subst c20; exact (ua_n (by omega)).trans (ua_n (by omega))
        · rw [ua_n c20]
          by_cases c15 : j = 15
          · subst c15; exact (ua_n (by omega)).trans (ua_n (by omega))
          · rw [ua_n c15]
            by_cases c14 : j = 14
            · subst c14; exact (ua_n (by omega)).trans (ua_n (by omega))
            · rw [ua_n c14]
              by_cases c13 : j = 13
              · subst c13; exact (ua_n (by omega)).trans (ua_n (by omega))
              · rw [ua_n c13]
                by_cases c12 : j = 12
                · subst c12; exact (ua_n (by omega)).trans (ua_n (by omega))
                · rw [ua_n c12]
  · intro j i h1 h2
    show va_up (va_up s.2.2.2 18 _) 19 _ j i = s.2.2.2 j i
    unfold tchL at h1 h2
    by_cases c19 : j = 19
    · subst c19; exact (ua_n (by omega)).trans (ua_n (by omega))
    · rw [ua_n c19]
      by_cases c18 : j = 18
      · subst c18; exact (ua_n (by omega)).trans (ua_n (by omega))
      · rw [ua_n c18]
end EXC
