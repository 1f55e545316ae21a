/-! LAYER 2: the reference adds a row -/
/-- what the writing of row r touches -/
def tch (r j i : Nat) : Prop := ((j = 12 ∨ j = 13 ∨ j = 14 ∨ j = 15 ∨ j = 20) ∧ i = r) ∨ ((j = 16 ∨ j = 17) ∧ 20 * r ≤ i ∧ i < 20 * r + 20)
def tchL (r j i : Nat) : Prop := (j = 18 ∨ j = 19) ∧ i = r
section ADDR
variable {N : Nat} {M : hM} {m p : Nat} {s s' s'' : rS} {f : Nat → Int32} {n k : Nat}
theorem nI_mul {a b : Nat} : nI a * nI b = nI (a * b) := (Int32.ofNat_mul a b).symm
theorem nar_kind : ∀ k : Fin 16, vp_nar .byte ((nI k.val).toInt8.toInt32) = nI k.val := by decide +kernel
theorem nmI_cp {A : Nat → Int32} {b L t : Nat} {g : Nat → Int32} : nmI (cpA A t L (fun j => g (b + j))) t (wd g b (b + L)) := by
  intro j hj
  rw [wd_len] at hj
  rw [cpA_in (by omega), wd_get (by omega)]
theorem m_addRow {w kd b L b2 L2 : Nat} {lo hi : Int64} (hN : 2001 ≤ N) (hS : tS s f n) (h7 : s.1 7 = 0) (h28 : s.1 28 = nI w) (hw : w < 200) (h11 : s.1 11 = nI p) (hp : p ≤ 40) (h31 : s.1 31 = nI kd) (hkd : kd < 16) (hb : b + L ≤ 2000) (hL : L ≤ 20) (hb2 : b2 + L2 ≤ 2000) (hL2 : L2 ≤ 20) :
    ∃ s', (f_MD_addRow N m (nI b) (nI L) (nI b2) (nI L2) lo hi).1 (ov M m s) = some (1, ov M m s') ∧ s'.1 = va_up s.1 28 (nI (w + 1)) ∧ s'.2.1 = s.2.1 ∧ RRow s' (200 * p + w) (kd, if kd = 8 then s.1 29 else -1, wd (tx f) b (b + L), wd (tx f) b2 (b2 + L2), lo, hi, false) ∧ (∀ j i, ¬ tch (200 * p + w) j i → s'.2.2.1 j i = s.2.2.1 j i) ∧ (∀ j i, ¬ tchL (200 * p + w) j i → s'.2.2.2 j i = s.2.2.2 j i) := by
  have i200 : ¬ nI w = 200 := fun z => by have := (nI_eq (b := 200) (by omega) (by omega)).mp z; omega
  have hr : 200 * p + w < 8200 := by omega
  have er : (200 : Int32) * nI p + nI w = nI (200 * p + w) := by rw [show (200 : Int32) * nI p = nI (200 * p) from nI_mul, nI_add]
  have e20 : (20 : Int32) * nI (200 * p + w) = nI (20 * (200 * p + w)) := nI_mul
  have hi1 : ¬ (nI (200 * p + w) < 0 ∨ 8200 ≤ (nI (200 * p + w)).toNatClampNeg) := nI_in hr (by decide)
  have hcl := nI_clamp (n := 200 * p + w) (by omega)
  have nk := nar_kind ⟨kd, hkd⟩
  dsimp only at nk
  have key : ∀ (s1 : rS) (st : Int32) (q : Nat → Nat → Int32), s1 = (s.1, s.2.1, q, s.2.2.2) → q 1 = tx f → q = va_up s.2.2.1 12 (va_up (s.2.2.1 12) (200 * p + w) (nI kd)) → ∃ s', ((b_nn (some (m + 13)) (fun a1 => b_ast a1 2 (nI (200 * p + w)) st (b_getR m 1 21 (fun r2 => b_nn r2 (fun a3 => b_ast a3 2 (nI (200 * p + w)) (nI L) (b_getR m 1 23 (fun r4 => b_is m 1 (b_call (f_MD_copyName N m (nI b) (nI L) r4 (20 * (nI (200 * p + w)))) (fun _ => b_getR m 1 22 (fun r9 => b_nn r9 (fun a10 => b_ast a10 2 (nI (200 * p + w)) (nI L2) (b_getR m 1 24 (fun r11 => b_is m 1 (b_call (f_MD_copyName N m (nI b2) (nI L2) r11 (20 * (nI (200 * p + w)))) (fun _ => b_getR m 1 25 (fun r16 => b_nn r16 (fun a17 => b_astL a17 7 (nI (200 * p + w)) lo (b_getR m 1 26 (fun r18 => b_nn r18 (fun a19 => b_astL a19 7 (nI (200 * p + w)) hi (b_getR m 1 27 (fun r20 => b_nn r20 (fun a21 => b_ast a21 5 (nI (200 * p + w)) (vp_nar .boolean 0) (b_getI m 1 28 (fun v22 => b_put m 1 28 (.int (v22 + 1)) (b_retN .boolean 1)))))))))))))))))))))))))) : hX Int32).1 (ov M m s1) = some (1, ov M m s') ∧ s'.1 = va_up s.1 28 (nI (w + 1)) ∧ s'.2.1 = s.2.1 ∧ RRow s' (200 * p + w) (kd, st, wd (tx f) b (b + L), wd (tx f) b2 (b2 + L2), lo, hi, false) ∧ (∀ j i, ¬ tch (200 * p + w) j i → s'.2.2.1 j i = s.2.2.1 j i) ∧ (∀ j i, ¬ tchL (200 * p + w) j i → s'.2.2.2 j i = s.2.2.2 j i) := by
    intro s1 st q e1 eq1 eq
    subst e1
    simp only [r_nn, mS_13 hi1, hcl, mR_21, mS_14 hi1, mR_23, mI_is, r_callE, e20]
    rw [m_copyName (f := f) (tj := 16) (Z := 164000) (t := 20 * (200 * p + w)) hN (by decide) (by decide) (fun i x K s h => mS_16 h) ?hx hb (by omega)]
    case hx => exact eq1
    simp only [Option.bind_some, r_nn, mR_22, mS_15 hi1, hcl, mR_24, mI_is, r_callE, e20]
    rw [m_copyName (f := f) (tj := 17) (Z := 164000) (t := 20 * (200 * p + w)) hN (by decide) (by decide) (fun i x K s h => mS_17 h) ?hx hb2 (by omega)]
    case hx => exact eq1
    simp only [Option.bind_some, r_nn, mR_25, mS_18 hi1, mR_26, mS_19 hi1, mR_27, mS_20 hi1, hcl, mI_28, mP_28, h28, nI_1, rZ1]
    refine ⟨_, rfl, rfl, rfl, ⟨?_, ?_, ?_, ?_, ?_, ?_, ?_, ?_, ?_⟩, ?_, ?_⟩
    · show q 12 (200 * p + w) = nI kd
      rw [eq]; exact (congrFun ua_s _).trans ua_s
    · exact ua_s
    · show va_up _ (200 * p + w) (nI L) (200 * p + w) = nI (wd (tx f) b (b + L)).length
      rw [ua_s, wd_len, Nat.add_sub_cancel_left]
    · exact nmI_cp
    · show va_up _ (200 * p + w) (nI L2) (200 * p + w) = nI (wd (tx f) b2 (b2 + L2)).length
      rw [ua_s, wd_len, Nat.add_sub_cancel_left]
    · exact nmI_cp
    · exact ua_s
    · exact ua_s
    · exact ua_s
    · intro j i hj
      show va_up (va_up (va_up (va_up (va_up (va_up q 13 _) 14 _) 16 _) 15 _) 17 _) 20 _ j i = s.2.2.1 j i
      rw [eq]
      unfold tch at hj
      by_cases c20 : j = 20
      · subst c20; exact ua_n (by omega)
      · rw [ua_n c20]
        by_cases c17 : j = 17
        · subst c17; rw [ua_s]; exact (cpA_out (i := i) (b := 20 * (200 * p + w)) (L := L2) (by omega)).trans rfl
        · rw [ua_n c17]
          by_cases c15 : j = 15
          · subst c15; exact ua_n (by omega)
          · rw [ua_n c15]
            by_cases c16 : j = 16
            · subst c16; rw [ua_s]; exact (cpA_out (i := i) (b := 20 * (200 * p + w)) (L := L) (by omega)).trans rfl
            · rw [ua_n c16]
              by_cases c14 : j = 14
              · subst c14; exact ua_n (by omega)
              · rw [ua_n c14]
                by_cases c13 : j = 13
                · subst c13; exact ua_n (by omega)
                · rw [ua_n c13]
                  by_cases c12 : j = 12
                  · subst c12; exact ua_n (by omega)
                  · rw [ua_n c12]
    · intro j i hj
      show va_up (va_up s.2.2.2 18 _) 19 _ j i = s.2.2.2 j i
      unfold tchL at hj
      by_cases c19 : j = 19
      · subst c19; exact ua_n (by omega)
      · rw [ua_n c19]
        by_cases c18 : j = 18
        · subst c18; exact ua_n (by omega)
        · rw [ua_n c18]
  have q1 : va_up s.2.2.1 12 (va_up (s.2.2.1 12) (200 * p + w) (nI kd)) 1 = tx f := hS.2.2.2
  rw [e_MD_addRow, r_let]
  simp only [mI_is, r_callE, m_isWrong, h7, not_true_eq_false, Option.bind_some, bI, if_false, if_true, mI_28, h28, i200, e_MD_base, mI_11, h11, r_ret, mR_19, mI_31, h31, r_nn, er, mS_12 hi1, hcl, nk, mR_20]
  by_cases c8 : kd = 8
  · simp only [c8, show nI 8 = 8 from rfl, if_true, mI_29]
    rw [c8] at key
    exact key _ (s.1 29) _ rfl (by rw [c8] at q1; exact q1) rfl
  · have c8' : ¬ nI kd = 8 := fun z => c8 ((nI_eq (b := 8) (by omega) (by omega)).mp z)
    simp only [c8, c8', if_false]
    exact key _ (-1) _ rfl q1 rfl
theorem m_addFull {q0 : Nat} {x1 x2 x3 x4 : Int32} {lo hi : Int64} (h7 : s.1 7 = 0) (h28 : s.1 28 = nI 200) (h30 : s.1 30 = nI q0) : (f_MD_addRow N m x1 x2 x3 x4 lo hi).1 (ov M m s) = some (0, ov M m (va_up s.1 7 (wr q0), s.2)) := by
  rw [e_MD_addRow, r_let]
  simp only [mI_is, r_callE, m_isWrong, h7, not_true_eq_false, Option.bind_some, bI, if_false, if_true, mI_28, h28, show nI 200 = 200 from rfl, mI_30, h30, m_fail0 h7, rZ0]
  rfl
theorem m_addW {x1 x2 x3 x4 : Int32} {lo hi : Int64} (h7 : ¬ s.1 7 = 0) : (f_MD_addRow N m x1 x2 x3 x4 lo hi).1 (ov M m s) = some (0, ov M m s) := by
  rw [e_MD_addRow, r_let]
  simp only [mI_is, r_callE, m_isWrong, h7, not_false_eq_true, Option.bind_some, bI, if_true, show ¬ (1 : Int32) = 0 by decide, if_false, rZ0]
end ADDR
