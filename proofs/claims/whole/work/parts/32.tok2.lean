/-! LAYER 2: the reference's words: next -/
section TOK2
variable {N : Nat} {M : hM} {m : Nat} {s : rS} {f : Nat → Int32} {n k : Nat}
/-- the scalars that tell the word at q -/
def tk (s : rS) (f : Nat → Int32) (n q : Nat) : rS := (va_up (va_up (va_up s.1 3 (nI q)) 5 (tw f n q)) 4 (nI (te f n q)), s.2)
theorem tk_3 {x : Int32} {q : Nat} : tk (va_up s.1 3 x, s.2) f n q = tk s f n q := by
  unfold tk; rw [ua_ua]
theorem tk_of {q : Nat} (h3 : s.1 3 = nI q) : tk s f n q = (va_up (va_up s.1 5 (tw f n q)) 4 (nI (te f n q)), s.2) := by
  unfold tk; rw [ua_self h3]
theorem m_next_16 (hN : 2001 ≤ N) (hn : n ≤ 2000) : ∀ (d fu k : Nat) (s : rS), d + k = n → d < fu → tS s f n → s.1 3 = nI k → (f_MD_next_16 N m fu).1 (ov M m s) = some ((), ov M m (tk s f n (skp f d k))) := by
  intro d
  induction d with
  | zero =>
    intro fu k s hd hfu h hk
    obtain ⟨fu, rfl⟩ : ∃ g, fu = g + 1 := ⟨fu - 1, by omega⟩
    rw [e_MD_next_16]
    have h1 : nI n ≤ nI k := nI_le (by omega) (by omega)
    have h0 : k = n := by omega
    rw [show skp f 0 k = k from rfl, tk_of hk]
    have e1 : tw f n k = -1 := if_pos (by omega)
    have e2 : te f n k = k := if_pos (by omega)
    rw [e1, e2]
    simp only [r_let, mI_3, mI_2, h.1, hk, h1, if_true]
    simp only [mP_4, mI_3, mI_2, ua_n (show ¬ 3 = 4 by decide), ua_n (show ¬ 2 = 4 by decide), h.1, hk, h0, if_true, mP_5, r_ret]
    rw [ua_45]
  | succ d ih =>
    intro fu k s hd hfu h hk
    obtain ⟨fu, rfl⟩ : ∃ g, fu = g + 1 := ⟨fu - 1, by omega⟩
    rw [e_MD_next_16]
    have h1 : ¬ nI n ≤ nI k := nI_ge (by omega) (by omega)
    have h2 : ¬ (nI k < 0 ∨ 2000 ≤ (nI k).toNatClampNeg) := nI_in (by omega) (by decide)
    have h3 := nI_clamp (n := k) (by omega)
    have st : (skp f (d + 1) k) = if f k = 32 ∨ f k = 10 then skp f d (k + 1) else k := rfl
    have hrec : (f_MD_next_16 N m fu).1 (ov M m (va_up s.1 3 (nI (k + 1)), s.2)) = some ((), ov M m (tk s f n (skp f d (k + 1)))) := by
      refine (ih fu (k + 1) (va_up s.1 3 (nI (k + 1)), s.2) (by omega) (by omega) ⟨?_, h.2.1, h.2.2.1, h.2.2.2⟩ rfl).trans ?_
      · exact h.1
      · rw [tk_3]
    rw [r_let, r_let]
    simp only [mI_3, mI_2, h.1, hk, h1, if_false, mR_1, r_nn, mA_1 h2, h3, h.2.2.2]
    by_cases c1 : f k = 32
    · rw [st, if_pos (Or.inl c1), r_if_t ((sx_32 h.2.2.1).mpr c1)]
      simp only [mI_3, hk, mP_3, nI_1, hrec]
    · rw [r_if_f (fun z => c1 ((sx_32 h.2.2.1).mp z))]
      simp only [mI_3, mI_2, h.1, hk, h1, if_false, mR_1, r_nn, mA_1 h2, h3, h.2.2.2]
      by_cases c2 : f k = 10
      · rw [st, if_pos (Or.inr c2), r_if_t ((sx_10 h.2.2.1).mpr c2)]
        simp only [mI_3, hk, mP_3, nI_1, hrec]
      · rw [r_if_f (fun z => c2 ((sx_10 h.2.2.1).mp z)), st, if_neg (fun z => z.elim c1 c2), tk_of hk]
        have ne : ¬ nI k = nI n := fun z => by have := (nI_eq (by omega) (by omega)).mp z; omega
        have w4 : va_up s.1 4 (nI k) 3 = nI k := hk
        have w2 : va_up s.1 4 (nI k) 2 = nI n := h.1
        have hS : ∀ x, tS (va_up (va_up s.1 4 (nI k)) 5 x, s.2) f n := fun x => ⟨h.1, h.2.1, h.2.2.1, h.2.2.2⟩
        have n0 : ¬ n ≤ k := by omega
        rw [r_let, r_let, r_let]
        simp only [mP_4, mI_3, mI_2, w4, w2, hk, ne, if_false, mR_1, r_nn, mA_1 h2, h3, h.2.2.2, r_callE, s_isLetterR, s_isDigitR, Option.bind_some]
        by_cases c3 : cL (f k)
        · have e1 : tw f n k = -2 := (if_neg n0).trans (if_pos c3)
          have e2 : te f n k = we f n k := (if_neg n0).trans (if_pos c3)
          rw [e1, e2, bI_t ((sx_L h.2.2.1).mpr c3), r_if_f (show ¬ (1 : Int32) = 0 by decide)]
          simp only [mP_5]
          refine (m_next_116 hn (n - k) N k _ (by omega) (by omega) (hS _) rfl).trans ?_
          rw [ua_45, ua_ua]; rfl
        · have x3 : ¬ cL (tx f k) := fun z => c3 ((sx_L h.2.2.1).mp z)
          rw [bI_f x3, r_if_t rfl]
          simp only [r_callE, s_isDigitR, Option.bind_some]
          by_cases c4 : cD (f k)
          · have e1 : tw f n k = -3 := (if_neg n0).trans ((if_neg c3).trans (if_pos c4))
            have e2 : te f n k = den f (n - k) k := (if_neg n0).trans ((if_neg c3).trans (if_pos c4))
            rw [e1, e2, bI_t ((sx_D h.2.2.1).mpr c4), r_if_f (show ¬ (1 : Int32) = 0 by decide)]
            simp only [mP_5]
            refine (m_next_198 hn (n - k) N k _ (by omega) (by omega) (hS _) rfl).trans ?_
            rw [ua_45, ua_ua]
          · rw [bI_f (fun z => c4 ((sx_D h.2.2.1).mp z)), r_if_t rfl]
            have e1 : tw f n k = if bth f n k then 300 + f k else f k := (if_neg n0).trans ((if_neg c3).trans (if_neg c4))
            have e2 : te f n k = if bth f n k then k + 2 else k + 1 := (if_neg n0).trans ((if_neg c3).trans (if_neg c4))
            have one : ∀ (y0 : Int32) (x : Int32), va_up (va_up s.1 4 (nI k)) 5 x 3 = nI k := fun _ _ => hk
            rw [e1, e2]
            by_cases c5 : f k = 60 ∨ f k = 62
            · have nn2 : nI k + 1 = nI (k + 1) := nI_1 k
              have nn3 : nI k + 2 = nI (k + 2) := nI_add k 2
              have q5 : (f k = 60 ∧ tx f k = 60) ∨ (f k = 62 ∧ tx f k = 62) := c5.elim (fun z => Or.inl ⟨z, (sx_60 h.2.2.1).mpr z⟩) (fun z => Or.inr ⟨z, (sx_62 h.2.2.1).mpr z⟩)
              by_cases c6 : k + 1 < n
              · have g1 : ¬ nI n ≤ nI (k + 1) := nI_ge (by omega) (by omega)
                have g2 : ¬ (nI (k + 1) < 0 ∨ 2000 ≤ (nI (k + 1)).toNatClampNeg) := nI_in (by omega) (by decide)
                have g3 := nI_clamp (n := k + 1) (by omega)
                by_cases c7 : f (k + 1) = 61
                · have b5 : bth f n k := ⟨c5, c6, c7⟩
                  have t7 := (sx_61 h.2.2.1).mpr c7
                  rw [if_pos b5, if_pos b5]
                  rcases q5 with ⟨q1, q2⟩ | ⟨q1, q2⟩
                  · simp only [q1, q2, if_true, mI_3, mI_2, w4, w2, nn2, g1, if_false, mR_1, r_nn, mA_1 g2, g3, h.2.2.2, t7, r_let, show ¬ (1 : Int32) = 0 by decide, mP_5, mP_4, one 0 _, nn3, r_ret]
                    rw [ua_45, ua_ua]
                  · simp only [q1, q2, show ¬ (62 : Int32) = 60 by decide, if_true, mI_3, mI_2, w4, w2, nn2, g1, if_false, mR_1, r_nn, mA_1 g2, g3, h.2.2.2, t7, r_let, show ¬ (1 : Int32) = 0 by decide, mP_5, mP_4, one 0 _, nn3, r_ret]
                    rw [ua_45, ua_ua]
                · have b5 : ¬ bth f n k := fun z => c7 z.2.2
                  have t7 : ¬ tx f (k + 1) = 61 := fun z => c7 ((sx_61 h.2.2.1).mp z)
                  have t8 := sx_255 h.2.2.1 (j := k)
                  rw [if_neg b5, if_neg b5]
                  rcases q5 with ⟨q1, q2⟩ | ⟨q1, q2⟩
                  · rw [q1, q2] at t8
                    simp only [q1, q2, if_true, mI_3, mI_2, w4, w2, nn2, g1, if_false, mR_1, r_nn, mA_1 g2, g3, h.2.2.2, t7, r_let, mP_5, mP_4, one 0 _, nn3, r_ret, t8]
                    rw [ua_45, ua_ua]
                  · rw [q1, q2] at t8
                    simp only [q1, q2, show ¬ (62 : Int32) = 60 by decide, if_true, mI_3, mI_2, w4, w2, nn2, g1, if_false, mR_1, r_nn, mA_1 g2, g3, h.2.2.2, t7, r_let, mP_5, mP_4, one 0 _, nn3, r_ret, t8]
                    rw [ua_45, ua_ua]
              · have b5 : ¬ bth f n k := fun z => c6 z.2.1
                have g1 : nI n ≤ nI (k + 1) := nI_le (by omega) (by omega)
                have t8 := sx_255 h.2.2.1 (j := k)
                rw [if_neg b5, if_neg b5]
                rcases q5 with ⟨q1, q2⟩ | ⟨q1, q2⟩
                · rw [q1, q2] at t8
                  simp only [q1, q2, if_true, mI_3, mI_2, w4, w2, nn2, g1, if_false, r_nn, r_let, mP_5, mP_4, one 0 _, r_ret, t8]
                  rw [ua_45, ua_ua]
                · rw [q1, q2] at t8
                  simp only [q1, q2, show ¬ (62 : Int32) = 60 by decide, if_true, mI_3, mI_2, w4, w2, nn2, g1, if_false, r_nn, r_let, mP_5, mP_4, one 0 _, r_ret, t8]
                  rw [ua_45, ua_ua]
            · have b5 : ¬ bth f n k := fun z => c5 z.1
              rw [if_neg b5, if_neg b5, r_if_f (fun z => c5 (Or.inl ((sx_60 h.2.2.1).mp z))), r_if_f (fun z => c5 (Or.inr ((sx_62 h.2.2.1).mp z)))]
              simp only [if_true, r_let, r_nn, mP_5, mI_3, mP_4, one 0 _, sx_255 h.2.2.1, nI_1, r_ret]
              rw [ua_45, ua_ua]
theorem m_next (hN : 2001 ≤ N) (h : tS s f n) (hk : s.1 4 = nI k) (hkn : k ≤ n) : (f_MD_next N m).1 (ov M m s) = some ((), ov M m (tk (va_up s.1 6 (nI k), s.2) f n (sp f n k))) := by
  rw [e_MD_next]
  have w : va_up s.1 6 (nI k) 4 = nI k := hk
  simp only [mI_4, hk, mP_6, w, mP_3]
  refine (m_next_16 hN h.2.1 (n - k) N k (va_up (va_up s.1 6 (nI k)) 3 (nI k), s.2) (by omega) (by have := h.2.1; omega) ⟨h.1, h.2.1, h.2.2.1, h.2.2.2⟩ rfl).trans ?_
  rw [show tk (va_up (va_up s.1 6 (nI k)) 3 (nI k), s.2) f n (skp f (n - k) k) = tk (va_up s.1 6 (nI k), s.2) f n (skp f (n - k) k) from tk_3 (s := (va_up s.1 6 (nI k), s.2))]
  rfl
/-- the reference stands behind k: its word is the next one -/
def tkS (s : rS) (f : Nat → Int32) (n k : Nat) : Prop := tS s f n ∧ s.1 6 = nI k ∧ s.1 3 = nI (sp f n k) ∧ s.1 5 = tw f n (sp f n k) ∧ s.1 4 = nI (te f n (sp f n k)) ∧ k ≤ n
theorem tkS_tk (h : tS s f n) (hk : k ≤ n) : tkS (tk (va_up s.1 6 (nI k), s.2) f n (sp f n k)) f n k := ⟨⟨h.1, h.2.1, h.2.2.1, h.2.2.2⟩, rfl, rfl, rfl, rfl, hk⟩
/-- the same, wherever the word behind ended -/
def tkW (s : rS) (f : Nat → Int32) (n k : Nat) : Prop := tS s f n ∧ s.1 3 = nI (sp f n k) ∧ s.1 5 = tw f n (sp f n k) ∧ s.1 4 = nI (te f n (sp f n k)) ∧ k ≤ n
theorem tkS.w (h : tkS s f n k) : tkW s f n k := ⟨h.1, h.2.2.1, h.2.2.2.1, h.2.2.2.2.1, h.2.2.2.2.2⟩
theorem skp_skp : ∀ (d k : Nat), skp f (d + k - skp f d k) (skp f d k) = skp f d k := by
  intro d
  induction d with
  | zero => intro k; show skp f (0 + k - k) k = k; rw [show 0 + k - k = 0 by omega]; rfl
  | succ d ih =>
    intro k
    by_cases c : f k = 32 ∨ f k = 10
    · rw [show skp f (d + 1) k = skp f d (k + 1) from if_pos c]
      have := ih (k + 1)
      rw [show d + (k + 1) - skp f d (k + 1) = d + 1 + k - skp f d (k + 1) by omega] at this
      exact this
    · rw [show skp f (d + 1) k = k from if_neg c, show d + 1 + k - k = d + 1 by omega]
      exact if_neg c
theorem sp_sp (h : k ≤ n) : sp f n (sp f n k) = sp f n k := by
  have := skp_skp (f := f) (n - k) k
  rw [show n - k + k - skp f (n - k) k = n - skp f (n - k) k by omega] at this
  exact this
theorem tkW.sp (h : tkW s f n k) : tkW s f n (sp f n k) := by
  obtain ⟨a, b, c, d, e⟩ := h
  refine ⟨a, ?_, ?_, ?_, sp_le e⟩ <;> rw [sp_sp e] <;> assumption
end TOK2
