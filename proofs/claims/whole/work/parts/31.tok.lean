/-! LAYER 2: the reference's words: next -/
/-- a signed byte's view of a sign -/
def sx (c : Int32) : Int32 := c.toInt8.toInt32
def tx (f : Nat → Int32) : Nat → Int32 := fun j => sx (f j)
theorem sx_dec : ∀ b : Fin 256, (cL (sx (nI b.val)) ↔ cL (nI b.val)) ∧ (cD (sx (nI b.val)) ↔ cD (nI b.val)) ∧ (cB (sx (nI b.val)) ↔ cB (nI b.val)) ∧ sx (nI b.val) &&& 255 = nI b.val ∧ (sx (nI b.val) = 32 ↔ nI b.val = 32) ∧ (sx (nI b.val) = 10 ↔ nI b.val = 10) ∧ (sx (nI b.val) = 60 ↔ nI b.val = 60) ∧ (sx (nI b.val) = 61 ↔ nI b.val = 61) ∧ (sx (nI b.val) = 62 ↔ nI b.val = 62) ∧ (cL (nI b.val) ∨ cD (nI b.val) ∨ cB (nI b.val) ∨ nI b.val = 60 ∨ nI b.val = 62 → sx (nI b.val) = nI b.val) ∧ nI b.val ≠ -1 ∧ nI b.val ≠ -2 ∧ nI b.val ≠ -3 ∧ nI b.val ≠ 360 ∧ nI b.val ≠ 362 := by decide +kernel
section TOK
variable {N : Nat} {M : hM} {m : Nat} {s : rS} {f : Nat → Int32} {n k : Nat}
theorem ua_ua {α : Type} {f : Nat → α} {k : Nat} {v w : α} : va_up (va_up f k v) k w = va_up f k w := by
  funext j; unfold va_up; split <;> rfl
theorem ua_45 {α : Type} {f : Nat → α} {v w : α} : va_up (va_up f 4 v) 5 w = va_up (va_up f 5 w) 4 v := by
  funext j; unfold va_up
  by_cases h : j = 4
  · subst h; rfl
  · rw [if_neg h, if_neg h]
theorem ua_self {α : Type} {f : Nat → α} {k : Nat} {v : α} (h : f k = v) : va_up f k v = f := by
  funext j; unfold va_up; split
  · rename_i e; rw [e, h]
  · rfl
theorem ua_c {α : Type} {f : Nat → α} {k l : Nat} {v w : α} (h : k ≠ l) : va_up (va_up f k v) l w = va_up (va_up f l w) k v := by
  funext j; unfold va_up
  by_cases h1 : j = k
  · rw [if_pos h1, if_pos h1, if_neg (fun e => h (h1.symm.trans e))]
  · rw [if_neg h1, if_neg h1]
theorem m_isWrong : (f_MD_isWrong N m).1 (ov M m s) = some (bI (¬ s.1 7 = 0), ov M m s) := by
  rw [e_MD_isWrong]
  by_cases h : s.1 7 = 0
  · simp only [r_let, mI_7, h, if_true, rZ0, rZ1, bI, not_true_eq_false, if_false]
  · simp only [r_let, mI_7, h, if_true, rZ0, rZ1, bI, not_false_eq_true, if_false]
theorem m_fail0 {x : Int32} (h : s.1 7 = 0) : (f_MD_fail N m x).1 (ov M m s) = some ((), ov M m (va_up s.1 7 ((-1) - x), s.2)) := by
  rw [e_MD_fail]
  simp only [mI_7, mP_7, h, if_true, r_ret]
theorem m_failN {x : Int32} (h : ¬ s.1 7 = 0) : (f_MD_fail N m x).1 (ov M m s) = some ((), ov M m s) := by
  rw [e_MD_fail]
  simp only [mI_7, mP_7, h, if_false, r_ret]
theorem sx_L (h8 : fit8 f) {j : Nat} : cL (tx f j) ↔ cL (f j) := by
  obtain ⟨b, hb, e⟩ := h8 j; unfold tx; rw [e]; exact (sx_dec ⟨b, hb⟩).1
theorem sx_D (h8 : fit8 f) {j : Nat} : cD (tx f j) ↔ cD (f j) := by
  obtain ⟨b, hb, e⟩ := h8 j; unfold tx; rw [e]; exact (sx_dec ⟨b, hb⟩).2.1
theorem sx_B (h8 : fit8 f) {j : Nat} : cB (tx f j) ↔ cB (f j) := by
  obtain ⟨b, hb, e⟩ := h8 j; unfold tx; rw [e]; exact (sx_dec ⟨b, hb⟩).2.2.1
theorem sx_255 (h8 : fit8 f) {j : Nat} : tx f j &&& 255 = f j := by
  obtain ⟨b, hb, e⟩ := h8 j; unfold tx; rw [e]; exact (sx_dec ⟨b, hb⟩).2.2.2.1
theorem sx_32 (h8 : fit8 f) {j : Nat} : tx f j = 32 ↔ f j = 32 := by
  obtain ⟨b, hb, e⟩ := h8 j; unfold tx; rw [e]; exact (sx_dec ⟨b, hb⟩).2.2.2.2.1
theorem sx_10 (h8 : fit8 f) {j : Nat} : tx f j = 10 ↔ f j = 10 := by
  obtain ⟨b, hb, e⟩ := h8 j; unfold tx; rw [e]; exact (sx_dec ⟨b, hb⟩).2.2.2.2.2.1
theorem sx_60 (h8 : fit8 f) {j : Nat} : tx f j = 60 ↔ f j = 60 := by
  obtain ⟨b, hb, e⟩ := h8 j; unfold tx; rw [e]; exact (sx_dec ⟨b, hb⟩).2.2.2.2.2.2.1
theorem sx_61 (h8 : fit8 f) {j : Nat} : tx f j = 61 ↔ f j = 61 := by
  obtain ⟨b, hb, e⟩ := h8 j; unfold tx; rw [e]; exact (sx_dec ⟨b, hb⟩).2.2.2.2.2.2.2.1
theorem sx_62 (h8 : fit8 f) {j : Nat} : tx f j = 62 ↔ f j = 62 := by
  obtain ⟨b, hb, e⟩ := h8 j; unfold tx; rw [e]; exact (sx_dec ⟨b, hb⟩).2.2.2.2.2.2.2.2.1
theorem sx_id (h8 : fit8 f) {j : Nat} (h : cL (f j) ∨ cD (f j) ∨ cB (f j) ∨ f j = 60 ∨ f j = 62) : tx f j = f j := by
  obtain ⟨b, hb, e⟩ := h8 j; unfold tx; rw [e]; exact (sx_dec ⟨b, hb⟩).2.2.2.2.2.2.2.2.2.1 (by rw [← e]; exact h)
theorem sx_no (h8 : fit8 f) {j : Nat} : f j ≠ -1 ∧ f j ≠ -2 ∧ f j ≠ -3 ∧ f j ≠ 360 ∧ f j ≠ 362 := by
  obtain ⟨b, hb, e⟩ := h8 j; rw [e]; exact (sx_dec ⟨b, hb⟩).2.2.2.2.2.2.2.2.2.2
/-- a two-sign bound -/
abbrev bth (f : Nat → Int32) (n q : Nat) : Prop := (f q = 60 ∨ f q = 62) ∧ q + 1 < n ∧ f (q + 1) = 61
/-- where the word that begins at q ends, and what it is -/
def te (f : Nat → Int32) (n q : Nat) : Nat := if n ≤ q then q else if cL (f q) then we f n q else if cD (f q) then den f (n - q) q else if bth f n q then q + 2 else q + 1
def tw (f : Nat → Int32) (n q : Nat) : Int32 := if n ≤ q then -1 else if cL (f q) then -2 else if cD (f q) then -3 else if bth f n q then 300 + f q else f q
def tS (s : rS) (f : Nat → Int32) (n : Nat) : Prop := s.1 2 = nI n ∧ n ≤ 2000 ∧ fit8 f ∧ s.2.2.1 1 = tx f
theorem te_ge {q : Nat} : q ≤ te f n q := by
  unfold te; split
  · omega
  · split
    · exact wen_ge _ _
    · split
      · exact den_ge _ _
      · split <;> omega
theorem te_le {q : Nat} (h : q ≤ n) : te f n q ≤ n := by
  unfold te; split
  · omega
  · split
    · exact we_le h
    · split
      · have := den_le (f := f) (n - q) q; omega
      · split
        · rename_i h; have := h.2.1; omega
        · omega
theorem m_next_116 (hn : n ≤ 2000) : ∀ (d fu k : Nat) (s : rS), d + k = n → d < fu → tS s f n → s.1 4 = nI k → (f_MD_next_116 N m fu).1 (ov M m s) = some ((), ov M m (va_up s.1 4 (nI (wen f d k)), s.2)) := by
  intro d
  induction d with
  | zero =>
    intro fu k s hd hfu h hk
    obtain ⟨fu, rfl⟩ : ∃ g, fu = g + 1 := ⟨fu - 1, by omega⟩
    rw [e_MD_next_116]
    have h1 : nI n ≤ nI k := nI_le (by omega) (by omega)
    simp only [r_let, mI_4, mI_2, h.1, hk, h1, if_true, r_ret]
    rw [show wen f 0 k = k from rfl, ua_self hk]
  | succ d ih =>
    intro fu k s hd hfu h hk
    obtain ⟨fu, rfl⟩ : ∃ g, fu = g + 1 := ⟨fu - 1, by omega⟩
    rw [e_MD_next_116]
    have h1 : ¬ nI n ≤ nI k := nI_ge (by omega) (by omega)
    have h2 : ¬ (nI k < 0 ∨ 2000 ≤ (nI k).toNatClampNeg) := nI_in (by omega) (by decide)
    have h3 := nI_clamp (n := k) (by omega)
    have st : (wen f (d + 1) k) = if cL (f k) ∨ cD (f k) ∨ cB (f k) then wen f d (k + 1) else k := rfl
    have hrec : (f_MD_next_116 N m fu).1 (ov M m (va_up s.1 4 (nI (k + 1)), s.2)) = some ((), ov M m (va_up s.1 4 (nI (wen f d (k + 1))), s.2)) := by
      refine (ih fu (k + 1) (va_up s.1 4 (nI (k + 1)), s.2) (by omega) (by omega) ⟨?_, h.2.1, h.2.2.1, h.2.2.2⟩ rfl).trans ?_
      · exact h.1
      · rw [ua_ua]
    simp only [r_let, mI_4, mI_2, mR_1, r_nn, h.1, hk, h1, if_false, mA_1 h2, h3, h.2.2.2, r_callE, s_isLetterR, s_isDigitR, s_isDash, Option.bind_some, mP_4, nI_1]
    rw [st]
    by_cases c1 : cL (f k)
    · rw [bI_t ((sx_L h.2.2.1).mpr c1), if_pos (Or.inl c1)]
      simp only [show ¬ (1 : Int32) = 0 by decide, if_false]
      simp only [mI_4, hk, mP_4, nI_1, hrec]
    · rw [bI_f (fun z => c1 ((sx_L h.2.2.1).mp z))]
      simp only [if_true, mI_4, mI_2, mR_1, r_nn, h.1, hk, h1, if_false, mA_1 h2, h3, h.2.2.2, r_callE, s_isLetterR, s_isDigitR, s_isDash, Option.bind_some]
      by_cases c2 : cD (f k)
      · rw [bI_t ((sx_D h.2.2.1).mpr c2), if_pos (Or.inr (Or.inl c2))]
        simp only [show ¬ (1 : Int32) = 0 by decide, if_false]
        simp only [mI_4, hk, mP_4, nI_1, hrec]
      · rw [bI_f (fun z => c2 ((sx_D h.2.2.1).mp z))]
        simp only [if_true, mI_4, mI_2, mR_1, r_nn, h.1, hk, h1, if_false, mA_1 h2, h3, h.2.2.2, r_callE, s_isLetterR, s_isDigitR, s_isDash, Option.bind_some]
        by_cases c3 : cB (f k)
        · rw [bI_t ((sx_B h.2.2.1).mpr c3), if_pos (Or.inr (Or.inr c3))]
          simp only [show ¬ (1 : Int32) = 0 by decide, if_false]
          simp only [mI_4, hk, mP_4, nI_1, hrec]
        · rw [bI_f (fun z => c3 ((sx_B h.2.2.1).mp z)), if_neg (c := cL (f k) ∨ cD (f k) ∨ cB (f k)) (fun z => z.elim c1 (fun z => z.elim c2 c3))]
          simp only [if_true, r_ret]
          rw [ua_self hk]
theorem m_next_198 (hn : n ≤ 2000) : ∀ (d fu k : Nat) (s : rS), d + k = n → d < fu → tS s f n → s.1 4 = nI k → (f_MD_next_198 N m fu).1 (ov M m s) = some ((), ov M m (va_up s.1 4 (nI (den f d k)), s.2)) := by
  intro d
  induction d with
  | zero =>
    intro fu k s hd hfu h hk
    obtain ⟨fu, rfl⟩ : ∃ g, fu = g + 1 := ⟨fu - 1, by omega⟩
    rw [e_MD_next_198]
    have h1 : nI n ≤ nI k := nI_le (by omega) (by omega)
    simp only [r_let, mI_4, mI_2, h.1, hk, h1, if_true, r_ret]
    rw [show den f 0 k = k from rfl, ua_self hk]
  | succ d ih =>
    intro fu k s hd hfu h hk
    obtain ⟨fu, rfl⟩ : ∃ g, fu = g + 1 := ⟨fu - 1, by omega⟩
    rw [e_MD_next_198]
    have h1 : ¬ nI n ≤ nI k := nI_ge (by omega) (by omega)
    have h2 : ¬ (nI k < 0 ∨ 2000 ≤ (nI k).toNatClampNeg) := nI_in (by omega) (by decide)
    have h3 := nI_clamp (n := k) (by omega)
    have st : (den f (d + 1) k) = if cD (f k) then den f d (k + 1) else k := rfl
    have hrec : (f_MD_next_198 N m fu).1 (ov M m (va_up s.1 4 (nI (k + 1)), s.2)) = some ((), ov M m (va_up s.1 4 (nI (den f d (k + 1))), s.2)) := by
      refine (ih fu (k + 1) (va_up s.1 4 (nI (k + 1)), s.2) (by omega) (by omega) ⟨?_, h.2.1, h.2.2.1, h.2.2.2⟩ rfl).trans ?_
      · exact h.1
      · rw [ua_ua]
    simp only [r_let, mI_4, mI_2, mR_1, r_nn, h.1, hk, h1, if_false, mA_1 h2, h3, h.2.2.2, r_callE, s_isLetterR, s_isDigitR, s_isDash, Option.bind_some, mP_4, nI_1]
    rw [st]
    by_cases c2 : cD (f k)
    · rw [bI_t ((sx_D h.2.2.1).mpr c2), if_pos c2]
      simp only [show ¬ (1 : Int32) = 0 by decide, if_false]
      simp only [mI_4, hk, mP_4, nI_1, hrec]
    · rw [bI_f (fun z => c2 ((sx_D h.2.2.1).mp z)), if_neg c2]
      simp only [if_true, r_ret]
      rw [ua_self hk]
end TOK
