/-! LAYER 2: signs, and the class's Scan -/
abbrev cL (c : Int32) : Prop := (97 ≤ c ∧ c ≤ 122) ∨ (65 ≤ c ∧ c ≤ 90)
abbrev cD (c : Int32) : Prop := 48 ≤ c ∧ c ≤ 57
abbrev cB (c : Int32) : Prop := c = 45 ∨ c = 95 ∨ c = 46
def bI (P : Prop) [Decidable P] : Int32 := if P then 1 else 0
theorem bI_t {P : Prop} [Decidable P] (h : P) : bI P = 1 := if_pos h
theorem bI_f {P : Prop} [Decidable P] (h : ¬ P) : bI P = 0 := if_neg h
theorem rZ1 {M : hM} : (b_retN .boolean 1).1 M = some (1, M) := b_retN_ok (by decide)
theorem rZ0 {M : hM} : (b_retN .boolean 0).1 M = some (0, M) := b_retN_ok (by decide)
theorem i_nle {a b : Int32} : ¬ a ≤ b ↔ b < a := Int32.not_le
theorem i_nlt {a b : Int32} : ¬ a < b ↔ b ≤ a := Int32.not_lt
section
variable {N : Nat} {M : hM}
theorem s_isBar {c : Int32} : (f_Name_isBar N c).1 M = some (bI (cB c), M) := by
  rw [e_Name_isBar]
  by_cases h1 : c = 45
  · rw [bI_t (P := cB c) (Or.inl h1), r_let, r_let, r_if_t h1]; exact rZ1
  by_cases h2 : c = 95
  · rw [bI_t (P := cB c) (Or.inr (Or.inl h2)), r_let, r_let, r_if_f h1, r_if_t h2]; exact rZ1
  by_cases h3 : c = 46
  · rw [bI_t (P := cB c) (Or.inr (Or.inr h3)), r_let, r_let, r_if_f h1, r_if_f h2, r_if_t h3]; exact rZ1
  · rw [bI_f (P := cB c) (fun h => h.elim h1 (fun h => h.elim h2 h3)), r_let, r_let, r_if_f h1, r_if_f h2, r_if_f h3]; exact rZ0
theorem s_isDash {c : Int32} : (f_MD_isDash N c).1 M = some (bI (cB c), M) := by
  have e : f_MD_isDash N c = f_Name_isBar N c := rfl
  rw [e]; exact s_isBar
theorem s_isDigit {c : Int32} : (f_Scan_isDigit N c).1 M = some (bI (cD c), M) := by
  rw [e_Scan_isDigit, r_let, r_let]
  by_cases h1 : c < 48
  · rw [bI_f (P := cD c) (fun h => absurd h.1 (i_nle.mpr h1)), r_if_t h1]; exact rZ0
  by_cases h2 : 57 < c
  · rw [bI_f (P := cD c) (fun h => absurd h.2 (i_nle.mpr h2)), r_if_f h1, r_if_t h2]; exact rZ0
  · rw [bI_t (P := cD c) ⟨i_nlt.mp h1, i_nlt.mp h2⟩, r_if_f h1, r_if_f h2]; exact rZ1
theorem s_isDigitR {c : Int32} : (f_MD_isDigit N c).1 M = some (bI (cD c), M) := by
  have e : f_MD_isDigit N c = f_Scan_isDigit N c := rfl
  rw [e]; exact s_isDigit
theorem s_isLetter {c : Int32} : (f_Scan_isLetter N c).1 M = some (bI (cL c), M) := by
  rw [e_Scan_isLetter, r_let, r_let, r_let]
  by_cases h1 : c < 97
  · rw [r_if_t h1, r_let]
    by_cases h2 : c < 65
    · rw [bI_f (P := cL c) (fun h => h.elim (fun h => absurd h.1 (i_nle.mpr h1)) (fun h => absurd h.1 (i_nle.mpr h2))), r_if_t h2]; exact rZ0
    by_cases h3 : 90 < c
    · rw [bI_f (P := cL c) (fun h => h.elim (fun h => absurd h.1 (i_nle.mpr h1)) (fun h => absurd h.2 (i_nle.mpr h3))), r_if_f h2, r_if_t h3]; exact rZ0
    · rw [bI_t (P := cL c) (Or.inr ⟨i_nlt.mp h2, i_nlt.mp h3⟩), r_if_f h2, r_if_f h3]; exact rZ1
  · rw [r_if_f h1]
    by_cases h2 : c ≤ 122
    · rw [bI_t (P := cL c) (Or.inl ⟨i_nlt.mp h1, h2⟩), r_if_t h2]; exact rZ1
    · have h3 : 90 < c := Int32.lt_of_lt_of_le (by decide) (i_nlt.mp h1)
      have h4 : ¬ c < 65 := i_nlt.mpr (Int32.le_trans (by decide) (i_nlt.mp h1))
      rw [bI_f (P := cL c) (fun h => h.elim (fun h => h2 h.2) (fun h => absurd h.2 (i_nle.mpr h3))), r_if_f h2, r_let, r_if_f h4, r_if_t h3]; exact rZ0
theorem s_isLetterR {c : Int32} : (f_MD_isLetter N c).1 M = some (bI (cL c), M) := by
  have e : f_MD_isLetter N c = f_Scan_isLetter N c := rfl
  rw [e]; exact s_isLetter
end
/-- the Scan's numbers: count, place, refused, wordFrom, wordTo, value, least, end -/
abbrev sV : Type := Int32 × Int32 × Int32 × Int32 × Int32 × Int64 × Int64 × Int64
def scC (p : Nat) (v : sV) : va_E := .inr (8, [.ref p, .int v.1, .int v.2.1, .int v.2.2.1, .int v.2.2.2.1, .int v.2.2.2.2.1, .long v.2.2.2.2.2.1, .long v.2.2.2.2.2.2.1, .long v.2.2.2.2.2.2.2])
/-- Scan a with its signs f at p -/
def sAt (M : hM) (a p : Nat) (v : sV) (f : Nat → Int32) : Prop := M.1 a = some (scC p v) ∧ M.1 p = some (.inl (0, 2000, .inl f)) ∧ a ≠ p
section
variable {N : Nat} {M : hM} {a p : Nat} {v : sV} {f : Nat → Int32}
theorem sAt.up (h : sAt M a p v f) (w : sV) : sAt (hm_up M a (scC p w)) a p w f := ⟨up_s, (up_n (Ne.symm h.2.2)).trans h.2.1, h.2.2⟩
theorem s_refuse {w : Int32} (h : M.1 a = some (scC p v)) : (f_Scan_refuse N a w).1 M = some (0, hm_up M a (scC p (v.1, v.2.1, w, v.2.2.2))) := by
  rw [e_Scan_refuse]
  exact (r_put h (Nat.le_of_ble_eq_true rfl)).trans rZ0
theorem s_refusal (h : M.1 a = some (scC p v)) : (f_Scan_refusal N a).1 M = some ((-1) - v.2.2.1, M) := by
  rw [e_Scan_refusal]
  exact (r_getI h rfl).trans rfl
theorem s_begin (h : M.1 a = some (scC p v)) : (f_Scan_begin N a).1 M = some ((), hm_up M a (scC p (v.1, 0, 0, 0, 0, v.2.2.2.2.2))) := by
  rw [e_Scan_begin]
  refine (r_put h (Nat.le_of_ble_eq_true rfl)).trans ?_
  refine (r_put up_s (Nat.le_of_ble_eq_true rfl)).trans ?_
  rw [up_up]
  refine (r_put up_s (Nat.le_of_ble_eq_true rfl)).trans ?_
  rw [up_up]
  refine (r_put up_s (Nat.le_of_ble_eq_true rfl)).trans ?_
  rw [up_up]
  rfl
theorem s_useUp (h : M.1 a = some (scC p v)) : (f_Scan_useUp N a).1 M = some ((), hm_up M a (scC p (0, v.2))) := by
  rw [e_Scan_useUp]
  exact (r_put h (Nat.le_of_ble_eq_true rfl)).trans rfl
/-- the sign at a place, 0 behind the last -/
def sgn (f : Nat → Int32) (n k : Nat) : Int32 := if k < n then f k else 0
/-- signs as they are collected: from 0 to 255 -/
def fit8 (f : Nat → Int32) : Prop := ∀ k, ∃ j : Nat, j < 256 ∧ f k = nI j
theorem fit8.nar (h : fit8 f) (k : Nat) : vp_nar .char (f k) = f k := by
  obtain ⟨j, hj, e⟩ := h k
  rw [e]
  exact Value.int.inj (pk_charN (q := j) (by omega)).1
theorem s_signHere {n k : Nat} (h : sAt M a p v f) (h8 : fit8 f) (hn : v.1 = nI n) (hk : v.2.1 = nI k) (hn2 : n ≤ 2000) (hkn : k ≤ 2000) : (f_Scan_signHere N a).1 M = some (sgn f n k, M) := by
  rw [e_Scan_signHere, r_let]
  refine (r_getI h.1 rfl).trans ?_
  refine (r_getI h.1 rfl).trans ?_
  rw [hn, hk]
  by_cases hc : k < n
  · rw [r_if_f (nI_ge hc (by omega))]
    refine (r_getR (r := some p) h.1 rfl).trans ?_
    refine (r_getI h.1 rfl).trans ?_
    rw [hk]
    refine (r_ald (i := nI k) h.2.1 (nI_in (N := 2000) (by omega) (by omega))).trans ?_
    rw [nI_clamp (by omega), sgn, if_pos hc]
    exact b_retN_ok (h8.nar k)
  · rw [r_if_t (nI_le (by omega) (by omega)), sgn, if_neg hc]
    exact b_retN_ok (by decide)
/-- where the blanks from k on end -/
def skp (f : Nat → Int32) : Nat → Nat → Nat
  | 0, k => k
  | m + 1, k => if f k = 32 ∨ f k = 10 then skp f m (k + 1) else k
theorem skp_le : ∀ (m k : Nat), skp f m k ≤ k + m
  | 0, k => Nat.le_refl _
  | m + 1, k => by
    rw [skp]
    split
    · have := skp_le m (k + 1); omega
    · omega
theorem skp_ge : ∀ (m k : Nat), k ≤ skp f m k
  | 0, k => Nat.le_refl _
  | m + 1, k => by
    rw [skp]
    split
    · have := skp_ge m (k + 1); omega
    · omega
theorem s_skip_loop {n : Nat} (hn2 : n ≤ 2000) : ∀ (m fu k : Nat) (M : hM) (v : sV), m + k = n → m < fu → sAt M a p v f → v.1 = nI n → v.2.1 = nI k → (f_Scan_skipBlanks_0 N a fu).1 M = some ((), hm_up M a (scC p (v.1, nI (skp f m k), v.2.2))) := by
  intro m
  induction m with
  | zero =>
    intro fu k M v hk hfu h hn hp
    obtain ⟨fu, rfl⟩ : ∃ q, fu = q + 1 := ⟨fu - 1, by omega⟩
    rw [e_Scan_skipBlanks_0, r_let]
    refine (r_getI h.1 rfl).trans ?_
    refine (r_getI h.1 rfl).trans ?_
    rw [hn, hp, r_if_t (nI_le (by omega) (by omega)), skp, ← hn, ← hp]
    have e : hm_up M a (scC p (v.1, v.2.1, v.2.2)) = M := up_self h.1
    rw [e]
    rfl
  | succ m ih =>
    intro fu k M v hk hfu h hn hp
    obtain ⟨fu, rfl⟩ : ∃ q, fu = q + 1 := ⟨fu - 1, by omega⟩
    rw [e_Scan_skipBlanks_0, r_let]
    refine (r_getI h.1 rfl).trans ?_
    refine (r_getI h.1 rfl).trans ?_
    rw [hn, hp, r_if_f (nI_ge (by omega) (by omega))]
    refine (r_getR (r := some p) h.1 rfl).trans ?_
    refine (r_getI h.1 rfl).trans ?_
    rw [hp, r_nn]
    refine (r_ald (i := nI k) h.2.1 (nI_in (N := 2000) (by omega) (by omega))).trans ?_
    rw [nI_clamp (by omega)]
    have step : (b_getI a 8 2 fun v1 => b_put a 8 2 (.int (v1 + 1)) (f_Scan_skipBlanks_0 N a fu)).1 M = some ((), hm_up M a (scC p (v.1, nI (skp f m (k + 1)), v.2.2))) := by
      refine (r_getI h.1 rfl).trans ?_
      refine (r_put h.1 (Nat.le_of_ble_eq_true rfl)).trans ?_
      refine (ih fu (k + 1) _ (v.1, v.2.1 + 1, v.2.2) (by omega) (by omega) (h.up _) hn (by rw [hp]; exact nI_1 k)).trans ?_
      rw [up_up]
    by_cases h1 : f k = 32
    · rw [r_if_t h1, skp, if_pos (Or.inl h1)]
      rw [← hn]; exact step
    · rw [r_if_f h1]
      refine (r_getR (r := some p) h.1 rfl).trans ?_
      refine (r_getI h.1 rfl).trans ?_
      rw [hp, r_nn]
      refine (r_ald (i := nI k) h.2.1 (nI_in (N := 2000) (by omega) (by omega))).trans ?_
      rw [nI_clamp (by omega)]
      by_cases h2 : f k = 10
      · rw [r_if_t h2, skp, if_pos (Or.inr h2)]
        rw [← hn]; exact step
      · rw [r_if_f h2, skp, if_neg (fun z => z.elim h1 h2), ← hn, ← hp]
        have e : hm_up M a (scC p (v.1, v.2.1, v.2.2)) = M := up_self h.1
        rw [e]
        rfl
theorem s_skip {n k : Nat} (hN : 2001 ≤ N) (h : sAt M a p v f) (hn : v.1 = nI n) (hk : v.2.1 = nI k) (hn2 : n ≤ 2000) (hkn : k ≤ n) : (f_Scan_skipBlanks N a).1 M = some ((), hm_up M a (scC p (v.1, nI (skp f (n - k) k), v.2.2))) := by
  rw [e_Scan_skipBlanks]
  exact s_skip_loop hn2 (n - k) N k M v (by omega) (by omega) h hn hk
end
