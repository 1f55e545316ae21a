/-! LAYER 2: the class's Scan: blanks, signs, words, names -/
/-- behind the blanks from k on -/
def sp (f : Nat → Int32) (n k : Nat) : Nat := skp f (n - k) k
theorem sp_le {f : Nat → Int32} {n k : Nat} (h : k ≤ n) : sp f n k ≤ n := by have := skp_le (f := f) (n - k) k; unfold sp; omega
theorem sp_ge {f : Nat → Int32} {n k : Nat} : k ≤ sp f n k := skp_ge _ _
theorem sgn_0 {f : Nat → Int32} {n k : Nat} {c : Int32} (hc : c ≠ 0) (h : sgn f n k = c) : k < n := by
  unfold sgn at h
  by_cases q : k < n
  · exact q
  · rw [if_neg q] at h; exact absurd h.symm hc
/-- Scan a stands at place k of n signs -/
def sOk (M : hM) (a p : Nat) (v : sV) (f : Nat → Int32) (n k : Nat) : Prop := sAt M a p v f ∧ fit8 f ∧ v.1 = nI n ∧ v.2.1 = nI k ∧ n ≤ 2000 ∧ k ≤ n
/-- the end of a word, of digits -/
def wen (f : Nat → Int32) : Nat → Nat → Nat
  | 0, k => k
  | m + 1, k => if cL (f k) ∨ cD (f k) ∨ cB (f k) then wen f m (k + 1) else k
def den (f : Nat → Int32) : Nat → Nat → Nat
  | 0, k => k
  | m + 1, k => if cD (f k) then den f m (k + 1) else k
theorem wen_le {f : Nat → Int32} : ∀ (m k : Nat), wen f m k ≤ k + m
  | 0, k => Nat.le_refl _
  | m + 1, k => by
    rw [wen]
    split
    · have := wen_le (f := f) m (k + 1); omega
    · omega
theorem wen_ge {f : Nat → Int32} : ∀ (m k : Nat), k ≤ wen f m k
  | 0, k => Nat.le_refl _
  | m + 1, k => by
    rw [wen]
    split
    · have := wen_ge (f := f) m (k + 1); omega
    · omega
/-- where the word that begins at k ends -/
def we (f : Nat → Int32) (n k : Nat) : Nat := wen f (n - k) k
theorem we_le {f : Nat → Int32} {n k : Nat} (h : k ≤ n) : we f n k ≤ n := by have := wen_le (f := f) (n - k) k; unfold we; omega
theorem we_gt {f : Nat → Int32} {n k : Nat} (h : k < n) (hL : cL (f k)) : k < we f n k := by
  unfold we
  obtain ⟨m, hm⟩ : ∃ m, n - k = m + 1 := ⟨n - k - 1, by omega⟩
  rw [hm, wen, if_pos (Or.inl hL)]
  exact wen_ge m (k + 1)
section
variable {N : Nat} {M : hM} {a p : Nat} {v : sV} {f : Nat → Int32} {n k : Nat}
theorem sOk.up (h : sOk M a p v f n k) {w : sV} {k' : Nat} (h1 : w.1 = nI n) (h2 : w.2.1 = nI k') (h3 : k' ≤ n) : sOk (hm_up M a (scC p w)) a p w f n k' := ⟨h.1.up w, h.2.1, h1, h2, h.2.2.2.2.1, h3⟩
theorem s_sp (hN : 2001 ≤ N) (h : sOk M a p v f n k) : (f_Scan_skipBlanks N a).1 M = some ((), hm_up M a (scC p (v.1, nI (sp f n k), v.2.2))) := s_skip hN h.1 h.2.2.1 h.2.2.2.1 h.2.2.2.2.1 h.2.2.2.2.2
theorem s_sg (h : sOk M a p v f n k) : (f_Scan_signHere N a).1 M = some (sgn f n k, M) := s_signHere h.1 h.2.1 h.2.2.1 h.2.2.2.1 h.2.2.2.2.1 (Nat.le_trans h.2.2.2.2.2 h.2.2.2.2.1)
theorem s_atEnd (hN : 2001 ≤ N) (h : sOk M a p v f n k) : (f_Scan_atEnd N a).1 M = some (bI (n ≤ sp f n k), hm_up M a (scC p (v.1, nI (sp f n k), v.2.2))) := by
  rw [e_Scan_atEnd, r_let]
  refine (r_is h.1.1).trans ?_
  refine (r_call (s_sp hN h)).trans ?_
  refine (r_getI up_s rfl).trans ?_
  refine (r_getI up_s rfl).trans ?_
  have h2 : n ≤ 2000 := h.2.2.2.2.1
  have h3 := sp_le (f := f) h.2.2.2.2.2
  by_cases hc : sp f n k < n
  · rw [r_if_t (by rw [h.2.2.1]; exact nI_lt hc (by omega)), bI_f (Nat.not_le.mpr hc)]; exact rZ0
  · rw [r_if_f (by rw [h.2.2.1]; exact nI_nlt (by omega) (by omega)), bI_t (Nat.not_lt.mp hc)]; exact rZ1
theorem s_takeEnd (hN : 2001 ≤ N) (h : sOk M a p v f n k) : (f_Scan_takeEnd N a).1 M = if n ≤ sp f n k then some (1, hm_up M a (scC p (v.1, nI (sp f n k), v.2.2))) else some (0, hm_up M a (scC p (v.1, nI (sp f n k), nI (sp f n k), v.2.2.2))) := by
  rw [e_Scan_takeEnd, r_let, r_let]
  refine (r_is h.1.1).trans ?_
  refine (r_call (s_atEnd hN h)).trans ?_
  by_cases hc : n ≤ sp f n k
  · rw [bI_t hc, r_if_f (by decide), if_pos hc]; exact rZ1
  · rw [bI_f hc, r_if_t rfl, if_neg hc]
    refine (r_getI up_s rfl).trans ?_
    refine (r_is up_s).trans ?_
    refine (r_call (s_refuse up_s)).trans ?_
    rw [r_if_t rfl, up_up]; exact rZ0
theorem s_takeIfNext {c : Int32} (hc0 : c ≠ 0) (hN : 2001 ≤ N) (h : sOk M a p v f n k) : (f_Scan_takeIfNext N a c).1 M = if sgn f n (sp f n k) = c then some (1, hm_up M a (scC p (v.1, nI (sp f n k + 1), v.2.2))) else some (0, hm_up M a (scC p (v.1, nI (sp f n k), v.2.2))) := by
  rw [e_Scan_takeIfNext]
  refine (r_is h.1.1).trans ?_
  refine (r_call (s_sp hN h)).trans ?_
  have h1 := h.up (w := (v.1, nI (sp f n k), v.2.2)) h.2.2.1 rfl (sp_le h.2.2.2.2.2)
  refine (r_is h1.1.1).trans ?_
  refine (r_call (s_sg h1)).trans ?_
  by_cases hc : sgn f n (sp f n k) = c
  · rw [r_if_t hc, if_pos hc]
    refine (r_getI up_s rfl).trans ?_
    refine (r_put up_s (Nat.le_of_ble_eq_true rfl)).trans ?_
    rw [up_up]
    refine rZ1.trans ?_
    rw [← nI_1]
    rfl
  · rw [r_if_f hc, if_neg hc]; exact rZ0
theorem s_isNext {c : Int32} (hN : 2001 ≤ N) (h : sOk M a p v f n k) : (f_Scan_isNext N a c).1 M = some (bI (sgn f n (sp f n k) = c), hm_up M a (scC p (v.1, nI (sp f n k), v.2.2))) := by
  rw [e_Scan_isNext, r_let]
  refine (r_is h.1.1).trans ?_
  refine (r_call (s_sp hN h)).trans ?_
  have h1 := h.up (w := (v.1, nI (sp f n k), v.2.2)) h.2.2.1 rfl (sp_le h.2.2.2.2.2)
  refine (r_is h1.1.1).trans ?_
  refine (r_call (s_sg h1)).trans ?_
  by_cases hc : sgn f n (sp f n k) = c
  · rw [r_if_t hc, bI_t hc]; exact rZ1
  · rw [r_if_f hc, bI_f hc]; exact rZ0
theorem s_takeSign {c : Int32} (hc0 : c ≠ 0) (hN : 2001 ≤ N) (h : sOk M a p v f n k) : (f_Scan_takeSign N a c).1 M = if sgn f n (sp f n k) = c then some (1, hm_up M a (scC p (v.1, nI (sp f n k + 1), v.2.2))) else some (0, hm_up M a (scC p (v.1, nI (sp f n k), nI (sp f n k), v.2.2.2))) := by
  rw [e_Scan_takeSign, r_let, r_let]
  refine (r_is h.1.1).trans ?_
  have e := s_takeIfNext hc0 hN h
  by_cases hc : sgn f n (sp f n k) = c
  · rw [if_pos hc] at e ⊢
    refine (r_call e).trans ?_
    rw [r_if_f (by decide)]; exact rZ1
  · rw [if_neg hc] at e ⊢
    refine (r_call e).trans ?_
    rw [r_if_t rfl]
    refine (r_getI up_s rfl).trans ?_
    refine (r_is up_s).trans ?_
    refine (r_call (s_refuse up_s)).trans ?_
    rw [r_if_t rfl, up_up]; exact rZ0
theorem s_word_loop (hn2 : n ≤ 2000) (h8 : fit8 f) : ∀ (m fu k : Nat) (M : hM) (v : sV), m + k = n → m < fu → sAt M a p v f → v.1 = nI n → v.2.1 = nI k → (f_Scan_takeWord_31 N a fu).1 M = some (1, hm_up M a (scC p (v.1, nI (wen f m k), v.2.2.1, v.2.2.2.1, nI (wen f m k), v.2.2.2.2.2))) := by
  intro m
  induction m with
  | zero =>
    intro fu k M v hk hfu h hn hp
    obtain ⟨fu, rfl⟩ : ∃ q, fu = q + 1 := ⟨fu - 1, by omega⟩
    rw [e_Scan_takeWord_31, r_let, r_let]
    refine (r_getI h.1 rfl).trans ?_
    refine (r_getI h.1 rfl).trans ?_
    rw [r_if_t (by rw [hn, hp]; exact nI_le (by omega) (by omega))]
    refine (r_getI h.1 rfl).trans ?_
    refine (r_put h.1 (Nat.le_of_ble_eq_true rfl)).trans ?_
    rw [wen, ← hp]
    exact rZ1
  | succ m ih =>
    intro fu k M v hk hfu h hn hp
    obtain ⟨fu, rfl⟩ : ∃ q, fu = q + 1 := ⟨fu - 1, by omega⟩
    rw [e_Scan_takeWord_31, r_let, r_let]
    have hin : ¬ (v.2.1 < 0 ∨ 2000 ≤ v.2.1.toNatClampNeg) := by rw [hp]; exact nI_in (N := 2000) (by omega) (by omega)
    have hcl : v.2.1.toNatClampNeg = k := by rw [hp]; exact nI_clamp (by omega)
    refine (r_getI h.1 rfl).trans ?_
    refine (r_getI h.1 rfl).trans ?_
    rw [r_if_f (by rw [hn, hp]; exact nI_ge (by omega) (by omega))]
    have go : (cL (f k) ∨ cD (f k) ∨ cB (f k)) → (b_getI a 8 2 fun v1 => b_put a 8 2 (.int (v1 + 1)) (f_Scan_takeWord_31 N a fu)).1 M = some (1, hm_up M a (scC p (v.1, nI (wen f (m + 1) k), v.2.2.1, v.2.2.2.1, nI (wen f (m + 1) k), v.2.2.2.2.2))) := by
      intro hw
      refine (r_getI h.1 rfl).trans ?_
      refine (r_put h.1 (Nat.le_of_ble_eq_true rfl)).trans ?_
      refine (ih fu (k + 1) _ (v.1, v.2.1 + 1, v.2.2) (by omega) (by omega) (h.up _) hn (by rw [hp]; exact nI_1 k)).trans ?_
      rw [up_up, wen, if_pos hw]
    refine (r_getR (r := some p) h.1 rfl).trans ?_
    refine (r_getI h.1 rfl).trans ?_
    rw [r_nn]
    refine (r_ald h.2.1 hin).trans ?_
    rw [hcl]
    refine (r_call s_isLetter).trans ?_
    by_cases h1 : cL (f k)
    · rw [bI_t h1, r_if_f (by decide)]
      exact go (Or.inl h1)
    rw [bI_f h1, r_if_t rfl]
    refine (r_getR (r := some p) h.1 rfl).trans ?_
    refine (r_getI h.1 rfl).trans ?_
    rw [r_nn]
    refine (r_ald h.2.1 hin).trans ?_
    rw [hcl]
    refine (r_call s_isDigit).trans ?_
    by_cases h2 : cD (f k)
    · rw [bI_t h2, r_if_f (by decide)]
      exact go (Or.inr (Or.inl h2))
    rw [bI_f h2, r_if_t rfl]
    refine (r_getR (r := some p) h.1 rfl).trans ?_
    refine (r_getI h.1 rfl).trans ?_
    rw [r_nn]
    refine (r_ald h.2.1 hin).trans ?_
    rw [hcl]
    refine (r_call s_isBar).trans ?_
    by_cases h3 : cB (f k)
    · rw [bI_t h3, r_if_f (by decide)]
      exact go (Or.inr (Or.inr h3))
    rw [bI_f h3, r_if_t rfl]
    refine (r_getI h.1 rfl).trans ?_
    refine (r_put h.1 (Nat.le_of_ble_eq_true rfl)).trans ?_
    rw [wen, if_neg (fun z => z.elim h1 (fun z => z.elim h2 h3)), ← hp]
    exact rZ1
/-- a word is taken, or refused where it should begin -/
theorem s_takeWord (hN : 2001 ≤ N) (h : sOk M a p v f n k) : (f_Scan_takeWord N a).1 M = if cL (sgn f n (sp f n k)) then some (1, hm_up M a (scC p (v.1, nI (we f n (sp f n k)), v.2.2.1, nI (sp f n k), nI (we f n (sp f n k)), v.2.2.2.2.2))) else some (0, hm_up M a (scC p (v.1, nI (sp f n k), nI (sp f n k), v.2.2.2))) := by
  rw [e_Scan_takeWord]
  refine (r_is h.1.1).trans ?_
  refine (r_call (s_sp hN h)).trans ?_
  have h1 := h.up (w := (v.1, nI (sp f n k), v.2.2)) h.2.2.1 rfl (sp_le h.2.2.2.2.2)
  refine (r_is h1.1.1).trans ?_
  refine (r_call (s_sg h1)).trans ?_
  refine (r_call s_isLetter).trans ?_
  by_cases hc : cL (sgn f n (sp f n k))
  · rw [bI_t hc, r_if_f (by decide), if_pos hc]
    refine (r_getI up_s rfl).trans ?_
    refine (r_put up_s (Nat.le_of_ble_eq_true rfl)).trans ?_
    rw [up_up]
    have h2 : sAt (hm_up M a (scC p (v.1, nI (sp f n k), v.2.2.1, nI (sp f n k), v.2.2.2.2))) a p (v.1, nI (sp f n k), v.2.2.1, nI (sp f n k), v.2.2.2.2) f := h.1.up _
    have h3 := sp_le (f := f) h.2.2.2.2.2
    have h4 : n ≤ 2000 := h.2.2.2.2.1
    refine (s_word_loop h.2.2.2.2.1 h.2.1 (n - sp f n k) N (sp f n k) _ _ (by omega) (by omega) h2 h.2.2.1 rfl).trans ?_
    rw [up_up]
    rfl
  · rw [bI_f hc, r_if_t rfl, if_neg hc]
    refine (r_getI up_s rfl).trans ?_
    refine (r_is up_s).trans ?_
    refine (r_call (s_refuse up_s)).trans ?_
    rw [up_up]; exact rZ0
end
