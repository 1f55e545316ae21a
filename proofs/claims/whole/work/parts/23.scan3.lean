/-! LAYER 2: the class's Scan: names, words of the text, numbers -/
section
variable {N : Nat} {M : hM} {a p : Nat} {v : sV} {f : Nat → Int32} {n k : Nat}
/-- what a word that was taken leaves -/
def wSt (v : sV) (f : Nat → Int32) (n s : Nat) : sV := (v.1, nI (we f n s), v.2.2.1, nI s, nI (we f n s), v.2.2.2.2.2)
/-- a word may be a name -/
abbrev nmOk (f : Nat → Int32) (n s : Nat) : Prop := we f n s - s ≤ 20 ∧ ¬ cB (f (we f n s - 1))
theorem s_takeName (hN : 2001 ≤ N) (h : sOk M a p v f n k) : (f_Scan_takeName N a).1 M =
    if cL (sgn f n (sp f n k)) then (if nmOk f n (sp f n k) then some (1, hm_up M a (scC p (wSt v f n (sp f n k)))) else some (0, hm_up M a (scC p (v.1, nI (we f n (sp f n k)), nI (sp f n k), nI (sp f n k), nI (we f n (sp f n k)), v.2.2.2.2.2))))
    else some (0, hm_up M a (scC p (v.1, nI (sp f n k), nI (sp f n k), v.2.2.2))) := by
  rw [e_Scan_takeName, r_let]
  refine (r_is h.1.1).trans ?_
  have e := s_takeWord hN h
  by_cases hc : cL (sgn f n (sp f n k))
  case neg =>
    rw [if_neg hc] at e ⊢
    refine (r_call e).trans ?_
    rw [r_if_t rfl]; exact rZ0
  rw [if_pos hc] at e ⊢
  refine (r_call e).trans ?_
  rw [r_if_f (by decide)]
  have hsn : sp f n k < n := by
    unfold sgn at hc
    by_cases q : sp f n k < n
    · exact q
    · rw [if_neg q] at hc; exact absurd hc (by decide)
  have hL : cL (f (sp f n k)) := by unfold sgn at hc; rw [if_pos hsn] at hc; exact hc
  have h2 : n ≤ 2000 := h.2.2.2.2.1
  have hgt := we_gt hsn hL
  have hle := we_le (f := f) (Nat.le_of_lt hsn)
  refine (r_getI up_s rfl).trans ?_
  refine (r_getI up_s rfl).trans ?_
  have hsub : nI (we f n (sp f n k)) - nI (sp f n k) = nI (we f n (sp f n k) - sp f n k) := pk_sub (by omega)
  have ref : (b_getI a 8 4 fun v1 => b_is a 8 (b_call (f_Scan_refuse N a v1) fun v2 => b_retN .boolean v2)).1 (hm_up M a (scC p (v.1, nI (we f n (sp f n k)), v.2.2.1, nI (sp f n k), nI (we f n (sp f n k)), v.2.2.2.2.2))) = some (0, hm_up M a (scC p (v.1, nI (we f n (sp f n k)), nI (sp f n k), nI (sp f n k), nI (we f n (sp f n k)), v.2.2.2.2.2))) := by
    refine (r_getI up_s rfl).trans ?_
    refine (r_is up_s).trans ?_
    refine (r_call (s_refuse up_s)).trans ?_
    rw [up_up]; exact rZ0
  by_cases h20 : we f n (sp f n k) - sp f n k ≤ 20
  case neg =>
    rw [r_if_t (by show 20 < nI (we f n (sp f n k)) - nI (sp f n k); rw [hsub]; exact nI_lt (a := 20) (by omega) (by omega)), if_neg (fun z => h20 z.1)]
    exact ref
  rw [r_if_f (by show ¬ 20 < nI (we f n (sp f n k)) - nI (sp f n k); rw [hsub]; exact nI_nlt (a := 20) (by omega) (by omega))]
  refine (r_getR (r := some p) up_s rfl).trans ?_
  refine (r_getI up_s rfl).trans ?_
  rw [r_nn]
  have hm1 : nI (we f n (sp f n k)) - 1 = nI (we f n (sp f n k) - 1) := by
    obtain ⟨q, hq⟩ : ∃ q, we f n (sp f n k) = q + 1 := ⟨we f n (sp f n k) - 1, by omega⟩
    rw [hq]; exact nI_pred q
  refine (r_ald (i := nI (we f n (sp f n k)) - 1) (h.1.up _).2.1 (by rw [hm1]; exact nI_in (N := 2000) (by omega) (by omega))).trans ?_
  rw [hm1, nI_clamp (by omega)]
  refine (r_call s_isBar).trans ?_
  by_cases hb : cB (f (we f n (sp f n k) - 1))
  · rw [bI_t hb, r_if_f (by decide), if_neg (fun z => z.2 hb)]
    exact ref
  · rw [bI_f hb, r_if_t rfl, if_pos ⟨h20, hb⟩]
    exact rZ1
/-- the signs from s up to e are the text t -/
def isTx (f : Nat → Int32) (s e t : Nat) : Prop := e - s = (sB.getD t []).length ∧ ∀ i, i < (sB.getD t []).length → f (s + i) = (sB.getD t []).getD i 0
theorem sB_255 : ∀ t i : Nat, ((sB.getD t []).getD i 0) &&& 255 = (sB.getD t []).getD i 0 := by
  intro t i
  by_cases ht : t < 27
  · by_cases hi : i < 16
    · exact (by decide +kernel : ∀ (t : Fin 27) (i : Fin 16), ((sB.getD t.val []).getD i.val 0) &&& 255 = (sB.getD t.val []).getD i.val 0) ⟨t, ht⟩ ⟨i, hi⟩
    · have hl := (by decide +kernel : ∀ (t : Fin 27), (sB.getD t.val []).length ≤ 16) ⟨t, ht⟩
      have e : (sB.getD t [])[i]? = none := List.getElem?_eq_none (Nat.le_trans hl (Nat.not_lt.mp hi))
      rw [List.getD_eq_getElem?_getD, e]
      decide
  · have e : sB[t]? = none := List.getElem?_eq_none (by have q : sB.length = 27 := rfl; omega)
    rw [List.getD_eq_getElem?_getD (l := sB), e]
    have e0 : ((none : Option (List Int32)).getD []).getD i 0 = 0 := by cases i <;> rfl
    rw [e0]
    decide
theorem s_isWord_loop {t s e : Nat} (ht : t < sB.length) (h : sAt M a p v f) (h4 : v.2.2.2.1 = nI s) (hl : s + (sB.getD t []).length ≤ 2000) : ∀ (m fu i : Nat), m + i = (sB.getD t []).length → m < fu → (f_Scan_isWord_20 N a (some t) fu (nI i)).1 M = some (@bI (∀ j, i ≤ j → j < (sB.getD t []).length → f (s + j) = (sB.getD t []).getD j 0) (Classical.propDecidable _), M) := by
  intro m
  have hL := sB_len t
  induction m with
  | zero =>
    intro fu i hi hfu
    obtain ⟨fu, rfl⟩ : ∃ q, fu = q + 1 := ⟨fu - 1, by omega⟩
    rw [e_Scan_isWord_20, r_nn]
    unfold b_slen
    rw [r_if_t ht, r_if_t (nI_le (by omega) (by omega)), @bI_t _ (Classical.propDecidable _) (fun j h1 h2 => by omega)]
    exact rZ1
  | succ m ih =>
    intro fu i hi hfu
    obtain ⟨fu, rfl⟩ : ∃ q, fu = q + 1 := ⟨fu - 1, by omega⟩
    rw [e_Scan_isWord_20, r_nn]
    unfold b_slen
    rw [r_if_t ht, r_if_f (nI_ge (by omega) (by omega))]
    refine (r_getR (r := some p) h.1 rfl).trans ?_
    refine (r_getI h.1 rfl).trans ?_
    rw [r_nn, h4, nI_add]
    refine (r_ald (i := nI (s + i)) h.2.1 (nI_in (N := 2000) (by omega) (by omega))).trans ?_
    rw [nI_clamp (by omega)]
    unfold b_schr
    rw [r_if_f (by
      rintro (z | z | z)
      · omega
      · exact nI_pos (by omega) z
      · rw [nI_clamp (by omega)] at z; omega), nI_clamp (by omega), sB_255]
    by_cases hc : f (s + i) = (sB.getD t []).getD i 0
    · rw [r_if_t hc, nI_1]
      refine (ih fu (i + 1) (by omega) (by omega)).trans ?_
      by_cases ha : ∀ j, i + 1 ≤ j → j < (sB.getD t []).length → f (s + j) = (sB.getD t []).getD j 0
      · rw [@bI_t _ (Classical.propDecidable _) ha, @bI_t _ (Classical.propDecidable _) (fun j h1 h2 => by
          rcases Nat.lt_or_ge i j with q | q
          · exact ha j q h2
          · rw [show j = i by omega]; exact hc)]
      · rw [@bI_f _ (Classical.propDecidable _) ha, @bI_f _ (Classical.propDecidable _) (fun z => ha (fun j h1 h2 => z j (by omega) h2))]
    · rw [r_if_f hc, @bI_f _ (Classical.propDecidable _) (fun z => hc (z i (Nat.le_refl i) (by omega)))]
      exact rZ0
/-- is the word that was taken the text t -/
theorem s_isWord {t s e : Nat} (hN : 2001 ≤ N) (ht : t < sB.length) (h : sAt M a p v f) (h4 : v.2.2.2.1 = nI s) (h5 : v.2.2.2.2.1 = nI e) (hse : s ≤ e) (he : e ≤ 2000) : (f_Scan_isWord N a (some t)).1 M = some (@bI (isTx f s e t) (Classical.propDecidable _), M) := by
  have hL := sB_len t
  rw [e_Scan_isWord]
  refine (r_getI h.1 rfl).trans ?_
  refine (r_getI h.1 rfl).trans ?_
  rw [r_nn]
  unfold b_slen
  rw [r_if_t ht, h4, h5, pk_sub hse]
  by_cases hc : e - s = (sB.getD t []).length
  · rw [r_if_t (by rw [hc])]
    refine (s_isWord_loop (e := e) ht h h4 (by omega) (sB.getD t []).length N 0 (by omega) (by omega)).trans ?_
    by_cases ha : ∀ j, 0 ≤ j → j < (sB.getD t []).length → f (s + j) = (sB.getD t []).getD j 0
    · rw [@bI_t _ (Classical.propDecidable _) ha, @bI_t _ (Classical.propDecidable _) ⟨hc, fun i hi => ha i (Nat.zero_le _) hi⟩]
    · rw [@bI_f _ (Classical.propDecidable _) ha, @bI_f _ (Classical.propDecidable _) (fun z => ha (fun j _ hj => z.2 j hj))]
  · rw [r_if_f (fun z => hc ((nI_eq (by omega) hL).mp z)), @bI_f _ (Classical.propDecidable _) (fun z => hc z.1)]
    exact rZ0
end
