/-! LAYER 2: how long what is printed may be: sorted and joined -/
def gcH (a : aR) : Nat := if a.1 = 8 then 3 else if a.1 = 9 then 2 else 2 + (cBg a).length
def gcR (a : aR) : Nat := gcH a + a.2.2.1.length + (if a.1 < 7 ∨ a.1 = 8 then RC (lnN a.2.2.2.2.1) (lnN a.2.2.2.2.2.1) + 2 else (rsS a).length)
def gsum (l : List aR) : Nat := (l.map gcR).sum
def sG : Nat → Nat → (Nat → aR) → Nat
  | 0, _, _ => 0
  | d + 1, k, G => gcR (G k) + sG d (k + 1) G
section GSUM
theorem RC_clo {lo hi : Nat} (h : (lo < hi ∧ hi ≤ 10 ^ 18) ∨ (lo = 0 ∧ hi = 0)) : RC (clo lo hi).1 (clo lo hi).2 = RC lo hi := by
  rcases h with h | h
  · rw [clo_t h.1]
  · rw [h.1, h.2, clo_f (by decide)]
theorem gcR_jn {a b : aR} (wa : wfA a) (wb : wfA b) (hj : joR a b) : gcR (jnR a b) ≤ gcR a + gcR b := by
  have p : (10 : Nat) ^ 18 = 1000000000000000000 := by decide
  obtain ⟨kk, _⟩ := ordR_kind wa.1 wb.1 hj.2
  have hH : gcH (jnR a b) = gcH a := rfl
  have hN : (jnR a b).2.2.1 = a.2.2.1 := rfl
  have hK : (jnR a b).1 = a.1 := rfl
  unfold gcR
  rw [hH, hN, hK]
  by_cases c7 : a.1 < 7
  · rw [if_pos (Or.inl c7), if_pos (Or.inl c7), if_pos (show b.1 < 7 ∨ b.1 = 8 by omega)]
    obtain ⟨lo1, hi1, x1, x2, x3⟩ := wa.2.2.2.2.2.2.2.1 (Or.inl c7)
    obtain ⟨lo2, hi2, y1, y2, y3⟩ := wb.2.2.2.2.2.2.2.1 (Or.inl (by omega))
    have jl : jlo a b = lN (max lo1 lo2) := by
      unfold jlo
      rw [x1, y1]
      by_cases c : lo1 ≤ lo2
      · rw [if_pos ((lN_leB (by omega) (by omega)).mpr c), Nat.max_eq_right c]
      · rw [if_neg (fun z => c ((lN_leB (by omega) (by omega)).mp z)), Nat.max_eq_left (by omega)]
    have jh : jhi a b = lN (min hi1 hi2) := by
      unfold jhi
      rw [x2, y2]
      by_cases c : hi2 ≤ hi1
      · rw [if_pos ((lN_leB (by omega) (by omega)).mpr c), Nat.min_eq_right c]
      · rw [if_neg (fun z => c ((lN_leB (by omega) (by omega)).mp z)), Nat.min_eq_left (by omega)]
    have e4 : (jnR a b).2.2.2.2.1 = lN (clo (max lo1 lo2) (min hi1 hi2)).1 := by
      show (if a.1 < 7 then (if jlo a b < jhi a b then jlo a b else 0) else _) = _
      rw [if_pos c7, jl, jh]
      by_cases c : max lo1 lo2 < min hi1 hi2
      · rw [if_pos ((pk_lLT (by omega) (by omega)).mpr c), clo_t c]
      · rw [if_neg (fun z => c ((pk_lLT (by omega) (by omega)).mp z)), clo_f c]; rfl
    have e5 : (jnR a b).2.2.2.2.2.1 = lN (clo (max lo1 lo2) (min hi1 hi2)).2 := by
      show (if a.1 < 7 then (if jlo a b < jhi a b then jhi a b else 0) else _) = _
      rw [if_pos c7, jl, jh]
      by_cases c : max lo1 lo2 < min hi1 hi2
      · rw [if_pos ((pk_lLT (by omega) (by omega)).mpr c), clo_t c]
      · rw [if_neg (fun z => c ((pk_lLT (by omega) (by omega)).mp z)), clo_f c]; rfl
    have b1 : (clo (max lo1 lo2) (min hi1 hi2)).1 < 2 ^ 63 ∧ (clo (max lo1 lo2) (min hi1 hi2)).2 < 2 ^ 63 := by
      unfold clo; split
      · dsimp only; omega
      · dsimp only; omega
    rw [e4, e5, x1, x2, y1, y2, lnN_l b1.1, lnN_l b1.2, lnN_l (by omega), lnN_l (by omega), lnN_l (by omega), lnN_l (by omega)]
    have := RC_i (lo1 := lo1) (hi1 := hi1) (lo2 := lo2) (hi2 := hi2) (by omega) (by omega)
    rw [RC_clo x3, RC_clo y3] at this
    omega
  · have k8 : ¬ (a.1 < 7 ∨ a.1 = 8) := by have := hj.1; omega
    have kr : 9 < a.1 ∧ a.1 < 14 := by have := hj.1; omega
    rw [if_neg k8, if_neg k8]
    have er : rsS (jnR a b) = [] := by
      unfold rsS
      rw [hK, if_neg k8, if_neg (by omega), if_neg (by omega), if_neg (by omega)]
    rw [er]
    have e0 : ([] : List Int32).length = 0 := rfl
    omega
theorem sG_ext {G G' : Nat → aR} : ∀ (d k : Nat), (∀ i, k ≤ i → i < k + d → G' i = G i) → sG d k G' = sG d k G
  | 0, _, _ => rfl
  | d + 1, k, h => by
    show gcR (G' k) + sG d (k + 1) G' = gcR (G k) + sG d (k + 1) G
    rw [h k (by omega) (by omega), sG_ext d (k + 1) (fun i h1 h2 => h i (by omega) (by omega))]
theorem sG_sw {G : Nat → aR} {i : Nat} : ∀ (d k : Nat), k ≤ i → i + 1 < k + d → sG d k (swG G i) = sG d k G
  | 0, k, h1, h2 => by omega
  | 1, k, h1, h2 => by omega
  | d + 2, k, h1, h2 => by
    by_cases e : k = i
    · show gcR (swG G i k) + (gcR (swG G i (k + 1)) + sG d (k + 1 + 1) (swG G i)) = gcR (G k) + (gcR (G (k + 1)) + sG d (k + 1 + 1) G)
      rw [sG_ext (G := G) d (k + 1 + 1) (fun j h3 h4 => by rw [swG_v, if_neg (by omega), if_neg (by omega)]), swG_v, swG_v, if_neg (by omega), if_pos e, if_pos (by omega), ← e]
      omega
    · show gcR (swG G i k) + sG (d + 1) (k + 1) (swG G i) = gcR (G k) + sG (d + 1) (k + 1) G
      rw [sG_sw (d + 1) (k + 1) (by omega) (by omega), swG_v, if_neg (by omega), if_neg e]
theorem sG_ins {w : Nat} : ∀ (t : Nat) (G : Nat → aR), t < w → sG w 0 (insG t G) = sG w 0 G
  | 0, G, _ => rfl
  | t + 1, G, h => by
    unfold insG
    split
    · rw [sG_ins t _ (by omega), sG_sw w 0 (by omega) (by omega)]
    · rfl
theorem sG_srt {w : Nat} : ∀ (d k : Nat) (G : Nat → aR), d + k ≤ w → sG w 0 (srtG d k G) = sG w 0 G
  | 0, k, G, _ => rfl
  | d + 1, k, G, h => by
    show sG w 0 (srtG d (k + 1) (insG k G)) = _
    rw [sG_srt d (k + 1) _ (by omega), sG_ins k G (by omega)]
theorem gsum_c {a : aR} {l : List aR} : gsum (a :: l) = gcR a + gsum l := by unfold gsum; rw [List.map_cons, List.sum_cons]
theorem jnS_g {w : Nat} {G : Nat → aR} (hG : ∀ i, i < w → wfA (G i)) : ∀ (d k : Nat) (o : List aR), d + k = w → (∀ x, x ∈ o → wfA x) → gsum (jnS d k o G) ≤ gsum o + sG d k G
  | 0, k, o, _, _ => Nat.le_refl _
  | d + 1, k, [], hd, h => by
    have := jnS_g hG d (k + 1) [G k] (by omega) (fun x hx => by rw [List.mem_singleton.mp hx]; exact hG k (by omega))
    show gsum (jnS d (k + 1) [G k] G) ≤ 0 + (gcR (G k) + sG d (k + 1) G)
    rw [gsum_c] at this
    have e0 : gsum [] = 0 := rfl
    omega
  | d + 1, k, a :: o, hd, h => by
    rw [show jnS (d + 1) k (a :: o) G = @ite _ (joR a (G k)) (Classical.propDecidable _) (jnS d (k + 1) (jnR a (G k) :: o) G) (jnS d (k + 1) (G k :: a :: o) G) from rfl]
    show _ ≤ gsum (a :: o) + (gcR (G k) + sG d (k + 1) G)
    have wa := h a List.mem_cons_self
    have wk := hG k (by omega)
    by_cases c : joR a (G k)
    · rw [if_pos c]
      have := jnS_g hG d (k + 1) (jnR a (G k) :: o) (by omega) (fun x hx => by
        rcases List.mem_cons.mp hx with e | e
        · rw [e]; exact wfA_jn wa wk c
        · exact h x (List.mem_cons_of_mem _ e))
      have h2 := gcR_jn wa wk c
      rw [gsum_c] at this ⊢
      omega
    · rw [if_neg c]
      have := jnS_g hG d (k + 1) (G k :: a :: o) (by omega) (fun x hx => by
        rcases List.mem_cons.mp hx with e | e
        · rw [e]; exact wk
        · exact h x e)
      rw [gsum_c] at this
      omega
theorem gsum_rev {l : List aR} : gsum l.reverse = gsum l := by
  unfold gsum
  rw [List.map_reverse, List.sum_reverse]
theorem sG_list {l : List (aR × Nat)} : ∀ (d k : Nat), d + k = l.length → sG d k (fun i => (l.getD i ((0, 0, [], [], 0, 0, false), 0)).1) = gsum ((l.drop k).map Prod.fst)
  | 0, k, h => by rw [List.drop_eq_nil_of_le (by omega)]; rfl
  | d + 1, k, h => by
    have hk : k < l.length := by omega
    rw [List.drop_eq_getElem_cons hk, List.map_cons, gsum_c, ← sG_list d (k + 1) (by omega)]
    show gcR (l.getD k ((0, 0, [], [], 0, 0, false), 0)).1 + _ = _
    rw [List.getD_eq_getElem?_getD, List.getElem?_eq_getElem hk]; rfl
theorem mkR_g {f : Nat → Int32} {n : Nat} {st : aP} (hX : XS f n st) : gsum (mkR st) ≤ gsum (st.1.map Prod.fst) := by
  unfold mkR
  rw [gsum_rev]
  by_cases c : st.1.length = 0
  · rw [c]; exact Nat.zero_le _
  · have h1 := jnS_g (w := st.1.length) (G := srtG (st.1.length - 1) 1 (gOf st)) (srtG_w (Q := wfA) (w := st.1.length) (st.1.length - 1) 1 (gOf st) (by omega) (gOf_wf hX)) st.1.length 0 [] (by omega) (fun x hx => by cases hx)
    rw [sG_srt _ _ _ (by omega)] at h1
    have h2 := sG_list (l := st.1) st.1.length 0 (by omega)
    rw [List.drop_zero] at h2
    have h3 : sG st.1.length 0 (gOf st) = gsum (st.1.map Prod.fst) := h2
    have e0 : gsum [] = 0 := rfl
    omega
end GSUM
