/-! LAYER 2: the class's Scan: numbers -/
theorem r_letJ {α σ : Type} {M : hM} {J : σ} {body : σ → hX α} {X : Option (α × hM)} (h : ∀ j, j = J → (body j).1 M = X) : (b_let J body).1 M = X := h J rfl
/-- a digit's worth -/
def dv (c : Int32) : Nat := c.toNatClampNeg - 48
/-- the worth of the j digits from k on -/
def nv (f : Nat → Int32) (k : Nat) : Nat → Nat
  | 0 => 0
  | j + 1 => nv f k j * 10 + dv (f (k + j))
theorem den_le {f : Nat → Int32} : ∀ (m k : Nat), den f m k ≤ k + m
  | 0, k => Nat.le_refl _
  | m + 1, k => by
    rw [den]
    split
    · have := den_le (f := f) m (k + 1); omega
    · omega
theorem den_ge {f : Nat → Int32} : ∀ (m k : Nat), k ≤ den f m k
  | 0, k => Nat.le_refl _
  | m + 1, k => by
    rw [den]
    split
    · have := den_ge (f := f) m (k + 1); omega
    · omega
theorem dv_of {f : Nat → Int32} (h8 : fit8 f) {k : Nat} (h : cD (f k)) : f k = nI (48 + dv (f k)) ∧ dv (f k) ≤ 9 := by
  obtain ⟨q, hq, e⟩ := h8 k
  rw [e] at h ⊢
  have h1 : 48 ≤ q := (nI_leI (a := 48) (by omega) (by omega)).mp h.1
  have h2 : q ≤ 57 := (nI_leI (b := 57) (by omega) (by omega)).mp h.2
  unfold dv
  rw [nI_clamp (by omega)]
  exact ⟨by rw [show 48 + (q - 48) = q by omega], by omega⟩
theorem nv_lt {f : Nat → Int32} {k : Nat} : ∀ j, (∀ i, i < j → dv (f (k + i)) ≤ 9) → nv f k j < 10 ^ j
  | 0, _ => by show (0 : Nat) < 10 ^ 0; decide
  | j + 1, h => by
    have h1 := nv_lt j (fun i hi => h i (by omega))
    have h2 := h j (by omega)
    rw [nv, Nat.pow_succ]
    omega
/-- a NUMBER of L signs that begins at k -/
abbrev nuOk (f : Nat → Int32) (k L : Nat) : Prop := 1 ≤ L ∧ L ≤ 6 ∧ ¬ (1 < L ∧ f k = 48)
section
variable {N : Nat} {M : hM} {a p : Nat} {v : sV} {f : Nat → Int32} {n k : Nat}
theorem s_num_exit {e : Nat} {J : Int32 → hX Int32} (eJ : J = fun (x1 : Int32) => b_let (fun (x1 : Int32) (x2 : Int32) (y0 : Int32) => b_let (fun (x1 : Int32) => b_put a 8 3 (.int x1) (b_retN .boolean 0)) (fun J144 => (if x2 < 1 then J144 x1 else (if 6 < x2 then J144 x1 else (if y0 = 0 then b_retN .boolean 1 else J144 x1))))) (fun J128 => b_let (fun (x1 : Int32) (x2 : Int32) => J128 x1 x2 0) (fun J127 => b_getI a 8 2 (fun v2 => (if (v2 - x1) ≤ 1 then J127 x1 (v2 - x1) else b_getR a 8 0 (fun r3 => b_nn r3 (fun a4 => b_ald a4 0 x1 (fun v5 => (if v5 = 48 then J128 x1 (v2 - x1) 1 else J127 x1 (v2 - x1)))))))))) (h : sAt M a p v f) (hp : v.2.1 = nI e) (hke : k ≤ e) (he : e ≤ 2000) :
    (J (nI k)).1 M = if nuOk f k (e - k) then some (1, M) else some (0, hm_up M a (scC p (v.1, v.2.1, nI k, v.2.2.2))) := by
  rw [eJ, r_let, r_let]
  refine (r_getI h.1 rfl).trans ?_
  have hsub : v.2.1 - nI k = nI (e - k) := by rw [hp]; exact pk_sub hke
  have ref : (b_put a 8 3 (.int (nI k)) (b_retN .boolean 0)).1 M = some (0, hm_up M a (scC p (v.1, v.2.1, nI k, v.2.2.2))) := (r_put h.1 (Nat.le_of_ble_eq_true rfl)).trans rZ0
  rw [hsub]
  dsimp only
  by_cases h1 : e - k ≤ 1
  · rw [r_if_t (show nI (e - k) ≤ 1 from nI_le (b := 1) h1 (by omega)), r_let]
    by_cases h0 : e - k < 1
    · rw [r_if_t (show nI (e - k) < 1 from nI_lt (b := 1) h0 (by omega)), if_neg (c := nuOk f k (e - k)) (fun z => by have := z.1; omega)]
      exact ref
    · rw [r_if_f (show ¬ nI (e - k) < 1 from nI_nlt (b := 1) (by omega) (by omega)), r_if_f (show ¬ 6 < nI (e - k) from nI_nlt (a := 6) (by omega) (by omega)), r_if_t rfl, if_pos (c := nuOk f k (e - k)) ⟨by omega, by omega, fun z => by omega⟩]
      exact rZ1
  rw [r_if_f (show ¬ nI (e - k) ≤ 1 from nI_ge (a := 1) (by omega) (by omega))]
  refine (r_getR (r := some p) h.1 rfl).trans ?_
  rw [r_nn]
  refine (r_ald (i := nI k) h.2.1 (nI_in (N := 2000) (by omega) (by omega))).trans ?_
  rw [nI_clamp (by omega)]
  by_cases h48 : f k = 48
  · rw [r_if_t h48, r_let, r_if_f (show ¬ nI (e - k) < 1 from nI_nlt (b := 1) (by omega) (by omega)), if_neg (c := nuOk f k (e - k)) (fun z => z.2.2 ⟨by omega, h48⟩)]
    by_cases h6 : 6 < e - k
    · rw [r_if_t (show 6 < nI (e - k) from nI_lt (a := 6) h6 (by omega))]; exact ref
    · rw [r_if_f (show ¬ 6 < nI (e - k) from nI_nlt (a := 6) (by omega) (by omega)), r_if_f (by decide)]; exact ref
  · rw [r_if_f h48, r_let, r_if_f (show ¬ nI (e - k) < 1 from nI_nlt (b := 1) (by omega) (by omega))]
    by_cases h6 : 6 < e - k
    · rw [r_if_t (show 6 < nI (e - k) from nI_lt (a := 6) h6 (by omega)), if_neg (c := nuOk f k (e - k)) (fun z => by have := z.2.1; omega)]; exact ref
    · rw [r_if_f (show ¬ 6 < nI (e - k) from nI_nlt (a := 6) (by omega) (by omega)), r_if_t rfl, if_pos (c := nuOk f k (e - k)) ⟨by omega, by omega, fun z => h48 z.2⟩]; exact rZ1
theorem lN_dig {x d : Nat} (hd : d < 2 ^ 20) : lN x * 10 + (nI (48 + d)).toInt64 - 48 = lN (x * 10 + d) := by
  rw [nI_l (by omega)]
  show lN x * lN 10 + lN (48 + d) - lN 48 = _
  rw [lN_mul, lN_add, lN_sub (by omega), show x * 10 + (48 + d) - 48 = x * 10 + d by omega]
theorem s_num_loop (hn2 : n ≤ 2000) (h8 : fit8 f) (hkn : k ≤ n) : ∀ (m fu j : Nat) (M : hM) (v : sV), m + (k + j) = n → m < fu → sAt M a p v f → v.1 = nI n → v.2.1 = nI (k + j) → v.2.2.2.2.2.1 = lN (nv f k (min j 6)) →
    (f_Scan_takeNumber_10 N a fu (nI k)).1 M = if nuOk f k (den f m (k + j) - k) then some (1, hm_up M a (scC p (v.1, nI (den f m (k + j)), v.2.2.1, v.2.2.2.1, v.2.2.2.2.1, lN (nv f k (min (den f m (k + j) - k) 6)), v.2.2.2.2.2.2)))
      else some (0, hm_up M a (scC p (v.1, nI (den f m (k + j)), nI k, v.2.2.2.1, v.2.2.2.2.1, lN (nv f k (min (den f m (k + j) - k) 6)), v.2.2.2.2.2.2))) := by
  intro m
  induction m with
  | zero =>
    intro fu j M v hk hfu h hn hp hv
    obtain ⟨fu, rfl⟩ : ∃ q, fu = q + 1 := ⟨fu - 1, by omega⟩
    rw [e_Scan_takeNumber_10]
    refine r_letJ (fun J87 eJ87 => ?_)
    refine r_letJ (fun J100 eJ100 => ?_)
    have fin := s_num_exit (k := k) (e := k + j) eJ100 h hp (by omega) (by omega)
    refine (r_getI h.1 rfl).trans ?_
    refine (r_getI h.1 rfl).trans ?_
    rw [r_if_t (by rw [hn, hp]; exact nI_le (by omega) (by omega)), den, fin, show k + j - k = j by omega, ← hv, ← hp]
    rw [show (v.1, v.2.1, v.2.2.1, v.2.2.2.1, v.2.2.2.2.1, v.2.2.2.2.2.1, v.2.2.2.2.2.2) = v from rfl, up_self h.1]
  | succ m ih =>
    intro fu j M v hk hfu h hn hp hv
    obtain ⟨fu, rfl⟩ : ∃ q, fu = q + 1 := ⟨fu - 1, by omega⟩
    have hin : ¬ (v.2.1 < 0 ∨ 2000 ≤ v.2.1.toNatClampNeg) := by rw [hp]; exact nI_in (N := 2000) (by omega) (by omega)
    have hcl : v.2.1.toNatClampNeg = k + j := by rw [hp]; exact nI_clamp (by omega)
    rw [e_Scan_takeNumber_10]
    refine r_letJ (fun J87 eJ87 => ?_)
    refine r_letJ (fun J100 eJ100 => ?_)
    have fin := s_num_exit (k := k) (e := k + j) eJ100 h hp (by omega) (by omega)
    have out : ¬ cD (f (k + j)) → (J100 (nI k)).1 M = if nuOk f k (den f (m + 1) (k + j) - k) then some (1, hm_up M a (scC p (v.1, nI (den f (m + 1) (k + j)), v.2.2.1, v.2.2.2.1, v.2.2.2.2.1, lN (nv f k (min (den f (m + 1) (k + j) - k) 6)), v.2.2.2.2.2.2))) else some (0, hm_up M a (scC p (v.1, nI (den f (m + 1) (k + j)), nI k, v.2.2.2.1, v.2.2.2.2.1, lN (nv f k (min (den f (m + 1) (k + j) - k) 6)), v.2.2.2.2.2.2))) := by
      intro hd
      rw [den, if_neg hd, fin, show k + j - k = j by omega, ← hv, ← hp]
      rw [show (v.1, v.2.1, v.2.2.1, v.2.2.2.1, v.2.2.2.2.1, v.2.2.2.2.2.1, v.2.2.2.2.2.2) = v from rfl, up_self h.1]
    have go : ∀ w : Int64, cD (f (k + j)) → w = lN (nv f k (min (j + 1) 6)) → (J87 (nI k)).1 (hm_up M a (scC p (v.1, v.2.1, v.2.2.1, v.2.2.2.1, v.2.2.2.2.1, w, v.2.2.2.2.2.2))) = if nuOk f k (den f (m + 1) (k + j) - k) then some (1, hm_up M a (scC p (v.1, nI (den f (m + 1) (k + j)), v.2.2.1, v.2.2.2.1, v.2.2.2.2.1, lN (nv f k (min (den f (m + 1) (k + j) - k) 6)), v.2.2.2.2.2.2))) else some (0, hm_up M a (scC p (v.1, nI (den f (m + 1) (k + j)), nI k, v.2.2.2.1, v.2.2.2.2.1, lN (nv f k (min (den f (m + 1) (k + j) - k) 6)), v.2.2.2.2.2.2))) := by
      intro w hd hw
      rw [eJ87]
      refine (r_getI up_s rfl).trans ?_
      refine (r_put up_s (Nat.le_of_ble_eq_true rfl)).trans ?_
      rw [up_up]
      refine (ih fu (j + 1) _ (v.1, v.2.1 + 1, v.2.2.1, v.2.2.2.1, v.2.2.2.2.1, w, v.2.2.2.2.2.2) (by omega) (by omega) (h.up _) hn (by show v.2.1 + 1 = _; rw [hp]; exact nI_1 (k + j)) hw).trans ?_
      rw [den, if_pos hd, up_up, up_up]
      rfl
    refine (r_getI h.1 rfl).trans ?_
    refine (r_getI h.1 rfl).trans ?_
    rw [r_if_f (by rw [hn, hp]; exact nI_ge (by omega) (by omega))]
    refine (r_getR (r := some p) h.1 rfl).trans ?_
    refine (r_getI h.1 rfl).trans ?_
    rw [r_nn]
    refine (r_ald h.2.1 hin).trans ?_
    rw [hcl]
    by_cases h1 : f (k + j) < 48
    · rw [r_if_t h1]; exact out (fun z => absurd z.1 (i_nle.mpr h1))
    rw [r_if_f h1]
    refine (r_getR (r := some p) h.1 rfl).trans ?_
    refine (r_getI h.1 rfl).trans ?_
    rw [r_nn]
    refine (r_ald h.2.1 hin).trans ?_
    rw [hcl]
    by_cases h2 : 57 < f (k + j)
    · rw [r_if_t h2]; exact out (fun z => absurd z.2 (i_nle.mpr h2))
    rw [r_if_f h2]
    have hd : cD (f (k + j)) := ⟨i_nlt.mp h1, i_nlt.mp h2⟩
    refine (r_getI h.1 rfl).trans ?_
    have hsub : v.2.1 - nI k = nI j := by rw [hp, pk_sub (by omega), show k + j - k = j by omega]
    by_cases h6 : 6 ≤ j
    · rw [r_if_t (by show 6 ≤ v.2.1 - nI k; rw [hsub]; exact nI_le (a := 6) h6 (by omega))]
      have g := go v.2.2.2.2.2.1 hd (by rw [hv, Nat.min_eq_right h6, Nat.min_eq_right (by omega)])
      rw [show (v.1, v.2.1, v.2.2.1, v.2.2.2.1, v.2.2.2.2.1, v.2.2.2.2.2.1, v.2.2.2.2.2.2) = v from rfl, up_self h.1] at g
      exact g
    rw [r_if_f (by show ¬ 6 ≤ v.2.1 - nI k; rw [hsub]; exact nI_ge (b := 6) (by omega) (by omega))]
    refine (r_getL h.1 rfl).trans ?_
    refine (r_getR (r := some p) h.1 rfl).trans ?_
    refine (r_getI h.1 rfl).trans ?_
    rw [r_nn]
    refine (r_ald h.2.1 hin).trans ?_
    refine (r_put h.1 (Nat.le_of_ble_eq_true rfl)).trans ?_
    refine go (v.2.2.2.2.2.1 * 10 + (f v.2.1.toNatClampNeg).toInt64 - 48) hd ?_
    obtain ⟨e1, e2⟩ := dv_of h8 hd
    rw [hcl, hv, Nat.min_eq_left (by omega), Nat.min_eq_left (by omega), nv]
    refine (congrArg (fun q : Int32 => lN (nv f k j) * 10 + q.toInt64 - 48) e1).trans ?_
    exact lN_dig (by omega)
/-- a NUMBER right here -/
theorem s_takeNumber (hN : 2001 ≤ N) (h : sOk M a p v f n k) : (f_Scan_takeNumber N a).1 M = if nuOk f k (den f (n - k) k - k) then some (1, hm_up M a (scC p (v.1, nI (den f (n - k) k), v.2.2.1, v.2.2.2.1, v.2.2.2.2.1, lN (nv f k (min (den f (n - k) k - k) 6)), v.2.2.2.2.2.2)))
      else some (0, hm_up M a (scC p (v.1, nI (den f (n - k) k), nI k, v.2.2.2.1, v.2.2.2.2.1, lN (nv f k (min (den f (n - k) k - k) 6)), v.2.2.2.2.2.2))) := by
  rw [e_Scan_takeNumber]
  refine (r_getI h.1.1 rfl).trans ?_
  refine (r_put h.1.1 (Nat.le_of_ble_eq_true rfl)).trans ?_
  have h2 := h.2.2.2.2.1
  have h3 := h.2.2.2.2.2
  have e := s_num_loop (N := N) h2 h.2.1 h3 (n - k) N 0 _ (v.1, v.2.1, v.2.2.1, v.2.2.2.1, v.2.2.2.2.1, 0, v.2.2.2.2.2.2) (by omega) (by omega) (h.1.up _) h.2.2.1 h.2.2.2.1 rfl
  rw [up_up, up_up] at e
  refine (congrArg (fun q => (f_Scan_takeNumber_10 N a N q).1 _) h.2.2.2.1).trans ?_
  exact e
end
