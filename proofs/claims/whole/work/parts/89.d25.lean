/-! LAYER 2: both print the same -/
def nwF : List (List Int32) → List (List Int32) → List (List Int32)
  | _, [] => []
  | acc, w :: t => if hasF w acc = true then nwF acc t else w :: nwF (acc ++ [w]) t
def bS (P : aPk) : List (List Int32) → List Int32
  | [] => []
  | w :: t => (if hasNm P w = true then [] else kwS 5 ++ ([32] ++ (w ++ ([58] ++ [59])))) ++ bS P t
section SAMEP
variable {P : aPk}
theorem cBg_e {r : aR} : [32] ++ cBg r = bgS r ++ [32] := by
  unfold cBg bgS kwS
  have hk : ktx (if r.1 < 5 then 0 else r.1 - 4) = if r.1 < 5 then 12 else r.1 - 4 := by
    by_cases c : r.1 < 5
    · rw [if_pos c, if_pos c]; rfl
    · rw [if_neg c, if_neg c]; unfold ktx; rw [if_neg (by omega)]
  rw [hk]
  generalize (if r.1 < 5 then 12 else r.1 - 4) = k
  by_cases c5 : r.1 < 5
  · rw [if_pos c5, if_pos c5]
    by_cases c9 : r.1 = 9
    · omega
    · rw [if_neg c9, if_neg c9]
      simp only [List.append_assoc, List.cons_append, List.nil_append, List.append_nil]
  · rw [if_neg c5, if_neg c5]
    by_cases c9 : r.1 = 9
    · rw [if_pos c9, if_pos c9]
      simp only [List.append_assoc, List.cons_append, List.nil_append, List.append_nil]
    · rw [if_neg c9, if_neg c9]
      simp only [List.append_assoc, List.cons_append, List.nil_append, List.append_nil]
theorem cHd_n {r : aR} : cHd none r = [59] ++ (hdS none r ++ [32]) := by
  show [59, 32] ++ cBg r = [59] ++ (bgS r ++ [32])
  rw [← cBg_e]; rfl
theorem cHd_s {q r : aR} : cHd (some q) r = hdS (some q) r ++ [32] := by
  show (if goS q r = true then (if r.1 = 8 then [32, 124, 32] else [44, 32]) else [59, 32] ++ cBg r) = (if goS q r = true then (if r.1 = 8 then [32] else []) ++ [if r.1 = 8 then 124 else 44] else [59] ++ bgS r) ++ [32]
  by_cases c : goS q r = true
  · rw [if_pos c, if_pos c]
    by_cases c8 : r.1 = 8
    · rw [if_pos c8, if_pos c8, if_pos c8]; rfl
    · rw [if_neg c8, if_neg c8, if_neg c8]; rfl
  · rw [if_neg c, if_neg c, List.append_assoc, ← cBg_e]; rfl
theorem cRows_s : ∀ (l : List aR) (q : aR), cRows (some q) l = rowsS (some q) l
  | [], q => rfl
  | r :: t, q => by
    show cHd (some q) r ++ (r.2.2.1 ++ (rsS r ++ cRows (some r) t)) = (hdS (some q) r ++ ([32] ++ (r.2.2.1 ++ rsS r))) ++ rowsS (some r) t
    rw [cHd_s, cRows_s t r]
    simp only [List.append_assoc]
theorem cRows_n {r : aR} {t : List aR} : cRows none (r :: t) = [59] ++ rowsS none (r :: t) := by
  show cHd none r ++ (r.2.2.1 ++ (rsS r ++ cRows (some r) t)) = [59] ++ ((hdS none r ++ ([32] ++ (r.2.2.1 ++ rsS r))) ++ rowsS (some r) t)
  rw [cHd_n, cRows_s t r]
  simp only [List.append_assoc]
theorem bS_e : ∀ (l : List (List Int32)), [59] ++ bS P l = cBr P l ++ [59]
  | [] => rfl
  | w :: t => by
    show [59] ++ ((if hasNm P w = true then [] else kwS 5 ++ ([32] ++ (w ++ ([58] ++ [59])))) ++ bS P t) = ((if hasNm P w = true then [] else sB.getD 26 [] ++ (w ++ [58])) ++ cBr P t) ++ [59]
    have ih := bS_e t
    by_cases c : hasNm P w = true
    · rw [if_pos c, if_pos c, List.nil_append, List.nil_append]; exact ih
    · rw [if_neg c, if_neg c]
      have e26 : sB.getD 26 [] = [59] ++ (kwS 5 ++ [32]) := by decide +kernel
      rw [e26]
      simp only [List.append_assoc]
      rw [← ih]
theorem nwF_e : ∀ (fs acc : List (List Int32)), dst acc fs = acc ++ nwF acc fs
  | [], acc => (List.append_nil acc).symm
  | w :: t, acc => by
    unfold dst nwF
    split
    · exact nwF_e t acc
    · rw [nwF_e t (acc ++ [w]), List.append_assoc]; rfl
theorem brS_e : ∀ (fs pre : List (List Int32)), (∀ w, w ∈ pre → wfN w) → (∀ w, w ∈ fs → wfN w) → brS P pre fs = bS P (nwF (dsF pre) fs)
  | [], pre, _, _ => rfl
  | w :: t, pre, hp, hf => by
    have hw := hf w List.mem_cons_self
    have ht : ∀ g, g ∈ t → wfN g := fun g hg => hf g (List.mem_cons_of_mem _ hg)
    have hp' : ∀ g, g ∈ pre ++ [w] → wfN g := fun g hg => by
      rcases List.mem_append.mp hg with y | y
      · exact hp g y
      · rw [List.mem_singleton.mp y]; exact hw
    have hany : pre.any (fun g => cmpN g w == 0) = hasF w (dsF pre) := by
      rw [hasF_ds hw hp]
      unfold hasF
      rw [Bool.eq_iff_iff, List.any_eq_true, List.any_eq_true]
      constructor
      · rintro ⟨g, h1, h2⟩
        rw [beq_iff_eq] at h2
        exact ⟨g, h1, by rw [beq_iff_eq]; exact (cmpN_0 hw (hp g h1)).mpr ((cmpN_0 (hp g h1) hw).mp h2).symm⟩
      · rintro ⟨g, h1, h2⟩
        rw [beq_iff_eq] at h2
        exact ⟨g, h1, by rw [beq_iff_eq]; exact (cmpN_0 (hp g h1) hw).mpr ((cmpN_0 hw (hp g h1)).mp h2).symm⟩
    have hd : dsF (pre ++ [w]) = if hasF w (dsF pre) = true then dsF pre else dsF pre ++ [w] := dst_app [] pre
    have ih := brS_e t (pre ++ [w]) hp' ht
    show (if isPr P pre w = true then [] else kwS 5 ++ ([32] ++ (w ++ ([58] ++ [59])))) ++ brS P (pre ++ [w]) t = bS P (if hasF w (dsF pre) = true then nwF (dsF pre) t else w :: nwF (dsF pre ++ [w]) t)
    have hI : isPr P pre w = (hasNm P w || hasF w (dsF pre)) := by unfold isPr hasNm; rw [hany]
    rw [ih, hI, hd]
    by_cases c : hasF w (dsF pre) = true
    · rw [if_pos c, if_pos c, c, Bool.or_true, if_pos rfl]; rfl
    · rw [if_neg c, if_neg c, show hasF w (dsF pre) = false by simpa using c, Bool.or_false]; rfl
theorem cPs_e (hP : wfP P) : cPs P = prP P := by
  unfold cPs prP
  have e18 : sB.getD 18 [] = sB.getD 0 [] ++ [32] := by decide +kernel
  have eb : brS P [] P.2.2.1 = bS P (dsF P.2.2.1) := by
    rw [brS_e P.2.2.1 [] (fun w hw => by cases hw) hP.2.1]
    have h1 := nwF_e P.2.2.1 []
    rw [List.nil_append] at h1
    have h2 : dsF P.2.2.1 = nwF [] P.2.2.1 := h1
    rw [h2]; rfl
  rw [eb, e18]
  cases hr : P.2.2.2 with
  | nil =>
    rw [if_pos rfl]
    have := bS_e (P := P) (dsF P.2.2.1)
    show (sB.getD 0 [] ++ [32]) ++ (P.1 ++ ([32] ++ (verS P.2.1 ++ ([] ++ (cBr P (dsF P.2.2.1) ++ [59]))))) = sB.getD 0 [] ++ ([32] ++ (P.1 ++ ([32] ++ (verS P.2.1 ++ ([59] ++ ([] ++ ([] ++ bS P (dsF P.2.2.1))))))))
    rw [← this]
    simp only [List.append_assoc, List.nil_append]
  | cons r t =>
    rw [if_neg (by simp), cRows_n, ← bS_e]
    simp only [List.append_assoc]
end SAMEP
section CPRR
variable {N z : Nat} {M M' M'' : hM} {f : Nat → Int32} {n : Nat} {pk : List aPk} {ch : List (Nat × Nat)} {pr : List Int32}
theorem s_print {x : Int32} (hN : 2001 ≤ N) (h : CI z M f n pk ch pr) : match pkOf pk x with
    | none => ∃ M', (f_PR_print N z x).1 M = some (-1, M') ∧ CI z M' f n pk ch pr ∧ cfr z M n M' n
    | some P => ∃ M', (f_PR_print N z x).1 M = some (nI (prP P).length, M') ∧ CI z M' f n pk ch (prP P) ∧ cfr z M n M' n := by
  obtain ⟨r, h1, h2⟩ := s_packOf (N := N) (x := x) h
  have hI := h
  obtain ⟨tf, hc, _, _, _, hPr, _⟩ := h
  have pre : (f_PR_print N z x).1 M = (if r = none then b_ret (-1 : Int32) else b_getR z 0 4 (fun r5 => b_nn r5 (fun a6 => b_is a6 5 (b_call (f_Printer_printPack N a6 r) (fun _ => b_getR z 0 4 (fun r11 => b_nn r11 (fun a12 => b_getI a12 5 1 (fun v13 => b_ret v13))))))) : hX Int32).1 M := by
    rw [e_PR_print]
    refine (r_is hc).trans (r_callE.trans ?_)
    rw [h1, Option.bind_some]
  cases hp : pkOf pk x with
  | none =>
    rw [hp] at h2
    refine ⟨M, ?_, hI, cfr.rf⟩
    rw [pre, r_if_t h2]; rfl
  | some P =>
    rw [hp] at h2
    obtain ⟨oP, a, e, hB⟩ := h2
    have eP := cPs_e oP.1
    obtain ⟨M1, x1, x2, x3⟩ := s_printPack (N := N) hN oP.1 hPr hB (by rw [eP]; exact oP.2.2)
    rw [List.nil_append, eP] at x2
    refine ⟨M1, ?_, hI.prt x2 x3, by rw [x3.1]; exact Nat.le_refl _, by rw [x3.1]; omega, by rw [x3.1]; omega, fun b hb1 hb2 => x3.2 b (by omega) (by omega)⟩
    rw [pre, e, r_if_f (show ¬ some a = none from fun z => by cases z)]
    refine (r_getR (r := some (z + 8)) hc rfl).trans (r_nn.trans ((r_is hPr.1).trans (r_callE.trans ?_)))
    rw [x1, Option.bind_some]
    dsimp only
    refine (r_getR (r := some (z + 8)) ((x3.2 _ (by omega) (by omega)).trans hc) rfl).trans (r_nn.trans ((r_getI x2.1 rfl).trans rfl))
end CPRR
