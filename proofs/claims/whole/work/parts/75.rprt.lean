/-! LAYER 2: the reference prints a package -/
def lnN (x : Int64) : Nat := x.toInt.toNat
/-- the row goes on with the text row of the one ahead -/
def goS (q r : aR) : Bool := q.1 == r.1 && (if r.1 = 9 then cmpN r.2.2.2.1 q.2.2.2.1 == 0 else if r.1 = 8 then r.2.1 == q.2.1 else decide (9 < r.1 ∧ r.1 < 14))
def bgS (r : aR) : List Int32 := kwS (if r.1 < 5 then 12 else r.1 - 4) ++ ((if r.1 < 5 then kwS (ntx r.1) else []) ++ (if r.1 = 9 then [32] ++ (r.2.2.2.1 ++ [58]) else []))
def rsS (r : aR) : List Int32 := if r.1 < 7 ∨ r.1 = 8 then rngS (lnN r.2.2.2.2.1) (lnN r.2.2.2.2.2.1) else if r.1 = 7 then [32] ++ verS (lnN r.2.2.2.2.1) else if r.1 = 14 then [32] ++ r.2.2.2.1 else if r.1 = 15 then [32] ++ numS (lnN r.2.2.2.2.1) else []
def hdS (o : Option aR) (r : aR) : List Int32 := match o with
  | none => bgS r
  | some q => if goS q r = true then (if r.1 = 8 then [32] else []) ++ [if r.1 = 8 then 124 else 44] else [59] ++ bgS r
def rwS (o : Option aR) (r : aR) : List Int32 := hdS o r ++ ([32] ++ (r.2.2.1 ++ rsS r))
def rowsS : Option aR → List aR → List Int32
  | _, [] => []
  | o, r :: t => rwS o r ++ rowsS (some r) t
/-- a feature that needs no row of its own at the end -/
def isPr (P : aPk) (pre : List (List Int32)) (w : List Int32) : Bool := P.2.2.2.any (fun r => r.1 == 9 && cmpN r.2.2.2.1 w == 0) || pre.any (fun g => cmpN g w == 0)
def brS (P : aPk) : List (List Int32) → List (List Int32) → List Int32
  | _, [] => []
  | pre, w :: t => (if isPr P pre w = true then [] else kwS 5 ++ ([32] ++ (w ++ ([58] ++ [59])))) ++ brS P (pre ++ [w]) t
/-- a package PRINTED -/
def prP (P : aPk) : List Int32 := sB.getD 0 [] ++ ([32] ++ (P.1 ++ ([32] ++ (verS P.2.1 ++ ([59] ++ (rowsS none P.2.2.2 ++ ((if P.2.2.2 = [] then [] else [59]) ++ brS P [] P.2.2.1)))))))
section RPRT
variable {N : Nat} {M : hM} {m : Nat} {s s' s'' : rS} {L l l' : List Int32}
theorem lnN_l {v : Nat} (h : v < 2 ^ 63) : lnN (lN v) = v := by
  unfold lnN
  rw [show (lN v).toInt = (v : Int) from Int64.toInt_ofNat_of_lt h]; rfl
theorem Emt.nil {A : hX Unit} (h : Emt M m s L l (A.1 (ov M m s))) : Emt M m s L l ((b_is m 1 (b_call A (fun _ => b_ret ()))).1 (ov M m s)) := by
  have := Emt.seq (l' := []) (K := b_ret ()) h (fun s5 h5 _ => Emt.ret h5)
  rw [List.append_nil] at this
  exact this
theorem m_putRange {r lo hi : Nat} (hN : 2001 ≤ N) (hr : r < 8200) (hlo : s.2.2.2 18 r = lN lo) (hhi : s.2.2.2 19 r = lN hi) (hb : (lo < hi ∧ hi ≤ 10 ^ 18) ∨ (lo = 0 ∧ hi = 0)) (hP : Pst s L) (hL : L.length + 60 ≤ 60000) : Emt M m s L (rngS lo hi) ((f_MD_putRange N m (nI r)).1 (ov M m s)) := by
  have p : (10 : Nat) ^ 18 = 1000000000000000000 := by decide
  have i1 : ¬ (nI r < 0 ∨ 8200 ≤ (nI r).toNatClampNeg) := nI_in hr (by decide)
  have c1 := nI_clamp (n := r) (by omega)
  have z0 : lg_cmp (lN lo) 0 = 0 ↔ lo = 0 := ⟨fun z => lN_inj (by omega) (by omega) (lg_eq.mp z), fun z => lg_eq.mpr (by rw [z]; rfl)⟩
  have zE : lg_cmp (lN hi) 1000000000000000000 = 0 ↔ hi = 1000000000000000000 := ⟨fun z => lN_inj (b := 1000000000000000000) (by omega) (by omega) (lg_eq.mp z), fun z => lg_eq.mpr (by rw [z]; rfl)⟩
  have zS : lg_cmp (lN hi) (lN lo + 1) = 0 ↔ hi = lo + 1 := by
    rw [lN_1]
    exact ⟨fun z => lN_inj (by omega) (by omega) (lg_eq.mp z), fun z => lg_eq.mpr (by rw [z])⟩
  rw [e_MD_putRange, r_let]
  unfold rngS
  -- the last part
  have pH : ∀ (s1 : rS) (L1 : List Int32), Pst s1 L1 → kP s s1 → L1.length ≤ L.length + 30 → Emt M m s1 L1 (if hi = 1000000000000000000 then [] else bdS 60 0 hi) ((b_getR m 1 26 (fun r1 => b_nn r1 (fun a2 => b_aldL a2 7 (nI r) (fun v3 => (if (lg_cmp v3 1000000000000000000) = 0 then b_ret () else b_getR m 1 26 (fun r4 => b_nn r4 (fun a5 => b_aldL a5 7 (nI r) (fun v6 => b_is m 1 (b_call (f_MD_putBound N m 60 0 v6) (fun _ => b_ret ()))))))))) : hX Unit).1 (ov M m s1)) := by
    intro s1 L1 h1 g hl
    have e19 : s1.2.2.2 19 r = lN hi := by rw [g.2.1]; exact hhi
    simp only [mR_26, r_nn, mA_19 i1, c1, e19]
    by_cases c : hi = 1000000000000000000
    · rw [r_if_t (zE.mpr c), if_pos c]; exact Emt.ret h1
    · rw [r_if_f (fun z => c (zE.mp z)), if_neg c]
      simp only [mR_26, r_nn, mA_19 i1, c1, e19]
      exact Emt.nil (m_putBound hN (sml_nI (j := 60) (by decide)) (sml_nI (j := 0) (by decide)) (by omega) h1 (by omega))
  have pS : ¬ (lo = 0 ∧ hi = 1000000000000000000) → Emt M m s L (if hi = lo + 1 then bdS 61 0 lo else (if lo = 0 then [] else bdS 62 61 lo) ++ (if hi = 1000000000000000000 then [] else bdS 60 0 hi)) ((b_getR m 1 26 (fun r11 => b_nn r11 (fun a12 => b_aldL a12 7 (nI r) (fun v13 => b_getR m 1 25 (fun r14 => b_nn r14 (fun a15 => b_aldL a15 7 (nI r) (fun v16 => (if (lg_cmp v13 (v16 + 1)) = 0 then b_getR m 1 25 (fun r27 => b_nn r27 (fun a28 => b_aldL a28 7 (nI r) (fun v29 => b_is m 1 (b_call (f_MD_putBound N m 61 0 v29) (fun _ => b_ret ()))))) else b_getR m 1 25 (fun r17 => b_nn r17 (fun a18 => b_aldL a18 7 (nI r) (fun v19 => (if (lg_cmp v19 0) = 0 then (b_getR m 1 26 (fun r1 => b_nn r1 (fun a2 => b_aldL a2 7 (nI r) (fun v3 => (if (lg_cmp v3 1000000000000000000) = 0 then b_ret () else b_getR m 1 26 (fun r4 => b_nn r4 (fun a5 => b_aldL a5 7 (nI r) (fun v6 => b_is m 1 (b_call (f_MD_putBound N m 60 0 v6) (fun _ => b_ret ())))))))))) else b_getR m 1 25 (fun r20 => b_nn r20 (fun a21 => b_aldL a21 7 (nI r) (fun v22 => b_is m 1 (b_call (f_MD_putBound N m 62 61 v22) (fun _ => (b_getR m 1 26 (fun r1 => b_nn r1 (fun a2 => b_aldL a2 7 (nI r) (fun v3 => (if (lg_cmp v3 1000000000000000000) = 0 then b_ret () else b_getR m 1 26 (fun r4 => b_nn r4 (fun a5 => b_aldL a5 7 (nI r) (fun v6 => b_is m 1 (b_call (f_MD_putBound N m 60 0 v6) (fun _ => b_ret ())))))))))))))))))))))))))) : hX Unit).1 (ov M m s)) := by
    intro hne
    simp only [mR_26, r_nn, mA_19 i1, c1, hhi, mR_25, mA_18 i1, hlo]
    by_cases c : hi = lo + 1
    · rw [r_if_t (zS.mpr c), if_pos c]
      simp only [mR_25, r_nn, mA_18 i1, c1, hlo]
      exact Emt.nil (m_putBound hN (sml_nI (j := 61) (by decide)) (sml_nI (j := 0) (by decide)) (by omega) hP (by omega))
    · rw [r_if_f (fun z => c (zS.mp z)), if_neg c]
      simp only [mR_25, r_nn, mA_18 i1, c1, hlo]
      by_cases c0 : lo = 0
      · rw [r_if_t (z0.mpr c0), if_pos c0, List.nil_append]
        exact pH s L hP kP.rf (by omega)
      · rw [r_if_f (fun z => c0 (z0.mp z)), if_neg c0]
        simp only [mR_25, r_nn, mA_18 i1, c1, hlo]
        refine Emt.seq (m_putBound hN (sml_nI (j := 62) (by decide)) (sml_nI (j := 61) (by decide)) (by omega) hP (by omega)) (fun s1 h1 g => pH s1 _ h1 g ?_)
        rw [List.length_append]
        have : (bdS 62 61 lo).length ≤ 24 := by
          unfold bdS
          rw [List.length_append, List.length_append, List.length_append, List.length_append, if_neg (by decide)]
          have := verS_len (v := lo)
          show 1 + (1 + (1 + (1 + _))) ≤ 24
          omega
        omega
  simp only [mR_25, r_nn, mA_18 i1, c1, hlo]
  by_cases c0 : lo = 0
  · rw [r_if_t (z0.mpr c0)]
    simp only [mR_26, r_nn, mA_19 i1, c1, hhi]
    by_cases cE : hi = 1000000000000000000
    · rw [r_if_t (zE.mpr cE), if_pos ⟨c0, cE⟩]
      refine Emt.seq (l := [32]) (l' := [42]) (m_put (sml_nI (j := 32) (by decide)) hP (by omega)) (fun s1 h1 _ => ?_)
      exact Emt.nil (m_put (sml_nI (j := 42) (by decide)) h1 (by rw [List.length_append]; show _ + 1 < _; omega))
    · rw [r_if_f (fun z => cE (zE.mp z)), if_neg (c := lo = 0 ∧ hi = 1000000000000000000) (fun z => cE z.2)]
      exact pS (fun z => cE z.2)
  · rw [r_if_f (fun z => c0 (z0.mp z)), if_neg (c := lo = 0 ∧ hi = 1000000000000000000) (fun z => c0 z.1)]
    exact pS (fun z => c0 z.1)
theorem m_keyOf_loop {i0 : Nat} (hc : cS s) (hi0 : i0 < 12) : ∀ (d fu i : Nat), d + i = i0 → d < fu → (f_MD_keyOf_2 N m (nI (kdf i0)) fu (nI i)).1 (ov M m s) = some (kC (ktx i0), ov M m s) := by
  have kinj : ∀ i j, i < 12 → j < 12 → kdf i = kdf j → i = j := fun i j _ _ h => by unfold kdf at h; split at h <;> split at h <;> omega
  have klt : ∀ i, i < 12 → kdf i < 16 := fun i h => by unfold kdf; split <;> omega
  intro d
  induction d with
  | zero =>
    intro fu i h1 h2
    obtain ⟨fu, rfl⟩ : ∃ g, fu = g + 1 := ⟨fu - 1, by omega⟩
    have e : i = i0 := by omega
    subst e
    have i1 : ¬ (nI i < 0 ∨ 12 ≤ (nI i).toNatClampNeg) := nI_in hi0 (by decide)
    have c1 := nI_clamp (n := i) (by omega)
    rw [e_MD_keyOf_2, r_if_f (show ¬ (12 : Int32) ≤ nI i from nI_ge (b := 12) hi0 (by omega))]
    simp only [mR_10, r_nn, mA_4 i1, c1, (hc.1 i hi0).2, if_true, mR_9, mA_3 i1, (hc.1 i hi0).1, r_ret]
  | succ d ih =>
    intro fu i h1 h2
    obtain ⟨fu, rfl⟩ : ∃ g, fu = g + 1 := ⟨fu - 1, by omega⟩
    have i1 : ¬ (nI i < 0 ∨ 12 ≤ (nI i).toNatClampNeg) := nI_in (by omega) (by decide)
    have c1 := nI_clamp (n := i) (by omega)
    rw [e_MD_keyOf_2, r_if_f (show ¬ (12 : Int32) ≤ nI i from nI_ge (b := 12) (by omega) (by omega))]
    have ne : ¬ nI (kdf i) = nI (kdf i0) := fun z => by
      have := (nI_eq (by have := klt i (by omega); omega) (by have := klt i0 hi0; omega)).mp z
      have := kinj i i0 (by omega) hi0 this
      omega
    simp only [mR_10, r_nn, mA_4 i1, c1, (hc.1 i (by omega)).2, ne, if_false, nI_1]
    exact ih fu (i + 1) (by omega) (by omega)
theorem m_keyOf {i0 : Nat} (hN : 2001 ≤ N) (hc : cS s) (hi0 : i0 < 12) : (f_MD_keyOf N m (nI (kdf i0))).1 (ov M m s) = some (kC (ktx i0), ov M m s) := m_keyOf_loop hc hi0 i0 N 0 (by omega) (by omega)
end RPRT
