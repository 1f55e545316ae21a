/-! LAYER 2: the class prints names, numbers, ranges -/
section CPUT
variable {N z : Nat} {M M' M'' : hM} {L l l' : List Int32}
theorem EmP.eq {X Y : Option (Unit × hM)} (e : X = Y) (h : EmP z M L l Y) : EmP z M L l X := by rw [e]; exact h
theorem EmP.ret (h : cPr z M L) : EmP z M L [] ((b_ret () : hX Unit).1 M) := ⟨M, rfl, by rw [List.append_nil]; exact h, pfr.rf⟩
theorem EmP.seq {A K : hX Unit} (hP : cPr z M L) (h : EmP z M L l (A.1 M)) (g : ∀ M', cPr z M' (L ++ l) → pfr z M M' → EmP z M' (L ++ l) l' (K.1 M')) : EmP z M L (l ++ l') ((b_is (z + 8) 5 (b_call A (fun _ => K))).1 M) := by
  obtain ⟨M1, a, b, c⟩ := h
  obtain ⟨M2, d, e, f⟩ := g M1 b c
  refine ⟨M2, ?_, by rw [← List.append_assoc]; exact e, c.tr f⟩
  rw [r_is hP.1, r_callE, a, Option.bind_some]; exact d
theorem EmP.one {A : hX Unit} (hP : cPr z M L) (h : EmP z M L l (A.1 M)) : EmP z M L l ((b_is (z + 8) 5 (b_call A (fun _ => b_ret ()))).1 M) := by
  have := EmP.seq (l' := []) (K := b_ret ()) hP h (fun M' h' _ => EmP.ret h')
  rw [List.append_nil] at this; exact this
theorem s_putNm {b : Nat} {w : List Int32} (hw : wfN w) : ∀ (d fu i : Nat) (M : hM) (L : List Int32), d + i = w.length → d < fu → cPr z M L → nmA (z + 43) M b w → L.length + d ≤ 4181 → EmP z M L (w.drop i) ((f_Printer_putName_2 N (z + 8) (some b) fu (nI i)).1 M) := by
  have hl := hw.1
  intro d
  induction d with
  | zero =>
    intro fu i M L h1 h2 hP hA h5
    obtain ⟨fu, rfl⟩ : ∃ g, fu = g + 1 := ⟨fu - 1, by omega⟩
    obtain ⟨p1, p2, _, _, _, q1, q2, q3⟩ := hA
    rw [List.drop_eq_nil_of_le (by omega)]
    refine ⟨M, ?_, by rw [List.append_nil]; exact hP, pfr.rf⟩
    rw [e_Printer_putName_2, r_nn]
    refine (r_getR (r := some p1) q1 rfl).trans (r_nn.trans ((r_len q2).trans ?_))
    dsimp only
    rw [r_if_t (show nI w.length ≤ nI i from nI_le (by omega) (by omega))]; rfl
  | succ d ih =>
    intro fu i M L h1 h2 hP hA h5
    obtain ⟨fu, rfl⟩ : ∃ g, fu = g + 1 := ⟨fu - 1, by omega⟩
    have hA' := hA
    obtain ⟨p1, p2, _, _, _, q1, q2, q3⟩ := hA
    have hi : i < w.length := by omega
    have i1 : ¬ (nI i < 0 ∨ w.length ≤ (nI i).toNatClampNeg) := nI_in (by omega) (by omega)
    have c1 := nI_clamp (n := i) (by omega)
    have hc : sml (w.getD i 0) := by
      rw [List.getD_eq_getElem?_getD, List.getElem?_eq_getElem hi]
      exact (hw.2.1 _ (List.getElem_mem hi)).2
    rw [drop_cons hi, e_Printer_putName_2, r_nn]
    refine EmP.eq ((r_getR (r := some p1) q1 rfl).trans (r_nn.trans (r_len q2))) ?_
    dsimp only
    rw [r_if_f (show ¬ nI w.length ≤ nI i from nI_ge (by omega) (by omega))]
    refine EmP.eq ((r_getR (r := some p1) q1 rfl).trans (r_nn.trans (r_ald q2 i1))) ?_
    rw [c1, nI_1]
    exact EmP.seq (l := [w.getD i 0]) hP (s_put (nar_ch hc) hP (by omega)) (fun M' h' g' => ih fu (i + 1) M' _ (by omega) (by omega) h' (hA'.f g'.d) (by rw [List.length_append]; show L.length + 1 + d ≤ _; omega))
theorem s_putName {b : Nat} {w : List Int32} (hN : 2001 ≤ N) (hw : wfN w) (hP : cPr z M L) (hA : nmA (z + 43) M b w) (hb : L.length + w.length ≤ 4181) : EmP z M L w ((f_Printer_putName N (z + 8) (some b)).1 M) := by
  have := s_putNm (N := N) hw w.length N 0 M L (by omega) (by have := hw.1; omega) hP hA hb
  rw [List.drop_zero] at this
  rw [e_Printer_putName]; exact this
theorem s_putTx {t : Nat} (ht : t < 27) : ∀ (d fu i : Nat) (M : hM) (L : List Int32), d + i = (sB.getD t []).length → d < fu → cPr z M L → L.length + d ≤ 4181 → EmP z M L ((sB.getD t []).drop i) ((f_Printer_putText_2 N (z + 8) (some t) fu (nI i)).1 M) := by
  have hl := sB_len t
  have ht' : t < sB.length := by have : sB.length = 27 := by decide
                                 omega
  intro d
  induction d with
  | zero =>
    intro fu i M L h1 h2 hP h5
    obtain ⟨fu, rfl⟩ : ∃ g, fu = g + 1 := ⟨fu - 1, by omega⟩
    rw [List.drop_eq_nil_of_le (by omega)]
    refine ⟨M, ?_, by rw [List.append_nil]; exact hP, pfr.rf⟩
    rw [e_Printer_putText_2, r_nn]
    unfold b_slen
    rw [r_if_t ht', r_if_t (show nI (sB.getD t []).length ≤ nI i from nI_le (by omega) (by omega))]; rfl
  | succ d ih =>
    intro fu i M L h1 h2 hP h5
    obtain ⟨fu, rfl⟩ : ∃ g, fu = g + 1 := ⟨fu - 1, by omega⟩
    have hi : i < (sB.getD t []).length := by omega
    have hc : sml ((sB.getD t []).getD i 0) := by
      rw [List.getD_eq_getElem?_getD, List.getElem?_eq_getElem hi]
      exact sB_s ht _ (List.getElem_mem hi)
    rw [drop_cons hi, e_Printer_putText_2, r_nn]
    unfold b_slen
    rw [r_if_t ht', r_if_f (show ¬ nI (sB.getD t []).length ≤ nI i from nI_ge (by omega) (by omega))]
    unfold b_schr
    rw [r_if_f (by
      rintro (z | z | z)
      · omega
      · exact nI_pos (by omega) z
      · rw [nI_clamp (by omega)] at z; omega), nI_clamp (by omega), sB_255, nI_1]
    exact EmP.seq (l := [(sB.getD t []).getD i 0]) hP (s_put (nar_ch hc) hP (by omega)) (fun M' h' g' => ih fu (i + 1) M' _ (by omega) (by omega) h' (by rw [List.length_append]; show L.length + 1 + d ≤ _; omega))
theorem sB_20 : ∀ t : Fin 27, (sB.getD t.val []).length ≤ 20 := by decide +kernel
theorem s_putText {t : Nat} (hN : 2001 ≤ N) (ht : t < 27) (hP : cPr z M L) (hb : L.length + (sB.getD t []).length ≤ 4181) : EmP z M L (sB.getD t []) ((f_Printer_putText N (z + 8) (some t)).1 M) := by
  have := s_putTx (N := N) ht (sB.getD t []).length N 0 M L (by omega) (Nat.lt_of_le_of_lt (sB_20 ⟨t, ht⟩) (by omega)) hP hb
  rw [List.drop_zero] at this
  rw [e_Printer_putText]; exact this
theorem dg_nar : ∀ d : Fin 10, ((((((48 + lN d.val) : Int64).toInt32) : Int32).toUInt32 % 65536).toInt32) = nI (48 + d.val) := by decide +kernel
theorem s_num34 {v : Nat} (hv : v < 2 ^ 62) : ∀ (k fu : Nat) (M : hM) (L : List Int32), k ≤ 5 → k + 1 < fu → cPr z M L → L.length + k + 1 ≤ 4181 → EmP z M L (digL v k) ((f_Printer_putNumber_34 N (z + 8) (lN v) fu (lN (10 ^ k))).1 M) := by
  have step : ∀ (k : Nat), k ≤ 5 → ¬ lg_cmp (lN (10 ^ k)) 0 ≤ 0 ∧ ¬ lN (10 ^ k) = 0 ∧ ((((((48 + ((lN v / lN (10 ^ k)) - (lN v / lN (10 ^ k)) / 10 * 10)) : Int64).toInt32) : Int32).toUInt32 % 65536).toInt32) = nI (48 + v / 10 ^ k % 10) := by
    intro k hk
    have p0 : 0 < 10 ^ k := Nat.pow_pos (by decide)
    have p1 : 10 ^ k ≤ 10 ^ 5 := Nat.pow_le_pow_right (by decide) hk
    have p2 : (10 : Nat) ^ 5 < 2 ^ 31 := by decide
    refine ⟨fun z => ?_, fun z => ?_, ?_⟩
    · have := (lN_leB (a := 10 ^ k) (b := 0) (by omega) (by omega)).mp (lg_le.mp z)
      omega
    · have := lN_inj (a := 10 ^ k) (b := 0) (by omega) (by omega) z
      omega
    · rw [pk_lDiv (by omega) p0 (by omega)]
      have e := pk_lRem (a := v / 10 ^ k) (b := 10) (by have := Nat.div_le_self v (10 ^ k); omega) (by decide) (by decide)
      rw [show (10 : Int64) = lN 10 from rfl, e]
      exact dg_nar ⟨v / 10 ^ k % 10, Nat.mod_lt _ (by decide)⟩
  intro k
  induction k with
  | zero =>
    intro fu M L hk hfu hP hL
    obtain ⟨fu, rfl⟩ : ∃ g, fu = g + 1 := ⟨fu - 1, by omega⟩
    obtain ⟨fu, rfl⟩ : ∃ g, fu = g + 1 := ⟨fu - 1, by omega⟩
    obtain ⟨a, b, c⟩ := step 0 (by omega)
    rw [e_Printer_putNumber_34, r_if_f a, r_if_f b, c, show v / 10 ^ 0 % 10 = v % 10 by rw [Nat.pow_zero, Nat.div_one]]
    have := EmP.seq (l := [nI (48 + v % 10)]) (l' := []) (K := f_Printer_putNumber_34 N (z + 8) (lN v) (fu + 1) (lN (10 ^ 0) / 10)) hP (s_put (N := N) (nar_ch (sml_nI (by omega))) hP (by omega)) (fun s' h' _ => by
      rw [show lN (10 ^ 0) / 10 = 0 by decide, e_Printer_putNumber_34, r_if_t (show lg_cmp 0 0 ≤ 0 by decide)]
      exact EmP.ret h')
    rw [List.append_nil] at this
    exact this
  | succ k ih =>
    intro fu M L hk hfu hP hL
    obtain ⟨fu, rfl⟩ : ∃ g, fu = g + 1 := ⟨fu - 1, by omega⟩
    obtain ⟨a, b, c⟩ := step (k + 1) hk
    rw [e_Printer_putNumber_34, r_if_f a, r_if_f b, c]
    have p1 : 10 ^ (k + 1) ≤ 10 ^ 5 := Nat.pow_le_pow_right (by decide) hk
    have p2 : (10 : Nat) ^ 5 < 2 ^ 31 := by decide
    have e : lN (10 ^ (k + 1)) / 10 = lN (10 ^ k) := by
      rw [show (10 : Int64) = lN 10 from rfl, pk_lDiv (by omega) (by decide) (by decide), Nat.pow_succ, Nat.mul_div_cancel _ (by decide)]
    rw [e]
    exact EmP.seq (l := [nI (48 + v / 10 ^ (k + 1) % 10)]) (l' := digL v k) hP (s_put (nar_ch (sml_nI (by omega))) hP (by omega)) (fun s' h' _ => ih fu s' _ (by omega) (by omega) h' (by rw [List.length_append]; show L.length + 1 + k + 1 ≤ _; omega))
theorem s_num5 {v : Nat} (hv : v < 1000000) : ∀ (d fu k : Nat), d + k = 5 → d < fu → (f_Printer_putNumber_5 N (z + 8) (lN v) fu (lN (10 ^ k)) (nI (k + 1))).1 M = (f_Printer_putNumber_34 N (z + 8) (lN v) N (lN (10 ^ (lgd v d k)))).1 M := by
  intro d
  induction d with
  | zero =>
    intro fu k h1 h2
    obtain ⟨fu, rfl⟩ : ∃ g, fu = g + 1 := ⟨fu - 1, by omega⟩
    have hk : k = 5 := by omega
    subst hk
    rw [e_Printer_putNumber_5, r_if_t (show (6 : Int32) ≤ nI (5 + 1) by decide)]
    rfl
  | succ d ih =>
    intro fu k h1 h2
    obtain ⟨fu, rfl⟩ : ∃ g, fu = g + 1 := ⟨fu - 1, by omega⟩
    have p0 : 0 < 10 ^ k := Nat.pow_pos (by decide)
    have p1 : 10 ^ k ≤ 10 ^ 5 := Nat.pow_le_pow_right (by decide) (by omega)
    have p2 : (10 : Nat) ^ 5 < 2 ^ 31 := by decide
    have hne : ¬ lN (10 ^ k) = 0 := fun z => by
      have := lN_inj (a := 10 ^ k) (b := 0) (by omega) (by omega) z
      omega
    have hdv : v / 10 ^ k ≤ v := Nat.div_le_self _ _
    have iff : v / 10 ^ k < 10 ↔ v / 10 < 10 ^ k := by
      rw [Nat.div_lt_iff_lt_mul p0, Nat.div_lt_iff_lt_mul (by decide), Nat.mul_comm]
    rw [e_Printer_putNumber_5, r_if_f (show ¬ (6 : Int32) ≤ nI (k + 1) from nI_ge (b := 6) (by omega) (by omega)), r_if_f hne, pk_lDiv (by omega) p0 (by omega)]
    unfold lgd
    have cmp : lg_cmp (lN (v / 10 ^ k)) 10 < 0 ↔ v / 10 ^ k < 10 := by
      rw [lg_lt]
      have := lN_leB (a := 10) (b := v / 10 ^ k) (by decide) (by omega)
      constructor
      · intro h; exact Nat.lt_of_not_le (fun y => absurd (this.mpr y) (Int64.not_le.mpr h))
      · intro h; exact Int64.not_le.mp (fun y => absurd (this.mp y) (by omega))
    by_cases c : v / 10 < 10 ^ k
    · rw [r_if_t (cmp.mpr (iff.mpr c)), if_pos c]
    · rw [r_if_f (fun z => c (iff.mp (cmp.mp z))), if_neg c, show lN (10 ^ k) * 10 = lN (10 ^ (k + 1)) from by rw [show (10 : Int64) = lN 10 from rfl, lN_mul, Nat.pow_succ], nI_1]
      exact ih fu (k + 1) (by omega) (by omega)
theorem s_putNumber {v : Nat} (hN : 2001 ≤ N) (hv : v < 1000000) (hP : cPr z M L) (hb : L.length + (numS v).length ≤ 4181) : EmP z M L (numS v) ((f_Printer_putNumber N (z + 8) (lN v)).1 M) := by
  have h := s_num5 (N := N) (z := z) (M := M) hv 5 N 0 (by omega) (by omega)
  have hl := lgd_le (v := v) 5 0
  unfold numS at hb ⊢
  rw [digL_len] at hb
  rw [e_Printer_putNumber, show (f_Printer_putNumber_5 N (z + 8) (lN v) N 1 1).1 M = _ from h]
  exact s_num34 (by omega) _ N M L (by omega) (by omega) hP (by omega)
theorem s_putVersion {v : Nat} (hN : 2001 ≤ N) (hv : v < 10 ^ 18) (hP : cPr z M L) (hb : L.length + (verS v).length ≤ 4181) : EmP z M L (verS v) ((f_Printer_putVersion N (z + 8) (lN v)).1 M) := by
  have p : (10 : Nat) ^ 18 = 1000000000000000000 := by decide
  have e2 : lN v / 1000000 = lN (v / 1000000) := by rw [show (1000000 : Int64) = lN 1000000 from rfl, pk_lDiv (by omega) (by decide) (by decide)]
  have e1 : lN (v / 1000000) / 1000000 = lN (v / 1000000000000) := by rw [show (1000000 : Int64) = lN 1000000 from rfl, pk_lDiv (by omega) (by decide) (by decide), Nat.div_div_eq_div_mul]
  have e3 : lN (v / 1000000) - lN (v / 1000000) / 1000000 * 1000000 = lN (v / 1000000 % 1000000) := by rw [show (1000000 : Int64) = lN 1000000 from rfl, pk_lRem (by omega) (by decide) (by decide)]
  have e4 : lN v - lN (v / 1000000) * 1000000 = lN (v % 1000000) := by
    rw [← e2, show (1000000 : Int64) = lN 1000000 from rfl, pk_lRem (by omega) (by decide) (by decide)]
  rw [e_Printer_putVersion, e2, e3, e1, e4]
  unfold verS at hb ⊢
  rw [List.length_append, List.length_append, List.length_append, List.length_append] at hb
  have h1 : ([46] : List Int32).length = 1 := rfl
  rw [h1] at hb
  refine EmP.seq hP (s_putNumber hN (by omega) hP (by omega)) (fun s1 p1 _ => ?_)
  refine EmP.seq p1 (s_put (nar_ch (sml_nI (j := 46) (by decide))) p1 (by rw [List.length_append]; omega)) (fun s2 p2 _ => ?_)
  refine EmP.seq p2 (s_putNumber hN (by omega) p2 (by rw [List.length_append, List.length_append]; show _ + 1 + _ ≤ _; omega)) (fun s3 p3 _ => ?_)
  refine EmP.seq p3 (s_put (nar_ch (sml_nI (j := 46) (by decide))) p3 (by rw [List.length_append, List.length_append, List.length_append]; show _ + 1 + _ < _; omega)) (fun s4 p4 _ => ?_)
  exact EmP.one p4 (s_putNumber hN (by omega) p4 (by rw [List.length_append, List.length_append, List.length_append, List.length_append]; show _ + 1 + _ + 1 + _ ≤ _; omega))
end CPUT
