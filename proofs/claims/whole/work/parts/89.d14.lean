/-! LAYER 2: the class types, and prints signs -/
/-- what a call leaves of the reference's cells, and its room -/
def cfr (z : Nat) (M : hM) (n : Nat) (M' : hM) (n' : Nat) : Prop := M.2.1 ≤ M'.2.1 ∧ M'.2.1 + 8 * n' ≤ M.2.1 + 8 * n + 64 ∧ M'.2.2 + 100 * n' ≤ M.2.2 + 100 * n + 800 ∧ ∀ b, z + 14 ≤ b → b < z + 43 → M'.1 b = M.1 b
/-- only the printer's cells are touched -/
def pfr (z : Nat) (M M' : hM) : Prop := M'.2 = M.2 ∧ ∀ b, b ≠ z + 8 → b ≠ z + 9 → M'.1 b = M.1 b
section CTY
variable {N z : Nat} {M M' M'' : hM} {f f' : Nat → Int32} {n n' : Nat} {pk : List aPk} {ch : List (Nat × Nat)} {pr pr' : List Int32}
theorem CI.sc (h : CI z M f n pk ch pr) (hS : cSc z M' f' n') (g : M.2.1 ≤ M'.2.1) (e : ∀ b, b < M.2.1 → b ≠ z + 2 → b ≠ z + 3 → M'.1 b = M.1 b) : CI z M' f' n' pk ch pr := by
  obtain ⟨tf, h1, h2, h3, h4, h5, h6, h7⟩ := h
  have hz := h3.2.2.2.2
  have e' : ∀ b, b < z + 43 → b ≠ z + 2 → b ≠ z + 3 → M'.1 b = M.1 b := fun b hb => e b (by omega)
  exact ⟨tf, (e' _ (by omega) (by omega) (by omega)).trans h1, hS, h3.fr g (e' _ (by omega) (by omega) (by omega)) (e' _ (by omega) (by omega) (by omega)) (e' _ (by omega) (by omega) (by omega)) (e' _ (by omega) (by omega) (by omega)), h4.fr ⟨g, fun b hb hb2 => e b hb2 (by omega) (by omega)⟩ (e' _ (by omega) (by omega) (by omega)), h5.fr (e' _ (by omega) (by omega) (by omega)) (e' _ (by omega) (by omega) (by omega)), h6.fr (e' _ (by omega) (by omega) (by omega)) (e' _ (by omega) (by omega) (by omega)) (e' _ (by omega) (by omega) (by omega)), h7.fr (e' _ (by omega) (by omega) (by omega))⟩
theorem CI.prt (h : CI z M f n pk ch pr) (hP : cPr z M' pr') (g : pfr z M M') : CI z M' f n pk ch pr' := by
  obtain ⟨tf, h1, h2, h3, h4, h5, h6, h7⟩ := h
  have hz := h3.2.2.2.2
  have e' : ∀ b, b ≠ z + 8 → b ≠ z + 9 → M'.1 b = M.1 b := g.2
  exact ⟨tf, (e' _ (by omega) (by omega)).trans h1, h2.fr (e' _ (by omega) (by omega)) (e' _ (by omega) (by omega)), h3.fr (by rw [g.1]; exact Nat.le_refl _) (e' _ (by omega) (by omega)) (e' _ (by omega) (by omega)) (e' _ (by omega) (by omega)) (e' _ (by omega) (by omega)), h4.fr ⟨by rw [g.1]; exact Nat.le_refl _, fun b hb hb2 => e' b (by omega) (by omega)⟩ (e' _ (by omega) (by omega)), hP, h6.fr (e' _ (by omega) (by omega)) (e' _ (by omega) (by omega)) (e' _ (by omega) (by omega)), h7.fr (e' _ (by omega) (by omega))⟩
theorem CI.lt (h : CI z M f n pk ch pr) : z + 43 ≤ M.2.1 := by obtain ⟨_, _, _, h3, _⟩ := h; exact h3.2.2.2.2
theorem nar_c8 {b : Nat} (h : b < 256) : vp_nar .char (nI b) = nI b := by
  have : ∀ b : Fin 256, vp_nar .char (nI b.val) = nI b.val := by decide +kernel
  exact this ⟨b, h⟩
theorem s_collect {b : Nat} (hb : b < 256) (h : CI z M f n pk ch pr) : ∃ M', (f_Scan_collect N (z + 2) (nI b)).1 M = some ((), M') ∧ CI z M' (psh (f, n) b).1 (psh (f, n) b).2 pk ch pr ∧ M'.2 = M.2 ∧ ∀ b, b ≠ z + 2 → b ≠ z + 3 → M'.1 b = M.1 b := by
  have h' := h
  obtain ⟨tf, h1, ⟨⟨v, k1, k2⟩, k3, k4, k5⟩, _⟩ := h
  rw [e_Scan_collect]
  by_cases c : b = 0
  · rw [r_if_t (show nI b = 0 by rw [c]; rfl)]
    refine ⟨M, rfl, ?_, rfl, fun _ _ _ => rfl⟩
    rw [show psh (f, n) b = (f, n) from if_pos (Or.inl c)]; exact h'
  · rw [r_if_f (show ¬ nI b = 0 from fun z => c ((nI_eq (b := 0) (by omega) (by omega)).mp z))]
    have E : (b_getI (z + 2) 8 1 (fun v1 => b_getR (z + 2) 8 0 (fun r2 => b_nn r2 (fun a3 => b_len a3 0 (fun v4 => (if v4 ≤ v1 then b_ret () else b_getR (z + 2) 8 0 (fun r5 => b_getI (z + 2) 8 1 (fun v6 => b_nn r5 (fun a7 => b_ast a7 0 v6 (vp_nar .char (nI b)) (b_getI (z + 2) 8 1 (fun v8 => b_put (z + 2) 8 1 (.int (v8 + 1)) (b_ret ()))))))))))) : hX Unit).1 M = if 2000 ≤ n then some ((), M) else some ((), hm_up (hm_up M (z + 3) (.inl (0, 2000, .inl (va_up f n (nI b))))) (z + 2) (scC (z + 3) (nI (n + 1), v.2))) := by
      refine (r_getI k1 rfl).trans ((r_getR (r := some (z + 3)) k1 rfl).trans (r_nn.trans ((r_len k3).trans ?_)))
      dsimp only
      rw [k2]
      by_cases d : 2000 ≤ n
      · rw [r_if_t (show nI 2000 ≤ nI n from nI_le d (by omega)), if_pos d]; rfl
      · rw [r_if_f (show ¬ nI 2000 ≤ nI n from nI_ge (by omega) (by omega)), if_neg d]
        have i1 : ¬ (nI n < 0 ∨ 2000 ≤ (nI n).toNatClampNeg) := nI_in (by omega) (by decide)
        have c1 := nI_clamp (n := n) (by omega)
        refine (r_getR (r := some (z + 3)) k1 rfl).trans ((r_getI k1 rfl).trans (r_nn.trans ?_))
        rw [k2]
        refine (r_ast k3 i1).trans ?_
        rw [c1, upd_va, nar_c8 hb]
        refine (r_getI ((up_n (by omega)).trans k1) rfl).trans ((r_put ((up_n (by omega)).trans k1) (Nat.le_of_ble_eq_true rfl)).trans ?_)
        rw [k2, nI_1]; rfl
    rw [E]
    by_cases d : 2000 ≤ n
    · rw [if_pos d]
      refine ⟨M, rfl, ?_, rfl, fun _ _ _ => rfl⟩
      rw [show psh (f, n) b = (f, n) from if_pos (Or.inr d)]; exact h'
    · rw [if_neg d]
      have hp := psh_fit (F := (f, n)) (b := b) k5 hb k4
      have ep : psh (f, n) b = (va_up f n (nI b), n + 1) := if_neg (fun z => z.elim c d)
      rw [ep] at hp ⊢
      refine ⟨_, rfl, h'.sc ⟨⟨_, up_s, rfl⟩, (up_n (by omega)).trans up_s, hp.2, hp.1⟩ (Nat.le_refl _) (fun b _ n2 n3 => (up_n n2).trans (up_n n3)), rfl, fun b n2 n3 => (up_n n2).trans (up_n n3)⟩
theorem psh_le {F : (Nat → Int32) × Nat} {b : Nat} : (psh F b).2 ≤ F.2 + 1 := by
  unfold psh
  split
  · omega
  · exact Nat.le_refl _
theorem tyB_le {x : Int64} : ∀ (d : Nat) (F : (Nat → Int32) × Nat), (tyB x F d).2 ≤ F.2 + (d + 1)
  | 0, F => psh_le
  | d + 1, F => by
    have h1 := tyB_le (x := x) d (psh F (byt x (8 * (d + 1))))
    have h2 := psh_le (F := F) (b := byt x (8 * (d + 1)))
    show (tyB x (psh F (byt x (8 * (d + 1)))) d).2 ≤ _
    omega
theorem s_type_loop {x : Int64} : ∀ (d fu : Nat) (M : hM) (F : (Nat → Int32) × Nat), d < 8 → d + 1 < fu → CI z M F.1 F.2 pk ch pr → ∃ M', (f_PR_type_3 N z x fu (nI (8 * d))).1 M = some ((), M') ∧ CI z M' (tyB x F d).1 (tyB x F d).2 pk ch pr ∧ M'.2 = M.2 ∧ ∀ b, b ≠ z + 2 → b ≠ z + 3 → M'.1 b = M.1 b := by
  have stp : ∀ (d : Nat) (M : hM) (F : (Nat → Int32) × Nat) (fu : Nat), d < 8 → CI z M F.1 F.2 pk ch pr → ∃ M1, (f_PR_type_3 N z x (fu + 1) (nI (8 * d))).1 M = (f_PR_type_3 N z x fu (nI (8 * d) + (-8))).1 M1 ∧ CI z M1 (psh F (byt x (8 * d))).1 (psh F (byt x (8 * d))).2 pk ch pr ∧ M1.2 = M.2 ∧ ∀ b, b ≠ z + 2 → b ≠ z + 3 → M1.1 b = M.1 b := by
    intro d M F fu hd h
    obtain ⟨M1, x1, x2⟩ := s_collect (N := N) (b := byt x (8 * d)) byt_lt h
    refine ⟨M1, ?_, x2⟩
    obtain ⟨tf, h1, ⟨⟨v, k1, k2⟩, _⟩, _⟩ := h
    rw [e_PR_type_3, r_if_f (show ¬ nI (8 * d) < 0 from nI_pos (by omega))]
    refine (r_getR (r := some (z + 2)) h1 rfl).trans (r_nn.trans ((r_is k1).trans (r_callE.trans ?_)))
    rw [byt_C hd, x1, Option.bind_some]
  intro d
  induction d with
  | zero =>
    intro fu M F h1 h2 h
    obtain ⟨fu, rfl⟩ : ∃ g, fu = g + 2 := ⟨fu - 2, by omega⟩
    obtain ⟨M1, x1, x2, x3⟩ := stp 0 M F (fu + 1) (by omega) h
    refine ⟨M1, ?_, x2, x3⟩
    rw [x1, e_PR_type_3, r_if_t (show nI (8 * 0) + (-8) < 0 by decide)]; rfl
  | succ d ih =>
    intro fu M F h1 h2 h
    obtain ⟨fu, rfl⟩ : ∃ g, fu = g + 1 := ⟨fu - 1, by omega⟩
    obtain ⟨M1, x1, x2, x3, x4⟩ := stp (d + 1) M F fu (by omega) h
    obtain ⟨M2, y1, y2, y3, y4⟩ := ih fu M1 _ (by omega) (by omega) x2
    refine ⟨M2, ?_, y2, y3.trans x3, fun b n2 n3 => (y4 b n2 n3).trans (x4 b n2 n3)⟩
    rw [x1, show nI (8 * (d + 1)) + (-8) = nI (8 * d) from by
      rw [show 8 * (d + 1) = 8 * d + 8 by omega, ← nI_add, Int32.add_assoc, show nI 8 + (-8) = (0 : Int32) by decide, Int32.add_zero]]
    exact y1
theorem s_type {x : Int64} (hN : 2001 ≤ N) (h : CI z M f n pk ch pr) : ∃ M', (f_PR_type N z x).1 M = some ((), M') ∧ CI z M' (tyS (f, n) x).1 (tyS (f, n) x).2 pk ch pr ∧ cfr z M n M' (tyS (f, n) x).2 := by
  obtain ⟨M1, x1, x2, x3, x4⟩ := s_type_loop (N := N) (x := x) 7 N M (f, n) (by omega) (by omega) h
  have hl := tyB_le (x := x) 7 (f, n)
  refine ⟨M1, x1, x2, by rw [x3]; exact Nat.le_refl _, ?_, ?_, fun b hb _ => x4 b (by omega) (by omega)⟩
  · show M1.2.1 + 8 * (tyB x (f, n) 7).2 ≤ _
    rw [x3]
    have : (tyB x (f, n) 7).2 ≤ n + 8 := hl
    omega
  · show M1.2.2 + 100 * (tyB x (f, n) 7).2 ≤ _
    rw [x3]
    have : (tyB x (f, n) 7).2 ≤ n + 8 := hl
    omega
theorem pfr.rf : pfr z M M := ⟨rfl, fun _ _ _ => rfl⟩
theorem pfr.tr (h : pfr z M M') (g : pfr z M' M'') : pfr z M M'' := ⟨g.1.trans h.1, fun b a c => (g.2 b a c).trans (h.2 b a c)⟩
theorem pfr.d (h : pfr z M M') : dfr (z + 43) M M' := ⟨by rw [h.1]; exact Nat.le_refl _, fun b hb _ => h.2 b (by omega) (by omega)⟩
/-- S is printed behind what was -/
def EmP (z : Nat) (M : hM) (L S : List Int32) (X : Option (Unit × hM)) : Prop := ∃ M', X = some ((), M') ∧ cPr z M' (L ++ S) ∧ pfr z M M'
theorem s_put {c : Int32} {L : List Int32} (hc : vp_nar .char c = c) (h : cPr z M L) (hl : L.length < 4181) : EmP z M L [c] ((f_Printer_put N (z + 8) c).1 M) := by
  obtain ⟨h1, h2, fp, h3, h4⟩ := h
  have i1 : ¬ (nI L.length < 0 ∨ 4181 ≤ (nI L.length).toNatClampNeg) := nI_in (by omega) (by decide)
  have c1 := nI_clamp (n := L.length) (by omega)
  refine ⟨hm_up (hm_up M (z + 9) (.inl (0, 4181, .inl (va_up fp L.length c)))) (z + 8) (.inr (5, [.ref (z + 9), .int (nI (L.length + 1))])), ?_, ⟨?_, ?_, va_up fp L.length c, (up_n (by omega)).trans up_s, fun i x hx => ?_⟩, rfl, fun b n8 n9 => (up_n n8).trans (up_n n9)⟩
  · rw [e_Printer_put]
    refine (r_getI h1 rfl).trans ((r_getR (r := some (z + 9)) h1 rfl).trans (r_nn.trans ((r_len h3).trans ?_)))
    dsimp only
    rw [r_if_f (show ¬ nI 4181 ≤ nI L.length from nI_ge hl (by omega))]
    refine (r_getR (r := some (z + 9)) h1 rfl).trans ((r_getI h1 rfl).trans (r_nn.trans ((r_ast h3 i1).trans ?_)))
    rw [c1, upd_va, hc]
    refine (r_getI ((up_n (by omega)).trans h1) rfl).trans ((r_put ((up_n (by omega)).trans h1) (Nat.le_of_ble_eq_true rfl)).trans ?_)
    rw [nI_1]; rfl
  · rw [List.length_append]; exact up_s
  · rw [List.length_append]; exact hl
  · rcases app_get hx with d | ⟨d1, d2⟩
    · have := (List.getElem?_eq_some_iff.mp d).1
      rw [ua_n (by omega)]; exact h4 i x d
    · rw [d1, d2, ua_s]
end CTY
