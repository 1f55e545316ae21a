/-! LAYER 2: a call of the law: both answer the same, both hold the same -/
def LI (z k : Nat) (M : hM) : Prop := ∃ (s : rS) (f : Nat → Int32) (n : Nat) (pk : List aPk) (ch : List (Nat × Nat)) (pr : List Int32), M = ov M (z + 14) s ∧ CI z M f n pk ch pr ∧ RInv s f n pk ch pr ∧ M.2.1 + 8 * n ≤ z + 43 + 64 * k ∧ M.2.2 + 100 * n ≤ 672785 + 800 * k
def OpI (z : Nat) {α : Type} (fc fr : hX α) : Prop := ∀ k M, LI z k M → ∃ a M1 M2, fc.1 M = some (a, M1) ∧ fr.1 M1 = some (a, M2) ∧ (∃ o, M.1 z = some (.inr (0, o))) ∧ (∃ o, M1.1 (z + 14) = some (.inr (1, o))) ∧ LI z (k + 1) M2
section LAWOP
variable {N z : Nat} {M M' : hM} {f f' : Nat → Int32} {n n' : Nat} {pk pk' : List aPk} {ch ch' : List (Nat × Nat)} {pr pr' : List Int32} {s : rS} {α : Type}
theorem LI_0 : LI z 0 (lmem z (cell14 z ++ ref29 z) 672785) := by
  refine ⟨ref0, fun _ => 0, 0, [], [], [], ov_made, CI_0, RInv_0, ?_, ?_⟩
  · show z + 43 + 8 * 0 ≤ z + 43 + 64 * 0
    exact Nat.le_refl _
  · show 672785 + 100 * 0 ≤ 672785 + 800 * 0
    decide
theorem cfr_rf : cfr z M n M n := ⟨Nat.le_refl _, by omega, by omega, fun _ _ _ => rfl⟩
theorem sl_b {a b i j k c : Nat} (h : a + 100 * i ≤ b + 100 * j + 800) (g : b + 100 * j ≤ c + 800 * k) : a + 100 * i ≤ c + 800 * (k + 1) :=
  Nat.le_trans h (Nat.le_trans (Nat.add_le_add_right g 800) (Nat.le_of_eq (by rw [Nat.mul_succ, Nat.add_assoc])))
theorem op_of {fc fr : hX α} {a : α} {k : Nat} (e : M = ov M (z + 14) s) (hC : CI z M f n pk ch pr) (b1 : M.2.1 + 8 * n ≤ z + 43 + 64 * k) (b2 : M.2.2 + 100 * n ≤ 672785 + 800 * k)
    (h1 : ∃ M', fc.1 M = some (a, M') ∧ CI z M' f' n' pk' ch' pr' ∧ cfr z M n M' n') (h2 : ∀ B : hM, ∃ s', fr.1 (ov B (z + 14) s) = some (a, ov B (z + 14) s') ∧ RInv s' f' n' pk' ch' pr') :
    ∃ a M1 M2, fc.1 M = some (a, M1) ∧ fr.1 M1 = some (a, M2) ∧ (∃ o, M.1 z = some (.inr (0, o))) ∧ (∃ o, M1.1 (z + 14) = some (.inr (1, o))) ∧ LI z (k + 1) M2 := by
  obtain ⟨M', c1, c2, g1, g2, g3, g4⟩ := h1
  have ea : ∀ i, i < 29 → M'.1 (z + 14 + i) = some (rC (z + 14) s i) := fun i hi => by
    rw [g4 (z + 14 + i) (by omega) (by omega), e]
    exact ov_at hi
  have e' : M' = ov M' (z + 14) s := ov_self ea
  obtain ⟨s', r1, r2⟩ := h2 M'
  refine ⟨a, M', ov M' (z + 14) s', c1, (congrArg fr.1 e').trans r1, ?_, ⟨_, ea 0 (by decide)⟩, s', f', n', pk', ch', pr', ov_self (fun i hi => ov_at hi), c2.fr (Nat.le_refl _) (fun b _ hb => ov_out (by omega)), r2, ?_, ?_⟩
  · obtain ⟨tf, h, _⟩ := hC
    exact ⟨_, h⟩
  · show M'.2.1 + 8 * n' ≤ _
    omega
  · exact sl_b g3 b2
theorem pkOf_mem {x : Int32} {P : aPk} (h : pkOf pk x = some P) : P ∈ pk := by
  unfold pkOf at h
  split at h
  · cases h
  · exact List.mem_of_getElem? h
theorem CI.ok (h : CI z M f n pk ch pr) {P : aPk} (hP : P ∈ pk) : okP P := by
  obtain ⟨tf, _, _, _, ⟨_, gp, _, h3⟩, _⟩ := h
  obtain ⟨q, hq, e⟩ := List.getElem_of_mem hP
  exact (h3 q P (by rw [List.getElem?_eq_getElem hq, e])).1
theorem o_type {x : Int64} (hN : 3000 ≤ N) : OpI z (f_PR_type N z x) (f_MD_type N (z + 14) x) := fun k M ⟨s, f, n, pk, ch, pr, e, hC, hR, b1, b2⟩ =>
  op_of e hC b1 b2 (s_type (by omega) hC) (fun _ => m_type (by omega) hR)
theorem o_read (hN : 3000 ≤ N) : OpI z (f_PR_read N z) (f_MD_read N (z + 14)) := fun k M ⟨s, f, n, pk, ch, pr, e, hC, hR, b1, b2⟩ => by
  have h8 := hR.1.2.2.1
  have hn := hR.1.2.1
  have hs := s_read (N := N) (by omega) hC (tx_fits h8 hn)
  have hm := fun B : hM => m_read (N := N) (M := B) (m := z + 14) hN hR
  cases hp : pTx f n with
  | inl w =>
    rw [hp] at hs
    exact op_of e hC b1 b2 hs (fun B => by have := hm B; rw [hp] at this; exact this)
  | inr x =>
    obtain ⟨nm, v, st⟩ := x
    rw [hp] at hs
    dsimp only at hs
    by_cases c : pk.length = 40
    · rw [if_pos c] at hs
      exact op_of e hC b1 b2 hs (fun B => by have := hm B; rw [hp] at this; dsimp only at this; rw [if_pos c] at this; exact this)
    · rw [if_neg c] at hs
      exact op_of e hC b1 b2 hs (fun B => by have := hm B; rw [hp] at this; dsimp only at this; rw [if_neg c] at this; exact this)
theorem o_fold (hN : 3000 ≤ N) : OpI z (f_PR_fold N z) (f_MD_fold N (z + 14)) := fun k M ⟨s, f, n, pk, ch, pr, e, hC, hR, b1, b2⟩ => by
  have hs := s_fold (N := N) (by omega) hC
  have hm := fun B : hM => m_foldC (N := N) (M := B) (m := z + 14) hN hR
  cases hp : fdR f n with
  | inl w =>
    rw [hp] at hs
    exact op_of e hC b1 b2 hs (fun B => by have := hm B; rw [hp] at this; exact this)
  | inr x =>
    rw [hp] at hs
    exact op_of e hC b1 b2 hs (fun B => by have := hm B; rw [hp] at this; exact this)
theorem o_rows {x : Int32} : OpI z (f_PR_rows N z x) (f_MD_rows N (z + 14) x) := fun k M ⟨s, f, n, pk, ch, pr, e, hC, hR, b1, b2⟩ => op_of e hC b1 b2 ⟨M, s_rows hC, hC, cfr_rf⟩ (fun _ => m_rows hR)
theorem o_row {x i w : Int32} (hN : 3000 ≤ N) : OpI z (f_PR_row N z x i w) (f_MD_row N (z + 14) x i w) := fun k M ⟨s, f, n, pk, ch, pr, e, hC, hR, b1, b2⟩ => op_of e hC b1 b2 ⟨M, s_row hC, hC, cfr_rf⟩ (fun _ => m_row (by omega) hR)
theorem o_letter {x i w y : Int32} (hN : 3000 ≤ N) : OpI z (f_PR_letter N z x i w y) (f_MD_letter N (z + 14) x i w y) := fun k M ⟨s, f, n, pk, ch, pr, e, hC, hR, b1, b2⟩ => op_of e hC b1 b2 ⟨M, s_letter hC, hC, cfr_rf⟩ (fun _ => m_letter (by omega) hR)
theorem o_low {x i : Int32} : OpI z (f_PR_low N z x i) (f_MD_low N (z + 14) x i) := fun k M ⟨s, f, n, pk, ch, pr, e, hC, hR, b1, b2⟩ => op_of e hC b1 b2 ⟨M, s_low hC, hC, cfr_rf⟩ (fun _ => m_low hR)
theorem o_high {x i : Int32} : OpI z (f_PR_high N z x i) (f_MD_high N (z + 14) x i) := fun k M ⟨s, f, n, pk, ch, pr, e, hC, hR, b1, b2⟩ => op_of e hC b1 b2 ⟨M, s_high hC, hC, cfr_rf⟩ (fun _ => m_high hR)
theorem o_check {x : Int32} (hN : 3000 ≤ N) : OpI z (f_PR_check N z x) (f_MD_check N (z + 14) x) := fun k M ⟨s, f, n, pk, ch, pr, e, hC, hR, b1, b2⟩ => op_of e hC b1 b2 ⟨M, s_check (by omega) hC, hC, cfr_rf⟩ (fun _ => m_check (by omega) hR)
theorem o_change {x i : Int32} : OpI z (f_PR_change N z x i) (f_MD_change N (z + 14) x i) := fun k M ⟨s, f, n, pk, ch, pr, e, hC, hR, b1, b2⟩ => op_of e hC b1 b2 ⟨M, s_change hC, hC, cfr_rf⟩ (fun _ => m_change hR)
theorem o_at {x : Int32} : OpI z (f_PR_at N z x) (f_MD_at N (z + 14) x) := fun k M ⟨s, f, n, pk, ch, pr, e, hC, hR, b1, b2⟩ => op_of e hC b1 b2 ⟨M, s_at hC, hC, cfr_rf⟩ (fun _ => m_at hR)
theorem o_same {x y : Int32} (hN : 3000 ≤ N) : OpI z (f_PR_same N z x y) (f_MD_same N (z + 14) x y) := fun k M ⟨s, f, n, pk, ch, pr, e, hC, hR, b1, b2⟩ => op_of e hC b1 b2 (s_same (by omega) hC) (fun _ => m_same (by omega) (fun P hP => by
  have := (hC.ok hP).1.2.2.2.2.2
  have p : (10 : Nat) ^ 18 = 1000000000000000000 := by decide
  omega) hR)
theorem o_differ {x y : Int32} (hN : 3000 ≤ N) : OpI z (f_PR_differ N z x y) (f_MD_differ N (z + 14) x y) := fun k M ⟨s, f, n, pk, ch, pr, e, hC, hR, b1, b2⟩ => by
  have hs := s_differ (N := N) (x := x) (y := y) (by omega) hC
  have hm := fun B : hM => m_differ (N := N) (M := B) (m := z + 14) (x := x) (y := y) (by omega) hR
  cases hp : pkOf pk x with
  | none =>
    rw [hp] at hs
    exact op_of e hC b1 b2 hs (fun B => by have := hm B; rw [hp] at this; exact this)
  | some A =>
    rw [hp] at hs
    dsimp only at hs
    cases hq : pkOf pk y with
    | none =>
      rw [hq] at hs
      exact op_of e hC b1 b2 hs (fun B => by have := hm B; rw [hp] at this; dsimp only at this; rw [hq] at this; exact this)
    | some B =>
      rw [hq] at hs
      exact op_of e hC b1 b2 hs (fun B => by have := hm B; rw [hp] at this; dsimp only at this; rw [hq] at this; exact this)
theorem o_print {x : Int32} (hN : 3000 ≤ N) : OpI z (f_PR_print N z x) (f_MD_print N (z + 14) x) := fun k M ⟨s, f, n, pk, ch, pr, e, hC, hR, b1, b2⟩ => by
  have hs := s_print (N := N) (x := x) (by omega) hC
  have hm := fun B : hM => m_print (N := N) (M := B) (m := z + 14) (x := x) (by omega) hR (fun P hP => by
    obtain ⟨⟨_, _, _, _, w1, w2⟩, _, w3⟩ := hC.ok hP
    exact ⟨w1, w2, by omega⟩)
  cases hp : pkOf pk x with
  | none =>
    rw [hp] at hs
    exact op_of e hC b1 b2 hs (fun B => by have := hm B; rw [hp] at this; exact this)
  | some A =>
    rw [hp] at hs
    exact op_of e hC b1 b2 hs (fun B => by have := hm B; rw [hp] at this; exact this)
end LAWOP
