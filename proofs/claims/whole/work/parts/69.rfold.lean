/-! LAYER 2: the reference's fold -/
def fdR (f : Nat → Int32) (n : Nat) : Nat ⊕ List Int32 := match nmR f n 0 with
  | .inl w => .inl w
  | .inr (b, e) => if n ≤ sp f n e then .inr (fold (wd f b e)) else .inl (sp f n e)
section RFOLD
variable {N : Nat} {M : hM} {m p : Nat} {s s' s'' : rS} {f : Nat → Int32} {n : Nat} {pk : List aPk} {ch : List (Nat × Nat)} {pr : List Int32}
/-- the folded signs are small -/
theorem fd_small : ∀ (w : List Int32) (b : Bool), (∀ c, c ∈ w → ∃ j : Nat, j < 128 ∧ c = nI j) → ∀ c, c ∈ fd b w → ∃ j : Nat, j < 128 ∧ c = nI j
  | [], b, _, c, h => by unfold fd at h; cases h
  | x :: t, b, hw, c, h => by
    have ht : ∀ c, c ∈ t → ∃ j : Nat, j < 128 ∧ c = nI j := fun c hc => hw c (List.mem_cons_of_mem _ hc)
    unfold fd at h
    split at h
    · split at h
      · exact fd_small t true ht c h
      · rcases List.mem_cons.mp h with e | e
        · exact ⟨45, by decide, e⟩
        · exact fd_small t true ht c e
    · rcases List.mem_cons.mp h with e | e
      · obtain ⟨j, hj, ej⟩ := hw x (List.mem_cons_self)
        rw [e, ej]
        have : ∀ b : Fin 128, ∃ j : Fin 128, lw (nI b.val) = nI j.val := by decide +kernel
        obtain ⟨k, hk⟩ := this ⟨j, hj⟩
        exact ⟨k.val, k.isLt, hk⟩
      · exact fd_small t false ht c e
theorem sx_small {c : Int32} (h : ∃ j : Nat, j < 128 ∧ c = nI j) : sx c = c := by
  obtain ⟨j, hj, e⟩ := h
  rw [e]
  have : ∀ b : Fin 128, sx (nI b.val) = nI b.val := by decide +kernel
  exact this ⟨j, hj⟩
theorem mem_getD {l : List Int32} {j : Nat} (h : j < l.length) : l.getD j 0 ∈ l := by
  rw [List.getD_eq_getElem?_getD, List.getElem?_eq_getElem h]; exact List.getElem_mem h
theorem m_fold88 {l : List Int32} (hl : l.length ≤ 20) (hsm : ∀ c, c ∈ l → ∃ j : Nat, j < 128 ∧ c = nI j) (h1 : ∀ j, j < l.length → s.2.2.1 23 j = l.getD j 0) (h43 : s.1 43 = nI l.length) : ∀ (d fu i : Nat), d + i = l.length → d < fu →
    (f_MD_fold_88 N m fu (nI i)).1 (ov M m (s.1, s.2.1, va_up s.2.2.1 28 (cpA (s.2.2.1 28) 0 i (fun j => l.getD j 0)), s.2.2.2)) = some (nI l.length, ov M m (s.1, s.2.1, va_up s.2.2.1 28 (cpA (s.2.2.1 28) 0 l.length (fun j => l.getD j 0)), s.2.2.2)) := by
  intro d
  induction d with
  | zero =>
    intro fu i hd hfu
    obtain ⟨fu, rfl⟩ : ∃ g, fu = g + 1 := ⟨fu - 1, by omega⟩
    rw [e_MD_fold_88]
    simp only [mI_43, h43, show nI l.length ≤ nI i from nI_le (by omega) (by omega), if_true, r_ret]
    rw [show i = l.length by omega]
  | succ d ih =>
    intro fu i hd hfu
    obtain ⟨fu, rfl⟩ : ∃ g, fu = g + 1 := ⟨fu - 1, by omega⟩
    have i1 : ¬ (nI i < 0 ∨ 20 ≤ (nI i).toNatClampNeg) := nI_in (by omega) (by decide)
    have i2 : ¬ (nI i < 0 ∨ 60000 ≤ (nI i).toNatClampNeg) := nI_in (by omega) (by decide)
    have c1 := nI_clamp (n := i) (by omega)
    have e1 : va_up s.2.2.1 28 (cpA (s.2.2.1 28) 0 i (fun j => l.getD j 0)) 23 i = l.getD i 0 := h1 i (by omega)
    have e2 : vp_nar .byte (l.getD i 0) = l.getD i 0 := nar_byte.trans (sx_small (hsm _ (mem_getD (by omega))))
    have e3 := cpA_s (A := s.2.2.1 28) (g := fun j => l.getD j 0) (b := 0) (L := i)
    rw [Nat.zero_add] at e3
    rw [e_MD_fold_88]
    simp only [mI_43, h43, show ¬ nI l.length ≤ nI i from nI_ge (by omega) (by omega), if_false, mR_44, mR_37, r_nn, mA_23 i1, c1, e1, e2, mS_28 i2, ua_s, ua_ua, nI_1]
    rw [show va_up (cpA (s.2.2.1 28) 0 i (fun j => l.getD j 0)) i (l.getD i 0) = cpA (s.2.2.1 28) 0 (i + 1) (fun j => l.getD j 0) from e3]
    exact ih fu (i + 1) (by omega) (by omega)
theorem kp.h {pp : Nat} (h : kp s s') : krh pp s s' := h.q.r.h
theorem m_foldC (hN : 3000 ≤ N) (h : RInv s f n pk ch pr) : match fdR f n with
    | .inl w => ∃ s', (f_MD_fold N m).1 (ov M m s) = some (wr w, ov M m s') ∧ RInv s' f 0 pk ch pr
    | .inr l => ∃ s', (f_MD_fold N m).1 (ov M m s) = some (nI l.length, ov M m s') ∧ RInv s' f 0 pk ch l := by
  have hI := h
  have hn := h.1.2.1
  have h8 := h.1.2.2.1
  have hN2 : 2001 ≤ N := by omega
  have k0 : krh pk.length s (va_up (va_up (va_up s.1 0 0) 4 0) 7 0, s.2) := ⟨⟨rfl, rfl, rfl, rfl⟩, fun _ _ _ => rfl, fun _ _ _ => rfl⟩
  have S0 : tS (va_up (va_up (va_up s.1 0 0) 4 0) 7 0, s.2) f n := h.1
  obtain ⟨s1, r1, r2, r3, r4, r5⟩ := m_nextK (N := N) (M := M) (m := m) (s := (va_up (va_up (va_up s.1 0 0) 4 0) 7 0, s.2)) (k := 0) hN2 S0 rfl (by omega)
  have w7 : s1.1 7 = 0 := r4
  have hT := m_takeName (N := N) (M := M) (m := m) hN2 r2.w w7
  -- the end
  let Tail : Int32 → Int32 → hX Int32 := fun x1 x2 => b_put m 1 2 (.int 0) (b_is m 1 (b_call (f_MD_isWrong N m) (fun v8 => (if v8 = 0 then b_getR m 1 1 (fun r12 => b_getR m 1 37 (fun r13 => b_call (f_MD_folded N r12 x1 x2 r13) (fun v14 => b_put m 1 43 (.int v14) (f_MD_fold_88 N m N 0)))) else b_getI m 1 7 (fun v17 => b_ret v17)))))
  have tw' : ∀ (s2 : rS) (w : Nat) (x1 x2 : Int32), s2.1 7 = wr w → w ≤ 2000 → krh pk.length s s2 → ∃ s', (Tail x1 x2).1 (ov M m s2) = some (wr w, ov M m s') ∧ RInv s' f 0 pk ch pr := by
    intro s2 w x1 x2 e1 hw g
    have hw' : ¬ va_up s2.1 2 0 7 = 0 := wNe (s := s2) e1 hw
    have hw2 : va_up s2.1 2 0 7 = wr w := e1
    refine ⟨(va_up s2.1 2 (nI 0), s2.2), ?_, hI.h g (by omega)⟩
    show (b_put m 1 2 (.int 0) _).1 _ = _
    simp only [mP_2, mI_is, r_callE, m_isWrong, hw', not_false_eq_true, Option.bind_some, bI, if_true, show ¬ (1 : Int32) = 0 by decide, if_false, mI_7, r_ret]
    rw [hw2]; rfl
  have go : (f_MD_fold N m).1 (ov M m s) = ((f_MD_takeName N m).1 (ov M m s1)).bind (fun Z => (b_getI m 1 45 (fun v26 => b_is m 1 (b_call (f_MD_isWrong N m) (fun v27 => (if v27 = 0 then b_getI m 1 5 (fun v31 => (if v31 = (-1) then Tail Z.1 v26 else b_getI m 1 3 (fun v32 => b_is m 1 (b_call (f_MD_fail N m v32) (fun _ => Tail Z.1 v26))))) else Tail Z.1 v26))))).1 Z.2) := by
    rw [e_MD_fold, r_let]
    refine mP_0.trans (mP_4.trans (mP_7.trans ((mI_is.trans r_callE).trans ?_)))
    rw [r1, Option.bind_some]
    refine (mI_is.trans r_callE).trans ?_
    rfl
  rw [go]
  unfold fdR
  cases hr : nmR f n 0 with
  | inl w =>
    rw [hr] at hT
    obtain ⟨s2, v, u1, u2, u3⟩ := hT
    have hw := nmR_le (Nat.zero_le n) hr
    have hw' := wNe u3 (by omega)
    dsimp only
    obtain ⟨s3, x1, x2⟩ := tw' s2 w v (s2.1 45) u3 (by omega) (k0.tr (r3.tr u2).h)
    refine ⟨s3, ?_, x2⟩
    rw [u1, Option.bind_some, mI_45, mI_is, r_callE, m_isWrong, Option.bind_some, bI_t (show ¬ s2.1 7 = 0 from hw'), r_if_f (show ¬ (1 : Int32) = 0 by decide)]
    exact x1
  | inr be =>
    obtain ⟨b, e⟩ := be
    rw [hr] at hT
    obtain ⟨s2, u1, u2, u3, u4, u5⟩ := hT
    obtain ⟨_, _, g1, g2, g3, g4, _⟩ := nmR_in hr
    dsimp only
    have hE := tw_E (f := f) (n := n) (q := sp f n e) h8
    have hse := sp_le (f := f) g3
    rw [u1, Option.bind_some, mI_45, mI_is, r_callE, m_isWrong, Option.bind_some, bI_f (show ¬ ¬ s2.1 7 = 0 from fun z => z u4), r_if_t rfl, mI_5, u2.2.2.2.1, u5]
    by_cases c : n ≤ sp f n e
    · rw [r_if_t (hE.mpr c), if_pos c]
      dsimp only
      have hwf := nmR_wf h8 hr
      have hA : nAt M m (va_up s2.1 2 0, s2.2) 1 b (wd f b e) := by
        refine ⟨2000, by decide, ld_1, by omega, fun j hj => ?_, hwf.1, by decide, by decide⟩
        show s2.2.2.1 1 (b + j) = _
        rw [u2.1.2.2.2]
        have e' := hwf.2.2.1 j hj
        have hc := (hwf.1.2.1 _ (mem_getD hj)).1
        rw [← e'] at hc ⊢
        refine sx_id h8 ?_
        rcases hc with z | z | z
        · exact Or.inl z
        · exact Or.inr (Or.inl z)
        · exact Or.inr (Or.inr (Or.inl z))
      obtain ⟨A, a1, a2⟩ := m_folded (N := N) (M := M) (m := m) (dj := 23) hN2 hA (Or.inl rfl)
      rw [wd_len] at a1
      have hfl : (fold (wd f b e)).length ≤ 20 := Nat.le_trans (fd_len _ _) hwf.1.1
      have hsm := fd_small (wd f b e) false (fun c hc => (hwf.1.2.1 c hc).2)
      have h88 := m_fold88 (N := N) (M := M) (m := m) (s := (va_up (va_up s2.1 2 0) 43 (nI (fold (wd f b e)).length), s2.2.1, va_up s2.2.2.1 23 A, s2.2.2.2)) (l := fold (wd f b e)) hfl hsm (fun j hj => a2 j hj) rfl (fold (wd f b e)).length N 0 (by omega) (by omega)
      rw [cpA_0, ua_self rfl] at h88
      have h7 : va_up s2.1 2 0 7 = 0 := u4
      refine ⟨(va_up (va_up s2.1 2 0) 43 (nI (fold (wd f b e)).length), s2.2.1, va_up (va_up s2.2.2.1 23 A) 28 (cpA (va_up s2.2.2.1 23 A 28) 0 (fold (wd f b e)).length (fun j => (fold (wd f b e)).getD j 0)), s2.2.2.2), ?_, ?_⟩
      · show (b_put m 1 2 (.int 0) _).1 _ = _
        simp only [mP_2, mI_is, r_callE, m_isWrong, h7, not_true_eq_false, Option.bind_some, bI, if_false, if_true, mR_1, mR_37, a1, mP_43]
        exact h88
      · have hI2 := hI.h (n' := 0) (k0.tr (r3.tr u3).h) (by omega)
        obtain ⟨b1, b2, b3, b4, b5, b6, b7⟩ := hI2
        have hks : ks (va_up s2.1 2 (nI 0), s2.2) (va_up s2.1 2 (nI 0), s2.2.1, va_up s2.2.2.1 23 A, s2.2.2.2) := ⟨rfl, rfl, rfl, fun j x _ => ua_n x⟩
        refine ⟨b1, b2, b3, b4, fun q P hP => (show RPk (va_up s2.1 2 (nI 0), s2.2.1, va_up s2.2.2.1 23 A, s2.2.2.2) q P from (b5 q P hP).k hks), b6, rfl, by omega, fun i c hc => ?_⟩
        have hi := (List.getElem?_eq_some_iff.mp hc).1
        show cpA _ 0 (fold (wd f b e)).length (fun j => (fold (wd f b e)).getD j 0) i = c
        have := cpA_in (A := va_up s2.2.2.1 23 A 28) (g := fun j => (fold (wd f b e)).getD j 0) (b := 0) hi
        rw [Nat.zero_add] at this
        refine this.trans ?_
        rw [List.getD_eq_getElem?_getD, hc]; rfl
    · rw [r_if_f (fun z => c (hE.mp z)), if_neg c]
      dsimp only
      obtain ⟨s3, x1, x2⟩ := tw' (va_up s2.1 7 (wr (sp f n e)), s2.2) (sp f n e) (nI b) (nI (e - b)) rfl (by omega) ((k0.tr (r3.tr u3).h).tr (kp_up (j := 7) (x := wr (sp f n e)) (Or.inl (by omega))).h)
      refine ⟨s3, ?_, x2⟩
      rw [mI_3, u2.2.2.1, mI_is, r_callE, m_fail0 u4, Option.bind_some]
      exact x1
end RFOLD
