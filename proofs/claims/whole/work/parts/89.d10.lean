/-! LAYER 2: the class makes a package -/
noncomputable def yW (P : aPk) (j : Nat) : Int32 := match P.2.2.2[j]? with
  | some x => whyR P x
  | none => 0
def fAr (t n : Nat) (g : Nat → Option Nat) : va_E := .inl (t, n, .inr (.inr (.inr (.inr g))))
def cpR (g : Nat → Option Nat) (i : Nat) : Nat → Option Nat := fun j => if j < i then g j else none
section CMK
variable {N D z L : Nat} {M M' M'' : hM} {a : Nat} {P : aPk} {u u' : Nat → Int32} {gr : Nat → Option Nat}
theorem pkG.uu (h : pkG D M a P u gr) (e : ∀ i, i < P.2.2.2.length → u' i = u i) : pkG D M a P u' gr := by
  obtain ⟨h0, nb, fa, ra, gf, h1, h2, h3, h4, h5, h6, h7, h8, h9⟩ := h
  refine ⟨h0, nb, fa, ra, gf, h1, h2, h3, h4, h5, h6, h7, fun i x hx => ?_, h9⟩
  rw [e i (List.getElem?_eq_some_iff.mp hx).1]; exact h8 i x hx
theorem pkG.up {b i : Nat} {x : aR} {y : Int32} {fs : List Value} (h : pkG D M a P u gr) (hb : gr i = some b) (hx : P.2.2.2[i]? = some x) (hc : M.1 b = some (.inr (7, fs))) (hf : fs.length = 8) : pkG D (hm_up M b (.inr (7, fs.set 7 (.int y)))) a P (va_up u i y) gr := by
  obtain ⟨h0, nb, fa, ra, gf, h1, h2, h3, h4, h5, h6, h7, h8, h9⟩ := h
  have hi := (List.getElem?_eq_some_iff.mp hx).1
  have na : a ≠ b := fun z => by rw [z, hc] at h1; cases h1
  have nf : fa ≠ b := fun z => by rw [z, hc] at h4; cases h4
  have nr : ra ≠ b := fun z => by rw [z, hc] at h7; cases h7
  refine ⟨h0, nb, fa, ra, gf, (up_n na).trans h1, nmA_ne hc h2, h3, (up_n nf).trans h4, fun j w hw => ?_, h6, (up_n nr).trans h7, fun j w hw => ?_, h9⟩
  · obtain ⟨c, c1, c2, c3⟩ := h5 j w hw
    exact ⟨c, c1, nmA_ne hc c2, c3⟩
  · obtain ⟨c, c1, c2, c3⟩ := h8 j w hw
    have hj := (List.getElem?_eq_some_iff.mp hw).1
    by_cases e : j = i
    · rw [e, ua_s]
      rw [e] at c1 hw c2
      rw [hb] at c1; cases c1
      rw [hx] at hw; cases hw
      obtain ⟨d0, nb', ob', k1, k2, k3, k4⟩ := c2
      rw [hc] at k1
      have k1' : fs = [.int (nI x.1), .int x.2.1, .ref nb', va_rf ob', .long x.2.2.2.2.1, .long x.2.2.2.2.2.1, .int (bZ x.2.2.2.2.2.2), .int (u i)] := by cases k1; rfl
      refine ⟨b, hb, ⟨d0, nb', ob', ?_, nmA_ne hc k2, k3, fun z => ?_⟩, c3⟩
      · rw [k1']; exact up_s
      · obtain ⟨q, q1, q2⟩ := k4 z
        exact ⟨q, q1, nmA_ne hc q2⟩
    · rw [ua_n e]
      exact ⟨c, c1, rwA_ne hc c2 (fun z => e (h9 j i c hj hi c1 (by rw [z]; exact hb))), c3⟩
theorem c_mark (hN : 2001 ≤ N) (hP : wfP P) (hL : ∀ i b, i < P.2.2.2.length → gr i = some b → L ≤ b) : ∀ (d fu i : Nat) (M : hM), d + i = P.2.2.2.length → d < fu → pkG D M a P (fun j => if j < i then yW P j else 0) gr →
    ∃ M', (f_Pack_markBroken_2 N a fu (nI i)).1 M = some ((), M') ∧ pkG D M' a P (yW P) gr ∧ M'.2 = M.2 ∧ ∀ b, b < L → M'.1 b = M.1 b := by
  have hl2 := hP.2.2.2.1
  intro d
  induction d with
  | zero =>
    intro fu i M h1 h2 hG
    obtain ⟨fu, rfl⟩ : ∃ g, fu = g + 1 := ⟨fu - 1, by omega⟩
    refine ⟨M, ?_, hG.uu (fun j hj => by rw [if_pos (by omega)]), rfl, fun _ _ => rfl⟩
    obtain ⟨g0, nb, fa, ra, gf, g1, g2, g3, g4, g5, g6, g7, _⟩ := hG
    rw [e_Pack_markBroken_2]
    refine (r_getR (r := some ra) g1 rfl).trans (r_nn.trans ((r_len g7).trans ?_))
    dsimp only
    rw [r_if_t (show nI P.2.2.2.length ≤ nI i from nI_le (by omega) (by omega))]; rfl
  | succ d ih =>
    intro fu i M h1 h2 hG
    obtain ⟨fu, rfl⟩ : ∃ g, fu = g + 1 := ⟨fu - 1, by omega⟩
    have hG' := hG
    obtain ⟨g0, nb, fa, ra, gf, g1, g2, g3, g4, g5, g6, g7, g8, g9⟩ := hG
    have hi : i < P.2.2.2.length := by omega
    have hget := List.getElem?_eq_getElem hi
    obtain ⟨b, b1, b2, b3⟩ := g8 i _ hget
    have i1 : ¬ (nI i < 0 ∨ P.2.2.2.length ≤ (nI i).toNatClampNeg) := nI_in (by omega) (by omega)
    have c1 := nI_clamp (n := i) (by omega)
    have hw := s_why (N := N) hN hP ⟨gr, hG'⟩ b3 b2
    obtain ⟨d0, nb', ob', k1, k2, k3, k4⟩ := b2
    have hy : yW P i = whyR P P.2.2.2[i] := by unfold yW; rw [hget]
    have hU := hG'.up (y := yW P i) b1 hget k1 rfl
    obtain ⟨M', x1, x2, x3, x4⟩ := ih fu (i + 1) _ (by omega) (by omega) (hU.uu (u' := fun j => if j < i + 1 then yW P j else 0) (fun j hj => by
      by_cases e : j = i
      · rw [e, ua_s]; exact if_pos (by omega)
      · rw [ua_n e]
        by_cases e2 : j < i
        · rw [if_pos e2]; exact if_pos (by omega)
        · rw [if_neg e2]; exact if_neg (by omega)))
    refine ⟨M', ?_, x2, x3, fun c hc => (x4 c hc).trans (up_n (by have := hL i b hi b1; omega))⟩
    rw [e_Pack_markBroken_2]
    refine (r_getR (r := some ra) g1 rfl).trans (r_nn.trans ((r_len g7).trans ?_))
    dsimp only
    rw [r_if_f (show ¬ nI P.2.2.2.length ≤ nI i from nI_ge (by omega) (by omega))]
    refine (r_getR (r := some ra) g1 rfl).trans (r_nn.trans ((r_aldR g7 i1).trans ?_))
    refine (r_getR (r := some ra) g1 rfl).trans (r_nn.trans ((r_aldR g7 i1).trans ((r_is g1).trans (r_callE.trans ?_))))
    rw [c1, b1, hw, Option.bind_some]
    dsimp only
    rw [r_nn, ← hy]
    refine (r_put k1 (Nat.le_of_ble_eq_true rfl)).trans ?_
    rw [nI_1]
    exact x1
theorem cpR_0 {g : Nat → Option Nat} : cpR g 0 = fun _ => none := by
  funext j; unfold cpR; exact if_neg (by omega)
theorem cpR_s {g : Nat → Option Nat} {i : Nat} : va_up (cpR g i) i (g i) = cpR g (i + 1) := by
  funext j; unfold cpR
  by_cases e : j = i
  · rw [e, ua_s, if_pos (by omega)]
  · rw [ua_n e]
    by_cases e2 : j < i
    · rw [if_pos e2, if_pos (by omega)]
    · rw [if_neg e2, if_neg (by omega)]
theorem c_cpF {X : hM} {A n : Nat} {g2 : Nat → Option Nat} {rc trp stv : Int32} {nm : Option Nat} {ver : Int64} (hn : n ≤ 181) (h1 : X.1 (z + 1) = some (rdC z rc (nI n) nm ver trp stv)) (h6 : X.1 (z + 6) = some (.inl (3, 181, .inr (.inr (.inr (.inr g2)))))) (n1 : A ≠ z + 1) (n6 : A ≠ z + 6) (hg : ∀ i, i < n → ∃ c fs, g2 i = some c ∧ X.1 c = some (.inr (2, fs)) ∧ c ≠ A) : ∀ (d fu i : Nat), d + i = n → d < fu →
    (f_Reader_makePack_18 N (z + 1) fu (some A) (nI i)).1 (hm_up X A (fAr 3 n (cpR g2 i))) = (b_getI (z + 1) 6 3 (fun v17 => b_newq 1 v17 (fun q18 => f_Reader_makePack_51 N (z + 1) N (some A) (some q18) 0))).1 (hm_up X A (fAr 3 n (cpR g2 n))) := by
  intro d
  induction d with
  | zero =>
    intro fu i k1 k2
    obtain ⟨fu, rfl⟩ : ∃ g, fu = g + 1 := ⟨fu - 1, by omega⟩
    rw [e_Reader_makePack_18, show n = i by omega]
    refine (r_getI ((up_n (by omega)).trans h1) rfl).trans ?_
    rw [r_if_t (show nI n ≤ nI i from nI_le (by omega) (by omega))]
  | succ d ih =>
    intro fu i k1 k2
    obtain ⟨fu, rfl⟩ : ∃ g, fu = g + 1 := ⟨fu - 1, by omega⟩
    obtain ⟨c, fs, e1, e2, e3⟩ := hg i (by omega)
    have i1 : ¬ (nI i < 0 ∨ 181 ≤ (nI i).toNatClampNeg) := nI_in (by omega) (by decide)
    have i2 : ¬ (nI i < 0 ∨ n ≤ (nI i).toNatClampNeg) := nI_in (by omega) (by omega)
    have c1 := nI_clamp (n := i) (by omega)
    have A4 : ∀ g, (hm_up X A (fAr 3 n g)).1 A = some (.inl (3, n, .inr (.inr (.inr (.inr g))))) := fun g => up_s
    rw [e_Reader_makePack_18]
    refine (r_getI ((up_n (by omega)).trans h1) rfl).trans ?_
    rw [r_if_f (show ¬ nI n ≤ nI i from nI_ge (by omega) (by omega))]
    refine (r_getR (r := some (z + 6)) ((up_n (by omega)).trans h1) rfl).trans (r_nn.trans ((r_aldR ((up_n (by omega)).trans h6) i1).trans ?_))
    rw [c1, e1, r_nn]
    refine (r_astR (A4 _) i2 ((up_n e3).trans e2)).trans ?_
    rw [c1, ← e1, cpR_s, nI_1, up_up]
    exact ih fu (i + 1) (by omega) (by omega)
theorem c_cpR {X : hM} {A n : Nat} {x1 : Option Nat} {g2 : Nat → Option Nat} {fc trp stv : Int32} {nm : Option Nat} {ver : Int64} (hn : n ≤ 200) (h1 : X.1 (z + 1) = some (rdC z (nI n) fc nm ver trp stv)) (h6 : X.1 (z + 4) = some (.inl (1, 200, .inr (.inr (.inr (.inr g2)))))) (n1 : A ≠ z + 1) (n6 : A ≠ z + 4) (hg : ∀ i, i < n → ∃ c fs, g2 i = some c ∧ X.1 c = some (.inr (7, fs)) ∧ c ≠ A) : ∀ (d fu i : Nat), d + i = n → d < fu →
    (f_Reader_makePack_51 N (z + 1) fu x1 (some A) (nI i)).1 (hm_up X A (fAr 1 n (cpR g2 i))) = (b_new 3 4 [.null, .long 0, .null, .null] (fun q2 => b_getR (z + 1) 6 6 (fun r3 => b_getL (z + 1) 6 7 (fun v4 => b_call (f_Pack_init N q2 r3 v4 x1 (some A)) (fun _ => b_is q2 3 (b_call (f_Pack_markBroken N q2) (fun _ => b_ret (some q2)))))))).1 (hm_up X A (fAr 1 n (cpR g2 n))) := by
  intro d
  induction d with
  | zero =>
    intro fu i k1 k2
    obtain ⟨fu, rfl⟩ : ∃ g, fu = g + 1 := ⟨fu - 1, by omega⟩
    rw [e_Reader_makePack_51, show n = i by omega]
    refine (r_getI ((up_n (by omega)).trans h1) rfl).trans ?_
    rw [r_if_t (show nI n ≤ nI i from nI_le (by omega) (by omega))]
  | succ d ih =>
    intro fu i k1 k2
    obtain ⟨fu, rfl⟩ : ∃ g, fu = g + 1 := ⟨fu - 1, by omega⟩
    obtain ⟨c, fs, e1, e2, e3⟩ := hg i (by omega)
    have i1 : ¬ (nI i < 0 ∨ 200 ≤ (nI i).toNatClampNeg) := nI_in (by omega) (by decide)
    have i2 : ¬ (nI i < 0 ∨ n ≤ (nI i).toNatClampNeg) := nI_in (by omega) (by omega)
    have c1 := nI_clamp (n := i) (by omega)
    have A4 : ∀ g, (hm_up X A (fAr 1 n g)).1 A = some (.inl (1, n, .inr (.inr (.inr (.inr g))))) := fun g => up_s
    rw [e_Reader_makePack_51]
    refine (r_getI ((up_n (by omega)).trans h1) rfl).trans ?_
    rw [r_if_f (show ¬ nI n ≤ nI i from nI_ge (by omega) (by omega))]
    refine (r_getR (r := some (z + 4)) ((up_n (by omega)).trans h1) rfl).trans (r_nn.trans ((r_aldR ((up_n (by omega)).trans h6) i1).trans ?_))
    rw [c1, e1, r_nn]
    refine (r_astR (A4 _) i2 ((up_n e3).trans e2)).trans ?_
    rw [c1, ← e1, cpR_s, nI_1, up_up]
    exact ih fu (i + 1) (by omega) (by omega)
end CMK
