/-! LAYER 2: the class makes a package of what was read -/
section CMK2
variable {N z L : Nat} {M M' M'' : hM} {f : Nat → Int32} {n : Nat} {st : aP} {trp stv : Int32}
theorem c_make {nb : Nat} {nm : List Int32} {x : Nat} (hN : 2001 ≤ N) (hX : XS f n st) (hF : st.2.1.length ≤ 181) (hB : RB z L M st trp stv (some nb) (lN x)) (hnm : nmA (z + 43) M nb nm) (hP : wfP (mkP nm x st)) :
    ∃ M' a, (f_Reader_makePack N (z + 1)).1 M = some (some a, M') ∧ pkB (z + 43) M' a (mkP nm x st) (yW (mkP nm x st)) ∧ shp z M' ∧ (∀ b, b < L → b ≠ z + 1 → b ≠ z + 4 → M'.1 b = M.1 b) ∧ M'.2.1 = M.2.1 + 3 ∧ M'.2.2 ≤ M.2.2 + 385 := by
  obtain ⟨g, h, g2, a1, a2, a3, a4, a5, a6, a7, a8⟩ := hB
  have hw := hX.2.2
  have hnf : (dsF st.2.1).length ≤ 181 := Nat.le_trans dsF_len hF
  generalize hnfe : (dsF st.2.1).length = nf at *
  have hG : RG (z + 43) L M g (gOf st) st.1.length := by
    refine ⟨fun i hi => ?_, a6⟩
    obtain ⟨b, b1, b2, b3⟩ := a5 i _ (List.getElem?_eq_getElem hi)
    have e : gOf st i = st.1[i].1 := by
      unfold gOf
      rw [List.getD_eq_getElem?_getD, List.getElem?_eq_getElem hi]; rfl
    rw [e]
    exact ⟨b, b1, b3.2, b2, (hX.1 _ (List.getElem_mem hi)).1⟩
  obtain ⟨V', s1, s2⟩ := c_sort (N := N) hN hw a1 (st.1.length - 1) N 1 g (gOf st) rfl (by omega) (by omega) hG
  have e0 : hm_up M (z + 4) (rAr g) = M := up_self a2
  rw [e0] at s1
  have fr1 : dfr (z + 43) M (hm_up M (z + 4) (rAr V')) := up4
  obtain ⟨M2, g', j1, j2, j3, j4, j5, j6⟩ := c_join (N := N) (G := srtG (st.1.length - 1) 1 (gOf st)) hN hw a8.1 st.1.length N 0 (hm_up M (z + 4) (rAr V')) V' [] (by omega) (by omega) (Nat.le_refl _) ((up_n (by omega)).trans a1) up_s trivial (fun i _ hi => by
    obtain ⟨b, b1, b2, b3, b4⟩ := s2.1 i hi
    exact ⟨b, b1, b2, b3.f fr1, b4⟩) (fun i j b hi hj gi gj => s2.2 i j b (by rcases hi with hi | hi; exact absurd hi (Nat.not_lt_zero _); exact hi.2) (by rcases hj with hj | hj; exact absurd hj (Nat.not_lt_zero _); exact hj.2) gi gj)
  have hrev : mkR st = (jnS st.1.length 0 [] (srtG (st.1.length - 1) 1 (gOf st))).reverse := rfl
  have hlen : (mkP nm x st).2.2.2.length = (jnS st.1.length 0 [] (srtG (st.1.length - 1) 1 (gOf st))).length := by
    show (mkR st).length = _
    rw [hrev, List.length_reverse]
  have hPl := hP.2.2.2.1
  rw [hlen] at hPl
  generalize jnS st.1.length 0 [] (srtG (st.1.length - 1) 1 (gOf st)) = out at *
  have s21 : M2.2 = M.2 := j6.1
  have s211 : M2.2.1 = M.2.1 := by rw [s21]
  have s212 : M2.2.2 = M.2.2 := by rw [s21]
  have m2o : ∀ b, b < L → b ≠ z + 1 → b ≠ z + 4 → M2.1 b = M.1 b := fun b hb n1 n4 => (j6.2.1 b hb n1 n4).trans (up_n n4)
  have m2n : ∀ c w, nmA (z + 43) M c w → nmA (z + 43) M2 c w := fun c w hc => j6.2.2 c w (hc.f fr1)
  have m26 : M2.1 (z + 6) = some (.inl (3, 181, .inr (.inr (.inr (.inr g2))))) := (m2o _ (by omega) (by omega) (by omega)).trans a4
  have m25 : M2.1 (z + 5) = some (.inl (2, 200, .inl h)) := (m2o _ (by omega) (by omega) (by omega)).trans a3
  have hzA : z + 43 ≤ M2.2.1 := by omega
  have nz : ¬ (nI nf < 0 ∨ 60000000 < (nI nf).toNatClampNeg) := fun z => z.elim (nI_pos (by omega)) (fun z => by rw [nI_clamp (by omega)] at z; omega)
  have cf := nI_clamp (n := nf) (by omega)
  have nz2 : ¬ (nI out.length < 0 ∨ 60000000 < (nI out.length).toNatClampNeg) := fun z => z.elim (nI_pos (by omega)) (fun z => by rw [nI_clamp (by omega)] at z; omega)
  have cf2 := nI_clamp (n := out.length) (by omega)
  -- the features' array
  generalize hX1 : hm_nw M2 (.inl (3, nf, .inr (.inr (.inr (.inr (fun _ => none)))))) nf = X1
  have x1A : X1.1 M2.2.1 = some (fAr 3 nf (cpR g2 0)) := by rw [← hX1, cpR_0]; exact nw_s
  have x1o : ∀ b, b < M2.2.1 → X1.1 b = M2.1 b := fun b hb => by rw [← hX1]; exact nw_n (by omega)
  have x1s : X1.2.1 = M2.2.1 + 1 := by rw [← hX1]; rfl
  have x1t : X1.2.2 = M2.2.2 + nf := by rw [← hX1]; rfl
  have hcF := c_cpF (N := N) (z := z) (X := X1) (A := M2.2.1) (n := nf) (g2 := g2) hnf ((x1o _ (by omega)).trans j2) ((x1o _ (by omega)).trans m26) (by omega) (by omega) (fun i hi => by
    obtain ⟨c, c1, c2, c3⟩ := a7 i _ (List.getElem?_eq_getElem (by omega))
    have c2' := m2n _ _ c2
    obtain ⟨p1, p2, q0, _, _, q1, _⟩ := c2'
    exact ⟨c, _, c1, (x1o c q0.2).trans q1, by omega⟩) nf N 0 (by omega) (by omega)
  rw [up_self x1A] at hcF
  -- the rows' array
  generalize hY0 : hm_up X1 M2.2.1 (fAr 3 nf (cpR g2 nf)) = Y0 at hcF
  have y0A : Y0.1 M2.2.1 = some (fAr 3 nf (cpR g2 nf)) := by rw [← hY0]; exact up_s
  have y0o : ∀ b, b < M2.2.1 → Y0.1 b = M2.1 b := fun b hb => by rw [← hY0]; exact (up_n (by omega)).trans (x1o b hb)
  have y0s : Y0.2.1 = M2.2.1 + 1 := by rw [← hY0]; exact x1s
  have y0t : Y0.2.2 = M2.2.2 + nf := by rw [← hY0]; exact x1t
  generalize hY1 : hm_nw Y0 (.inl (1, out.length, .inr (.inr (.inr (.inr (fun _ => none)))))) out.length = Y1
  have y1A : Y1.1 Y0.2.1 = some (fAr 1 out.length (cpR g' 0)) := by rw [← hY1, cpR_0]; exact nw_s
  have y1o : ∀ b, b < Y0.2.1 → Y1.1 b = Y0.1 b := fun b hb => by rw [← hY1]; exact nw_n (by omega)
  have y1s : Y1.2.1 = Y0.2.1 + 1 := by rw [← hY1]; rfl
  have y1t : Y1.2.2 = Y0.2.2 + out.length := by rw [← hY1]; rfl
  have y1l : ∀ b, b < M2.2.1 → Y1.1 b = M2.1 b := fun b hb => (y1o b (by omega)).trans (y0o b hb)
  have hcR := c_cpR (N := N) (z := z) (X := Y1) (A := Y0.2.1) (n := out.length) (x1 := some M2.2.1) (g2 := g') hPl ((y1l _ (by omega)).trans j2) ((y1l _ (by omega)).trans j3) (by omega) (by omega) (fun i hi => by
    have hir : i < out.reverse.length := by rw [List.length_reverse]; exact hi
    have hget : out.reverse[i]? = some out.reverse[i] := List.getElem?_eq_getElem hir
    obtain ⟨c, c1, _, c2, _⟩ := OutC_get out i _ j4 hget
    have q0 := c2.1
    obtain ⟨fs, q1⟩ := c2.cell
    exact ⟨c, fs, c1, (y1l c q0.2).trans q1, by omega⟩) out.length N 0 (by omega) (by omega)
  rw [up_self y1A] at hcR
  generalize hZ : hm_up Y1 Y0.2.1 (fAr 1 out.length (cpR g' out.length)) = Z at hcR
  have zA : Z.1 (M2.2.1 + 1) = some (fAr 1 out.length (cpR g' out.length)) := by rw [← hZ, ← y0s]; exact up_s
  have z0 : Z.1 M2.2.1 = some (fAr 3 nf (cpR g2 nf)) := by rw [← hZ]; exact (up_n (by omega)).trans ((y1o _ (by omega)).trans y0A)
  have zo : ∀ b, b < M2.2.1 → Z.1 b = M2.1 b := fun b hb => by rw [← hZ]; exact (up_n (by omega)).trans (y1l b hb)
  have zs : Z.2.1 = M2.2.1 + 2 := by rw [← hZ]; show Y1.2.1 = _; omega
  have zt : Z.2.2 = M2.2.2 + nf + out.length := by rw [← hZ]; show Y1.2.2 = _; omega
  -- the package
  generalize hW0 : hm_nw Z (.inr (3, [.null, .long 0, .null, .null])) 4 = W0
  have w0A : W0.1 Z.2.1 = some (.inr (3, [.null, .long 0, .null, .null])) := by rw [← hW0]; exact nw_s
  have w0o : ∀ b, b < Z.2.1 → W0.1 b = Z.1 b := fun b hb => by rw [← hW0]; exact nw_n (by omega)
  have w0s : W0.2.1 = Z.2.1 + 1 := by rw [← hW0]; rfl
  have w0t : W0.2.2 = Z.2.2 + 4 := by rw [← hW0]; rfl
  have ini : (f_Pack_init N Z.2.1 (some nb) (lN x) (some M2.2.1) (some Y0.2.1)).1 W0 = some ((), hm_up W0 Z.2.1 (.inr (3, [.ref nb, .long (lN x), .ref M2.2.1, .ref Y0.2.1]))) := by
    rw [e_Pack_init]
    refine (r_put w0A (Nat.le_of_ble_eq_true rfl)).trans ?_
    refine (r_put up_s (Nat.le_of_ble_eq_true rfl)).trans ?_
    rw [up_up]
    refine (r_put up_s (Nat.le_of_ble_eq_true rfl)).trans ?_
    rw [up_up]
    refine (r_put up_s (Nat.le_of_ble_eq_true rfl)).trans ?_
    rw [up_up]; rfl
  generalize hW : hm_up W0 Z.2.1 (.inr (3, [.ref nb, .long (lN x), .ref M2.2.1, .ref Y0.2.1])) = W at ini
  have wA : W.1 Z.2.1 = some (.inr (3, [.ref nb, .long (lN x), .ref M2.2.1, .ref Y0.2.1])) := by rw [← hW]; exact up_s
  have wo : ∀ b, b < Z.2.1 → W.1 b = Z.1 b := fun b hb => by rw [← hW]; exact (up_n (by omega)).trans (w0o b hb)
  have ws : W.2.1 = M2.2.1 + 3 := by rw [← hW]; show W0.2.1 = _; omega
  have wt : W.2.2 = M2.2.2 + nf + out.length + 4 := by rw [← hW]; show W0.2.2 = _; omega
  have wl : ∀ b, b < M2.2.1 → W.1 b = M2.1 b := fun b hb => (wo b (by omega)).trans (zo b hb)
  have frW : dfr (z + 43) M2 W := ⟨by omega, fun b _ hb => wl b hb⟩
  have hPG : pkG (z + 43) W Z.2.1 (mkP nm x st) (fun j => if j < 0 then yW (mkP nm x st) j else 0) (cpR g' out.length) := by
    refine ⟨⟨by omega, by omega⟩, nb, M2.2.1, Y0.2.1, cpR g2 nf, wA, (m2n _ _ hnm).f frW, ⟨hzA, show M2.2.1 < W.2.1 by omega⟩, ?_, fun i w hi => ?_, ⟨show z + 43 ≤ Y0.2.1 by omega, show Y0.2.1 < W.2.1 by omega⟩, ?_, fun i y hy => ?_, fun i j b hi hj gi gj => ?_⟩
    · rw [show (dsF (mkP nm x st).2.2.1).length = nf from hnfe]
      exact (wo _ (by omega)).trans z0
    · have hi' : i < nf := by
        have := (List.getElem?_eq_some_iff.mp hi).1
        rw [← hnfe]; exact this
      obtain ⟨c, c1, c2, c3⟩ := a7 i w hi
      exact ⟨c, by unfold cpR; rw [if_pos hi']; exact c1, (m2n _ _ c2).f frW, c3⟩
    · rw [hlen, y0s]
      exact (wo _ (by omega)).trans zA
    · have hi' : i < out.length := by
        have := (List.getElem?_eq_some_iff.mp hy).1
        rw [hlen] at this; exact this
      have hy' : out.reverse[i]? = some y := by rw [← hrev]; exact hy
      obtain ⟨c, c1, _, c2, c3⟩ := OutC_get out i y j4 hy'
      refine ⟨c, by unfold cpR; rw [if_pos hi']; exact c1, ?_, c3⟩
      dsimp only
      rw [if_neg (Nat.not_lt_zero _)]
      exact c2.f frW
    · rw [hlen] at hi hj
      unfold cpR at gi gj
      rw [if_pos hi] at gi
      rw [if_pos hj] at gj
      exact j5 i j b hi hj gi gj
  obtain ⟨M', m1, m2, m3, m4⟩ := c_mark (N := N) (L := L) hN hP (fun i b hi gi => by
    rw [hlen] at hi
    unfold cpR at gi
    rw [if_pos hi] at gi
    have hir : i < out.reverse.length := by rw [List.length_reverse]; exact hi
    have hget : out.reverse[i]? = some out.reverse[i] := List.getElem?_eq_getElem hir
    obtain ⟨c, c1, c2, _⟩ := OutC_get out i _ j4 hget
    rw [gi] at c1; cases c1; exact c2) (mkP nm x st).2.2.2.length N 0 W (by omega) (by rw [hlen]; omega) hPG
  refine ⟨M', Z.2.1, ?_, ⟨_, m2⟩, ?_, fun b hb n1 n4 => (m4 b hb).trans ((wl b (by omega)).trans (m2o b hb n1 n4)), by rw [m3]; omega, by rw [m3]; omega⟩
  · rw [e_Reader_makePack]
    refine (r_is a1).trans (r_callE.trans ?_)
    rw [e_Reader_sortRows, show (f_Reader_sortRows_2 N (z + 1) N 1).1 M = _ from s1, Option.bind_some]
    dsimp only
    refine (r_is ((up_n (by omega)).trans a1)).trans (r_callE.trans ?_)
    rw [e_Reader_joinRows, show (f_Reader_joinRows_4 N (z + 1) N 0 0).1 _ = _ from j1, Option.bind_some]
    dsimp only
    refine (r_getI j2 rfl).trans ((r_newq nz).trans ?_)
    rw [cf, hX1, show (f_Reader_makePack_18 N (z + 1) N (some M2.2.1) 0).1 X1 = _ from hcF]
    refine (r_getI ((y0o _ (by omega)).trans j2) rfl).trans ((r_newq nz2).trans ?_)
    rw [cf2, hY1, show (f_Reader_makePack_51 N (z + 1) N (some M2.2.1) (some Y0.2.1) 0).1 Y1 = _ from hcR]
    refine r_new.trans ?_
    rw [hW0]
    have w1 : W0.1 (z + 1) = some (rdC z (nI out.length) (nI nf) (some nb) (lN x) trp stv) := (w0o _ (by omega)).trans ((zo _ (by omega)).trans j2)
    refine (r_getR (r := some nb) w1 rfl).trans ((r_getL w1 rfl).trans (r_callE.trans ?_))
    rw [ini, Option.bind_some]
    dsimp only
    refine (r_is wA).trans (r_callE.trans ?_)
    rw [e_Pack_markBroken, show (f_Pack_markBroken_2 N Z.2.1 N 0).1 W = _ from m1, Option.bind_some]; rfl
  · refine ⟨⟨_, _, _, _, _, _, (m4 _ (by omega)).trans ((wl _ (by omega)).trans j2)⟩, ⟨_, (m4 _ (by omega)).trans ((wl _ (by omega)).trans j3)⟩, ⟨_, (m4 _ (by omega)).trans ((wl _ (by omega)).trans m25)⟩, ⟨_, (m4 _ (by omega)).trans ((wl _ (by omega)).trans m26)⟩, by rw [m3]; omega⟩
end CMK2
