/-! LAYER 2: what is printed of a text that was read: 4181 signs at most -/
section FITS
variable {f : Nat → Int32} {n w : Nat} {st : aP} {S : Nat} {F : List (List Int32)}
theorem jnS_Qr {G : Nat → aR} (hG : ∀ i, i < w → Qr S F (G i)) : ∀ (d k : Nat) (o : List aR), d + k = w → (∀ x, x ∈ o → Qr S F x) → ∀ x, x ∈ jnS d k o G → Qr S F x
  | 0, k, o, _, h => h
  | d + 1, k, [], hd, h => jnS_Qr hG d (k + 1) [G k] (by omega) (fun x hx => by rw [List.mem_singleton.mp hx]; exact hG k (by omega))
  | d + 1, k, a :: o, hd, h => by
    rw [show jnS (d + 1) k (a :: o) G = @ite _ (joR a (G k)) (Classical.propDecidable _) (jnS d (k + 1) (jnR a (G k) :: o) G) (jnS d (k + 1) (G k :: a :: o) G) from rfl]
    by_cases c : joR a (G k)
    · rw [if_pos c]
      refine jnS_Qr hG d (k + 1) _ (by omega) (fun x hx => ?_)
      rcases List.mem_cons.mp hx with e | e
      · rw [e]; exact h a List.mem_cons_self
      · exact h x (List.mem_cons_of_mem _ e)
    · rw [if_neg c]
      refine jnS_Qr hG d (k + 1) _ (by omega) (fun x hx => ?_)
      rcases List.mem_cons.mp hx with e | e
      · rw [e]; exact hG k (by omega)
      · exact h x e
theorem mkR_Qr (h : Qs S F st.1) : ∀ x, x ∈ mkR st → Qr S F x := by
  unfold mkR
  intro x hx
  rw [List.mem_reverse] at hx
  by_cases c : st.1.length = 0
  · rw [c] at hx; cases hx
  · refine jnS_Qr (w := st.1.length) (srtG_w (Q := Qr S F) (w := st.1.length) (st.1.length - 1) 1 (gOf st) (by omega) (fun i hi => ?_)) st.1.length 0 [] (by omega) (fun x hx => by cases hx) x hx
    unfold gOf
    rw [List.getD_eq_getElem?_getD, List.getElem?_eq_getElem hi]
    exact h _ (List.getElem_mem hi)
/-- 4181 signs hold what is printed -/
theorem tx_fits (h8 : fit8 f) (hn : n ≤ 2000) (nm : List Int32) (v : Nat) (st : aP) (h : pTx f n = .inr (nm, v, st)) : (prP (mkP nm v st)).length ≤ 4181 := by
  obtain ⟨hX, hF, _⟩ := pTx_inv h8 hn h
  have hW := wfP_mk h8 hn h
  unfold pTx at h
  cases hh : pHd f n with
  | inl w => rw [hh] at h; cases h
  | inr x =>
    obtain ⟨q, nm', v'⟩ := x
    rw [hh] at h
    dsimp only at h
    obtain ⟨d1, d2⟩ := hd_len h8 hh
    cases hr : pRows f n (n + 1) ([], [], 0) q with
    | inl w => rw [hr] at h; cases h
    | inr st1 =>
      rw [hr] at h
      dsimp only at h
      obtain ⟨⟨b1, b2⟩, b3⟩ := rows_Phi h8 hn (n + 1) q ([], [], 0) st1 d2 XS_nil (Nat.zero_le _) (Nat.zero_le _) (fun x hx => by cases hx) hr
      have e0 : Phi ([], [], 0) = 0 := rfl
      rw [e0] at b1
      cases hd : dfS (dfl st1) st1.2.1 with
      | some w => rw [hd] at h; cases h
      | none =>
        rw [hd] at h
        cases h
        have g := mkR_g hX
        have hq := mkR_Qr b2
        have l := cPs_len (P := mkP nm v st) (S := st.2.2) hW (mkR_s hX) (fun x hx e => by obtain ⟨j, j1, j2⟩ := (hq x hx).1 e; exact ⟨j, j1, by omega, j2⟩) (fun x hx e => (hq x hx).2 e)
        rw [cPs_e hW] at l
        have eL : 10 + (mkP nm v st).1.length + (verS (mkP nm v st).2.1).length + gsum (mkP nm v st).2.2.2 + 3 * st.2.2 + fS (mkP nm v st).2.2.1 = 10 + nm.length + (verS v).length + gsum (mkR st) + 3 * st.2.2 + fS st.2.1 := rfl
        rw [eL] at l
        have eP : Phi st = gsum (st.1.map Prod.fst) + 3 * st.2.2 + fS st.2.1 := rfl
        have h200 := hX.2.2
        have z1 : (([], [], 0) : aP).1.length = 0 := rfl
        have z2 : (([], [], 0) : aP).2.1.length = 0 := rfl
        rw [z1, z2] at b1
        omega
end FITS
