/-! LAYER 2: the class reads -/
section CRD
variable {N z : Nat} {M M' M'' : hM} {f f' : Nat → Int32} {n n' : Nat} {pk : List aPk} {ch : List (Nat × Nat)} {pr pr' : List Int32}
theorem CI.rd (h : CI z M f n pk ch pr) (hS : cSc z M' f n') (hs : shp z M') (g : M.2.1 ≤ M'.2.1) (e : ∀ b, b < M.2.1 → b ≠ z + 1 → b ≠ z + 2 → b ≠ z + 4 → b ≠ z + 5 → b ≠ z + 6 → M'.1 b = M.1 b) : CI z M' f n' pk ch pr := by
  obtain ⟨tf, h1, h2, h3, h4, h5, h6, h7⟩ := h
  have hz := h3.2.2.2.2
  have e' : ∀ b, b < z + 43 → b ≠ z + 1 → b ≠ z + 2 → b ≠ z + 4 → b ≠ z + 5 → b ≠ z + 6 → M'.1 b = M.1 b := fun b hb => e b (by omega)
  exact ⟨tf, (e' _ (by omega) (by omega) (by omega) (by omega) (by omega) (by omega)).trans h1, hS, hs, h4.fr ⟨g, fun b hb hb2 => e b hb2 (by omega) (by omega) (by omega) (by omega) (by omega)⟩ (e' _ (by omega) (by omega) (by omega) (by omega) (by omega) (by omega)), h5.fr (e' _ (by omega) (by omega) (by omega) (by omega) (by omega) (by omega)) (e' _ (by omega) (by omega) (by omega) (by omega) (by omega) (by omega)), h6.fr (e' _ (by omega) (by omega) (by omega) (by omega) (by omega) (by omega)) (e' _ (by omega) (by omega) (by omega) (by omega) (by omega) (by omega)) (e' _ (by omega) (by omega) (by omega) (by omega) (by omega) (by omega)), h7.fr (e' _ (by omega) (by omega) (by omega) (by omega) (by omega) (by omega))⟩
theorem s_read (hN : 2001 ≤ N) (h : CI z M f n pk ch pr) (hb : ∀ nm v st, pTx f n = .inr (nm, v, st) → (prP (mkP nm v st)).length ≤ 4181) : match pTx f n with
    | .inl w => ∃ M', (f_PR_read N z).1 M = some ((-1) - nI w, M') ∧ CI z M' f 0 pk ch pr ∧ cfr z M n M' 0
    | .inr (nm, v, st) => if pk.length = 40 then ∃ M', (f_PR_read N z).1 M = some (-10000, M') ∧ CI z M' f 0 pk ch pr ∧ cfr z M n M' 0
      else ∃ M', (f_PR_read N z).1 M = some (nI pk.length, M') ∧ CI z M' f 0 (pk ++ [mkP nm v st]) ch pr ∧ cfr z M n M' 0 := by
  have h' := h
  have hz := h.lt
  obtain ⟨tf, h1, ⟨⟨v, k1, k2⟩, k3, k4, k5⟩, hsh, hPk, hPr, hPa, hTo⟩ := h
  have hS0 : sOk (hm_up M (z + 2) (scC (z + 3) (v.1, 0, 0, 0, 0, v.2.2.2.2.2))) (z + 2) (z + 3) (v.1, 0, 0, 0, 0, v.2.2.2.2.2) f n 0 := ⟨⟨up_s, (up_n (by omega)).trans k3, by omega⟩, k5, k2, rfl, k4, Nat.zero_le _⟩
  have sh0 : shp z (hm_up M (z + 2) (scC (z + 3) (v.1, 0, 0, 0, 0, v.2.2.2.2.2))) := hsh.fr (Nat.le_refl _) (up_n (by omega)) (up_n (by omega)) (up_n (by omega)) (up_n (by omega))
  have hT := c_text (N := N) (L := M.2.1) hN hS0 sh0 rfl
  have fr0 : rfr z M (hm_up M (z + 2) (scC (z + 3) (v.1, 0, 0, 0, 0, v.2.2.2.2.2))) := rfr_up (Or.inr (Or.inl rfl))
  have rd0 : (hm_up M (z + 2) (scC (z + 3) (v.1, 0, 0, 0, 0, v.2.2.2.2.2))).2 = M.2 := rfl
  have c0 : ∃ fs, (hm_up M (z + 2) (scC (z + 3) (v.1, 0, 0, 0, 0, v.2.2.2.2.2))).1 (z + 1) = some (.inr (6, fs)) := by
    obtain ⟨⟨_, _, _, _, _, _, q⟩, _⟩ := sh0; exact ⟨_, q⟩
  obtain ⟨fs0, c0⟩ := c0
  have pc0 : (hm_up M (z + 2) (scC (z + 3) (v.1, 0, 0, 0, 0, v.2.2.2.2.2))).1 z = some (prC z pk.length tf ch.length) := (up_n (by omega)).trans h1
  -- behind the text
  have start : ∀ (q : Int32) (M1 : hM) (v1 : sV), (f_Reader_takeText N (z + 1)).1 (hm_up M (z + 2) (scC (z + 3) (v.1, 0, 0, 0, 0, v.2.2.2.2.2))) = some (q, M1) → M1.1 (z + 2) = some (scC (z + 3) v1) → rfr z M M1 → (f_PR_read N z).1 M = (if q = 0 then b_getR z 0 1 (fun r34 => b_nn r34 (fun a35 => b_is a35 8 (b_call (f_Scan_refusal N a35) (fun v36 => b_ret v36)))) else b_getI z 0 3 (fun v19 => b_getR z 0 2 (fun r20 => b_nn r20 (fun a21 => b_len a21 4 (fun v22 => (if v19 < v22 then b_getR z 0 2 (fun r23 => b_getI z 0 3 (fun v24 => b_getR z 0 0 (fun r25 => b_nn r25 (fun a26 => b_is a26 6 (b_call (f_Reader_makePack N a26) (fun r27 => b_nn r23 (fun a31 => b_astR a31 4 3 v24 r27 (b_getI z 0 3 (fun v32 => b_put z 0 3 (.int (v32 + 1)) (b_getI z 0 3 (fun v33 => b_ret (v33 - 1)))))))))))) else b_ret (-10000 : Int32))))))).1 (hm_up M1 (z + 2) (scC (z + 3) (0, v1.2))) := by
    intro q M1 v1 e1 e2 e3
    have p1 : M1.1 z = some (prC z pk.length tf ch.length) := (e3.2 z (by omega) (by omega) (by omega) (by omega) (by omega) (by omega)).trans h1
    rw [e_PR_read]
    refine (r_getR (r := some (z + 2)) h1 rfl).trans (r_nn.trans ((r_is k1).trans (r_callE.trans ?_)))
    rw [s_begin k1, Option.bind_some]
    dsimp only
    refine (r_getR (r := some (z + 1)) pc0 rfl).trans (r_nn.trans ((r_is c0).trans (r_callE.trans ?_)))
    rw [e1, Option.bind_some]
    dsimp only
    refine (r_getR (r := some (z + 2)) p1 rfl).trans (r_nn.trans ((r_is e2).trans (r_callE.trans ?_)))
    rw [s_useUp e2, Option.bind_some]
  have sc : ∀ (M1 : hM) (v1 : sV), rfr z M M1 → cSc z (hm_up M1 (z + 2) (scC (z + 3) (0, v1.2))) f 0 := fun M1 v1 e3 => ⟨⟨_, up_s, rfl⟩, (up_n (by omega)).trans ((e3.2 _ (by omega) (by omega) (by omega) (by omega) (by omega) (by omega)).trans k3), Nat.zero_le _, k5⟩
  have pcu : ∀ (M1 : hM) (w : sV), rfr z M M1 → (hm_up M1 (z + 2) (scC (z + 3) w)).1 z = some (prC z pk.length tf ch.length) := fun M1 w e3 => (up_n (by omega)).trans ((e3.2 z (by omega) (by omega) (by omega) (by omega) (by omega) (by omega)).trans h1)
  have hk1 : ∀ (M1 : hM) w, (hm_up M1 (z + 2) (scC (z + 3) w)).1 (z + 2) = some (scC (z + 3) w) := fun M1 w => up_s
  cases hp : pTx f n with
  | inl w =>
    rw [hp] at hT
    obtain ⟨M1, v1, x1, x2, x3, x4, x5, x6⟩ := hT
    have fr1 := fr0.tr x4
    refine ⟨hm_up M1 (z + 2) (scC (z + 3) (0, v1.2)), ?_, h'.rd (sc M1 v1 fr1) (x5.fr (Nat.le_refl _) (up_n (by omega)) (up_n (by omega)) (up_n (by omega)) (up_n (by omega))) fr1.1 (fun b hb n1 n2 n4 n5 n6 => (up_n n2).trans (fr1.2 b hb n1 n2 n4 n5 n6)), ?_⟩
    · rw [start 0 M1 v1 x1 x2 fr1, r_if_t rfl]
      refine (r_getR (r := some (z + 2)) (pcu M1 _ fr1) rfl).trans (r_nn.trans ((r_is (hk1 _ _)).trans (r_callE.trans ?_)))
      rw [s_refusal (hk1 _ _), Option.bind_some]
      dsimp only
      rw [x3]; rfl
    · have r1 := x6.1
      have r2 := x6.2
      rw [rd0] at r1 r2
      refine ⟨fr1.1, ?_, ?_, fun b hb1 hb2 => (up_n (by omega)).trans (fr1.2 b (by omega) (by omega) (by omega) (by omega) (by omega) (by omega))⟩
      · show M1.2.1 + _ ≤ _; omega
      · show M1.2.2 + _ ≤ _; omega
  | inr y =>
    obtain ⟨nm, x, st⟩ := y
    rw [hp] at hT
    obtain ⟨M1, v1, tr1, sv1, nb, x1, x2, x3, x4, x5, x6⟩ := hT
    have fr1 := fr0.tr x5
    have r1 := x6.1
    have r2 := x6.2
    rw [rd0] at r1 r2
    have hst := start 1 M1 v1 x1 x2 fr1
    rw [r_if_f (show ¬ (1 : Int32) = 0 by decide)] at hst
    have hPk' := hPk
    obtain ⟨h40, gp, g7, g8⟩ := hPk
    have p7 : ∀ w : sV, (hm_up M1 (z + 2) (scC (z + 3) w)).1 (z + 7) = some (.inl (4, 40, .inr (.inr (.inr (.inr gp))))) := fun w => (up_n (by omega)).trans ((fr1.2 _ (by omega) (by omega) (by omega) (by omega) (by omega) (by omega)).trans g7)
    have hst2 := hst.trans ((r_getI (pcu M1 _ fr1) rfl).trans ((r_getR (r := some (z + 7)) (pcu M1 _ fr1) rfl).trans (r_nn.trans (r_len (p7 _)))))
    dsimp only at hst2 ⊢
    by_cases c : pk.length = 40
    · rw [if_pos c]
      refine ⟨hm_up M1 (z + 2) (scC (z + 3) (0, v1.2)), ?_, h'.rd (sc M1 v1 fr1) (x3.sh.fr (Nat.le_refl _) (up_n (by omega)) (up_n (by omega)) (up_n (by omega)) (up_n (by omega))) fr1.1 (fun b hb n1 n2 n4 n5 n6 => (up_n n2).trans (fr1.2 b hb n1 n2 n4 n5 n6)), ?_⟩
      · rw [hst2, r_if_f (show ¬ nI pk.length < nI 40 by rw [c]; exact fun z => Int32.lt_irrefl z)]; rfl
      · refine ⟨fr1.1, ?_, ?_, fun b hb1 hb2 => (up_n (by omega)).trans (fr1.2 b (by omega) (by omega) (by omega) (by omega) (by omega) (by omega))⟩
        · show M1.2.1 + _ ≤ _; omega
        · show M1.2.2 + _ ≤ _; omega
    · rw [if_neg c]
      rw [r_if_t (show nI pk.length < nI 40 from nI_lt (by omega) (by omega))] at hst2
      obtain ⟨hX, hF, hnw, _, hv⟩ := pTx_inv k5 k4 hp
      have hwP := wfP_mk k5 k4 hp
      have hB2 : RB z M.2.1 (hm_up M1 (z + 2) (scC (z + 3) (0, v1.2))) st tr1 sv1 (some nb) (lN x) := x3.sc
      have fr2 : rfr z M1 (hm_up M1 (z + 2) (scC (z + 3) (0, v1.2))) := rfr_up (Or.inr (Or.inl rfl))
      obtain ⟨M3, a, y1, y2, y3, y4, y5, y6⟩ := c_make (N := N) hN hX (by omega) hB2 (x4.f fr2.d) hwP
      have e2 : (hm_up M1 (z + 2) (scC (z + 3) (0, v1.2))).2 = M1.2 := rfl
      rw [e2] at y5 y6
      have m3 : ∀ b, b < M.2.1 → b ≠ z + 1 → b ≠ z + 2 → b ≠ z + 4 → b ≠ z + 5 → b ≠ z + 6 → M3.1 b = M.1 b := fun b hb n1 n2 n4 n5 n6 => (y4 b hb n1 n4).trans ((up_n n2).trans (fr1.2 b hb n1 n2 n4 n5 n6))
      have m30 : M3.1 z = some (prC z pk.length tf ch.length) := (m3 z (by omega) (by omega) (by omega) (by omega) (by omega) (by omega)).trans h1
      have m37 : M3.1 (z + 7) = some (.inl (4, 40, .inr (.inr (.inr (.inr gp))))) := (m3 _ (by omega) (by omega) (by omega) (by omega) (by omega) (by omega)).trans g7
      have sc3 : cSc z M3 f 0 := (sc M1 v1 fr1).fr (y4 _ (by omega) (by omega) (by omega)) (y4 _ (by omega) (by omega) (by omega))
      have hC3 : CI z M3 f 0 pk ch pr := h'.rd sc3 y3 (by have := fr1.1; omega) m3
      have fr13 := fr1.1
      have ca : ∃ fs, M3.1 a = some (.inr (3, fs)) := by obtain ⟨_, _, _, _, _, _, q, _⟩ := y2; exact ⟨_, q⟩
      obtain ⟨fsa, ca⟩ := ca
      have i1 : ¬ (nI pk.length < 0 ∨ 40 ≤ (nI pk.length).toNatClampNeg) := nI_in (by omega) (by decide)
      have c1 := nI_clamp (n := pk.length) (by omega)
      obtain ⟨⟨rc, fc, nmm, vv, tp, tv, w1⟩, _⟩ := x3.sh
      have w1' : (hm_up M1 (z + 2) (scC (z + 3) (0, v1.2))).1 (z + 1) = some (rdC z rc fc nmm vv tp tv) := (up_n (by omega)).trans w1
      -- the last cells
      have fin : (f_PR_read N z).1 M = some (nI pk.length, hm_up (hm_up M3 (z + 7) (.inl (4, 40, .inr (.inr (.inr (.inr (va_up gp pk.length (some a)))))))) z (prC z (pk.length + 1) tf ch.length)) := by
        rw [hst2]
        refine (r_getR (r := some (z + 7)) (pcu M1 _ fr1) rfl).trans ((r_getI (pcu M1 _ fr1) rfl).trans ((r_getR (r := some (z + 1)) (pcu M1 _ fr1) rfl).trans (r_nn.trans ((r_is w1').trans (r_callE.trans ?_)))))
        rw [y1, Option.bind_some]
        dsimp only
        rw [r_nn]
        refine (r_astR m37 i1 ca).trans ?_
        rw [c1]
        have pz : ∀ e, (hm_up M3 (z + 7) e).1 z = some (prC z pk.length tf ch.length) := fun e => (up_n (by omega)).trans m30
        refine (r_getI (pz _) rfl).trans ((r_put (pz _) (Nat.le_of_ble_eq_true rfl)).trans ?_)
        refine (r_getI up_s rfl).trans ?_
        rw [nI_1, nI_pred]; rfl
      refine ⟨_, fin, ?_, ?_⟩
      · obtain ⟨tf3, q1, q2, q3, q4, q5, q6, q7⟩ := hC3
        have htf : tf3 = tf3 := rfl
        have dd : dfr (z + 43) M3 (hm_up (hm_up M3 (z + 7) (.inl (4, 40, .inr (.inr (.inr (.inr (va_up gp pk.length (some a)))))))) z (prC z (pk.length + 1) tf ch.length)) := ⟨Nat.le_refl _, fun b hb _ => (up_n (by omega)).trans (up_n (by omega))⟩
        have o : ∀ b, b ≠ z → b ≠ z + 7 → (hm_up (hm_up M3 (z + 7) (.inl (4, 40, .inr (.inr (.inr (.inr (va_up gp pk.length (some a)))))))) z (prC z (pk.length + 1) tf ch.length)).1 b = M3.1 b := fun b n0 n7 => (up_n n0).trans (up_n n7)
        refine ⟨tf, by rw [List.length_append]; exact up_s, q2.fr (o _ (by omega) (by omega)) (o _ (by omega) (by omega)), q3.fr (Nat.le_refl _) (o _ (by omega) (by omega)) (o _ (by omega) (by omega)) (o _ (by omega) (by omega)) (o _ (by omega) (by omega)), ?_, q5.fr (o _ (by omega) (by omega)) (o _ (by omega) (by omega)), q6.fr (o _ (by omega) (by omega)) (o _ (by omega) (by omega)) (o _ (by omega) (by omega)), ?_⟩
        · refine ⟨by rw [List.length_append]; show pk.length + 1 ≤ 40; omega, va_up gp pk.length (some a), (up_n (by omega)).trans up_s, fun q P hP => ?_⟩
          rcases app_get hP with d | ⟨d1, d2⟩
          · obtain ⟨_, gp', g1', g2'⟩ := q4
            rw [m37] at g1'
            have egp : gp' = gp := by cases g1'; rfl
            rw [egp] at g2'
            obtain ⟨u1, a', u2, u3⟩ := g2' q P d
            have := (List.getElem?_eq_some_iff.mp d).1
            exact ⟨u1, a', by rw [ua_n (by omega)]; exact u2, u3.f dd⟩
          · rw [d1, d2]
            exact ⟨⟨hwP, mkR_s hX, hb nm x st hp⟩, a, ua_s, y2.f dd⟩
        · have hTo3 : cTo z M3 ch tf := hTo.fr (m3 _ (by omega) (by omega) (by omega) (by omega) (by omega) (by omega))
          exact hTo3.fr (o _ (by omega) (by omega))
      · refine ⟨?_, ?_, ?_, fun b hb1 hb2 => ?_⟩
        · show M.2.1 ≤ M3.2.1; omega
        · show M3.2.1 + _ ≤ _; omega
        · show M3.2.2 + _ ≤ _; omega
        · exact (up_n (by omega)).trans ((up_n (by omega)).trans (m3 b (by omega) (by omega) (by omega) (by omega) (by omega) (by omega)))
end CRD
