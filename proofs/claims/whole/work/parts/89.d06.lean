/-! LAYER 2: the class reads a whole text: its head -/
section CTX3
variable {N z L : Nat} {M M' M'' : hM} {v : sV} {f : Nat → Int32} {n k : Nat} {st : aP} {trp stv : Int32} {nmr : Option Nat} {ver : Int64}
/-- a name is taken and made, whatever comes -/
theorem c_nameP {K : Option Nat → hX Int32} {P : Option (Int32 × hM) → Prop} (hN : 2001 ≤ N) (hS : sOk M (z + 2) (z + 3) v f n k) (hB : RB z L M st trp stv nmr ver) (h1 : ∀ w, nmR f n k = .inl w → ∀ X, fSp z M 0 X w → P X) (h2 : ∀ b e, nmR f n k = .inr (b, e) → ∀ M1 v1 nb, sOk M1 (z + 2) (z + 3) v1 f n e → RB z L M1 st trp stv nmr ver → nmA (z + 43) M1 nb (wd f b e) → v1.2.2.2.1 = nI b → rfr z M M1 → M1.2.1 = M.2.1 + 3 → M1.2.2 ≤ M.2.2 + 43 → P ((K (some nb)).1 M1)) :
    P ((b_getR (z + 1) 6 0 (fun r1 => b_nn r1 (fun a2 => b_is a2 8 (b_call (f_Scan_takeName N a2) (fun v3 => (if v3 = 0 then b_retN .boolean 0 else b_getR (z + 1) 6 0 (fun r7 => b_nn r7 (fun a8 => b_is a8 8 (b_call (f_Scan_takenName N a8) (fun r9 => K r9)))))))))).1 M) := by
  have hT := s_takeName (N := N) hN hS
  have hn := hS.2.2.2.2.1
  have hD := hB.lt
  have Peq : ∀ {X Y : Option (Int32 × hM)}, X = Y → P Y → P X := fun e h => by rw [e]; exact h
  refine Peq ((r_getR (r := some (z + 2)) hB.rd rfl).trans (r_nn.trans ((r_is hS.1.1).trans r_callE))) ?_
  by_cases c : cL (sgn f n (sp f n k)) ∧ nmOk f n (sp f n k)
  · have hr : nmR f n k = .inr (sp f n k, we f n (sp f n k)) := if_pos c
    obtain ⟨_, _, g1, g2, g3, g4, _⟩ := nmR_in hr
    rw [if_pos c.1, if_pos c.2] at hT
    rw [hT, Option.bind_some]
    dsimp only
    rw [r_if_f (show ¬ (1 : Int32) = 0 by decide)]
    have hS1 : sOk (hm_up M (z + 2) (scC (z + 3) (wSt v f n (sp f n k)))) (z + 2) (z + 3) (wSt v f n (sp f n k)) f n (we f n (sp f n k)) := hS.up hS.2.2.1 rfl g3
    have hB1 : RB z L (hm_up M (z + 2) (scC (z + 3) (wSt v f n (sp f n k)))) st trp stv nmr ver := hB.sc
    have hwf := nmR_wf hS.2.1 hr
    obtain ⟨M2, t1, t2, t3, t4, t5⟩ := s_taken (N := N) (D := z + 43) (s := sp f n k) (e := we f n (sp f n k)) hN hS1.1 rfl rfl (by omega) (by omega) hwf.1 hB1.lt (by omega) (by omega)
    refine Peq ((r_getR (r := some (z + 2)) hB1.rd rfl).trans (r_nn.trans ((r_is hS1.1.1).trans r_callE))) ?_
    rw [t1, Option.bind_some]
    have d2 : dfr (z + 43) (hm_up M (z + 2) (scC (z + 3) (wSt v f n (sp f n k)))) M2 := ⟨by omega, fun b _ hb => t3 b hb⟩
    have lt : ∀ b, b < z + 43 → M2.1 b = (hm_up M (z + 2) (scC (z + 3) (wSt v f n (sp f n k)))).1 b := fun b hb => t3 b (Nat.lt_of_lt_of_le hb hB1.lt)
    have hS2 : sOk M2 (z + 2) (z + 3) (wSt v f n (sp f n k)) f n (we f n (sp f n k)) := hS1.o (lt _ (by omega)) (lt _ (by omega))
    have hB2 : RB z L M2 st trp stv nmr ver := hB1.fr d2 (lt _ (by omega)) (lt _ (by omega)) (lt _ (by omega)) (lt _ (by omega))
    have e21 : (hm_up M (z + 2) (scC (z + 3) (wSt v f n (sp f n k)))).2 = M.2 := rfl
    refine h2 _ _ hr M2 (wSt v f n (sp f n k)) _ hS2 hB2 t2 rfl ((rfr_up (Or.inr (Or.inl rfl))).tr ⟨by omega, fun b hb _ _ _ _ _ => t3 b hb⟩) ?_ ?_
    · rw [t4, e21]
    · rw [t5, e21]; omega
  · have hr : nmR f n k = .inl (sp f n k) := if_neg c
    have bad : ∀ u : sV, u.2.2.1 = nI (sp f n k) → fSp z M 0 (some (0, hm_up M (z + 2) (scC (z + 3) u))) (sp f n k) := fun u hu => ⟨_, u, rfl, up_s, hu, rfr_up (Or.inr (Or.inl rfl)), hB.sc.sh, rom_up⟩
    by_cases c1 : cL (sgn f n (sp f n k))
    · rw [if_pos c1, if_neg (fun z => c ⟨c1, z⟩)] at hT
      rw [hT, Option.bind_some]
      dsimp only
      rw [r_if_t rfl, rZ0]
      exact h1 _ hr _ (bad _ rfl)
    · rw [if_neg c1] at hT
      rw [hT, Option.bind_some]
      dsimp only
      rw [r_if_t rfl, rZ0]
      exact h1 _ hr _ (bad _ rfl)
theorem RB.nm {w : Option Nat} (h : RB z L M st trp stv nmr ver) : RB z L (hm_up M (z + 1) (rdC z (nI st.1.length) (nI (dsF st.2.1).length) w ver trp stv)) st trp stv w ver := by
  obtain ⟨p, q, r, a1, a2, a3, a4, a5, a6, a7, a8⟩ := h
  have fr : dfr (z + 43) M (hm_up M (z + 1) (rdC z (nI st.1.length) (nI (dsF st.2.1).length) w ver trp stv)) := ⟨Nat.le_refl _, fun b hb _ => up_n (by omega)⟩
  refine ⟨p, q, r, up_s, (up_n (by omega)).trans a2, (up_n (by omega)).trans a3, (up_n (by omega)).trans a4, fun i x hx => ?_, a6, a7.f fr, a8⟩
  obtain ⟨b, b1, b2, b3⟩ := a5 i x hx
  exact ⟨b, b1, b2.f fr, b3⟩
theorem RB.vr {w : Int64} (h : RB z L M st trp stv nmr ver) : RB z L (hm_up M (z + 1) (rdC z (nI st.1.length) (nI (dsF st.2.1).length) nmr w trp stv)) st trp stv nmr w := by
  obtain ⟨p, q, r, a1, a2, a3, a4, a5, a6, a7, a8⟩ := h
  have fr : dfr (z + 43) M (hm_up M (z + 1) (rdC z (nI st.1.length) (nI (dsF st.2.1).length) nmr w trp stv)) := ⟨Nat.le_refl _, fun b hb _ => up_n (by omega)⟩
  refine ⟨p, q, r, up_s, (up_n (by omega)).trans a2, (up_n (by omega)).trans a3, (up_n (by omega)).trans a4, fun i x hx => ?_, a6, a7.f fr, a8⟩
  obtain ⟨b, b1, b2, b3⟩ := a5 i x hx
  exact ⟨b, b1, b2.f fr, b3⟩
def hdSp (z L : Nat) (M : hM) (f : Nat → Int32) (n : Nat) (st : aP) (trp stv : Int32) (X : Option (Int32 × hM)) (res : Nat ⊕ (Nat × List Int32 × Nat)) : Prop := match res with
  | .inl w => fSp z M n X w
  | .inr (q, nm, x) => ∃ M' v' nb, X = some (1, M') ∧ sOk M' (z + 2) (z + 3) v' f n q ∧ RB z L M' st trp stv (some nb) (lN x) ∧ nmA (z + 43) M' nb nm ∧ rfr z M M' ∧ rom M M' q ∧ 9 ≤ q
theorem hdSp.eq {X Y : Option (Int32 × hM)} {res : Nat ⊕ (Nat × List Int32 × Nat)} (e : X = Y) (h : hdSp z L M f n st trp stv Y res) : hdSp z L M f n st trp stv X res := by rw [e]; exact h
theorem c_head (hN : 2001 ≤ N) (hS : sOk M (z + 2) (z + 3) v f n 0) (hB : RB z L M st trp stv nmr ver) : hdSp z L M f n st trp stv ((f_Reader_takeHead N (z + 1)).1 M) (pHd f n) := by
  have hn := hS.2.2.2.2.1
  have hsl := sp_le (f := f) (Nat.zero_le n)
  rw [e_Reader_takeHead]
  unfold pHd
  refine hdSp.eq ((r_getR (r := some (z + 2)) hB.rd rfl).trans (r_nn.trans ((r_is hS.1.1).trans r_callE))) ?_
  rw [s_takeWord hN hS]
  by_cases c1 : cL (sgn f n (sp f n 0))
  · rw [if_pos c1, if_pos c1, Option.bind_some]
    dsimp only
    rw [r_if_f (show ¬ (1 : Int32) = 0 by decide)]
    obtain ⟨q1, q2⟩ := cL_in c1
    have hwg := we_gt (f := f) q1 q2
    have hwl := we_le (f := f) (Nat.le_of_lt q1)
    generalize hq : sp f n 0 = q at *
    generalize he : we f n q = e at *
    have hS1 : sOk (hm_up M (z + 2) (scC (z + 3) (v.1, nI e, v.2.2.1, nI q, nI e, v.2.2.2.2.2))) (z + 2) (z + 3) (v.1, nI e, v.2.2.1, nI q, nI e, v.2.2.2.2.2) f n e := hS.up hS.2.2.1 rfl hwl
    have hB1 : RB z L (hm_up M (z + 2) (scC (z + 3) (v.1, nI e, v.2.2.1, nI q, nI e, v.2.2.2.2.2))) st trp stv nmr ver := hB.sc
    refine hdSp.eq ((r_getR (r := some (z + 2)) hB1.rd rfl).trans (r_nn.trans ((r_is hS1.1.1).trans r_callE))) ?_
    rw [s_isWord hN (by decide) hS1.1 rfl rfl (Nat.le_of_lt hwg) (by omega), Option.bind_some]
    dsimp only
    by_cases c2 : isTx f q e 0
    · rw [@bI_t (isTx f q e 0) (Classical.propDecidable _) c2, r_if_f (show ¬ (1 : Int32) = 0 by decide), if_pos c2]
      have h7 : e - q = 7 := c2.1
      have fr1 : rfr z M (hm_up M (z + 2) (scC (z + 3) (v.1, nI e, v.2.2.1, nI q, nI e, v.2.2.2.2.2))) := rfr_up (Or.inr (Or.inl rfl))
      have e1 : (hm_up M (z + 2) (scC (z + 3) (v.1, nI e, v.2.2.1, nI q, nI e, v.2.2.2.2.2))).2 = M.2 := rfl
      generalize hm_up M (z + 2) (scC (z + 3) (v.1, nI e, v.2.2.1, nI q, nI e, v.2.2.2.2.2)) = M1 at *
      generalize (v.1, nI e, v.2.2.1, nI q, nI e, v.2.2.2.2.2) = v1 at *
      have e1a : M1.2.1 = M.2.1 := by rw [e1]
      have e1b : M1.2.2 = M.2.2 := by rw [e1]
      refine c_nameP (P := fun X => hdSp z L M f n st trp stv X _) hN hS1 hB1 (fun w hw X hX => ?_) (fun b e' hbe M2 v2 nb hS2 hB2 hnm hwf fr2 rm1 rm2 => ?_)
      · rw [hw]
        exact (hX.mono fr1 (d := n) ⟨by rw [e1]; omega, by rw [e1]; omega⟩).le (by omega)
      · rw [hbe]
        dsimp only
        obtain ⟨g0, _, g1, g2, g3, g4, _⟩ := nmR_in hbe
        have hsg := sp_ge (f := f) (n := n) (k := e)
        refine hdSp.eq (r_put hB2.rd (Nat.le_of_ble_eq_true rfl)) ?_
        have hB3 := hB2.nm (w := some nb)
        have fr3 : rfr z M2 (hm_up M2 (z + 1) (rdC z (nI st.1.length) (nI (dsF st.2.1).length) (some nb) ver trp stv)) := rfr_up (Or.inl rfl)
        have e3 : (hm_up M2 (z + 1) (rdC z (nI st.1.length) (nI (dsF st.2.1).length) (some nb) ver trp stv)).2 = M2.2 := rfl
        have hS3 : sOk (hm_up M2 (z + 1) (rdC z (nI st.1.length) (nI (dsF st.2.1).length) (some nb) ver trp stv)) (z + 2) (z + 3) v2 f n e' := hS2.o (up_n (by omega)) (up_n (by omega))
        have hnm3 := hnm.f fr3.d
        show hdSp z L M f n st trp stv ((b_getR (z + 1) 6 0 (fun r25 => b_nn r25 (fun a26 => b_is a26 8 (b_call (f_Scan_takeVersion N a26) (fun v27 => (if v27 = 0 then b_retN .boolean 0 else b_getR (z + 1) 6 0 (fun r31 => b_nn r31 (fun a32 => b_getL a32 8 6 (fun v33 => b_put (z + 1) 6 7 (.long v33) (b_getR (z + 1) 6 0 (fun r34 => b_nn r34 (fun a35 => b_is a35 8 (b_call (f_Scan_takeSign N a35 59) (fun v36 => b_retN .boolean v36)))))))))))))).1 (hm_up M2 (z + 1) (rdC z (nI st.1.length) (nI (dsF st.2.1).length) (some nb) ver trp stv))) _
        generalize hm_up M2 (z + 1) (rdC z (nI st.1.length) (nI (dsF st.2.1).length) (some nb) ver trp stv) = M3 at *
        have fr03 := (fr1.tr fr2).tr fr3
        refine hdSp.eq ((r_getR (r := some (z + 2)) hB3.rd rfl).trans (r_nn.trans ((r_is hS3.1.1).trans r_callE))) ?_
        have hV := s_takeVersion (N := N) hN hS3
        cases hv : verR f n e' with
        | inl w =>
          rw [hv] at hV
          obtain ⟨w', w1, w2, w3⟩ := hV
          rw [w3, Option.bind_some]
          dsimp only
          rw [r_if_t rfl]
          exact ⟨_, w', rZ0, up_s, w2, fr03.tr (rfr_up (Or.inr (Or.inl rfl))), hB3.sc.sh, ⟨by show M3.2.1 ≤ _; rw [e3]; omega, by show M3.2.2 ≤ _; rw [e3]; omega⟩⟩
        | inr qx =>
          obtain ⟨q', x⟩ := qx
          rw [hv] at hV
          have hV' : (f_Scan_takeVersion N (z + 2)).1 M3 = some (1, hm_up M3 (z + 2) (scC (z + 3) (v2.1, nI q', v2.2.2.1, v2.2.2.2.1, v2.2.2.2.2.1, lN x, v2.2.2.2.2.2.2))) := hV
          have hql := verR_q g3 hv
          have hqg := verR_gt hv
          rw [hV', Option.bind_some]
          dsimp only
          rw [r_if_f (show ¬ (1 : Int32) = 0 by decide)]
          have hS4 : sOk (hm_up M3 (z + 2) (scC (z + 3) (v2.1, nI q', v2.2.2.1, v2.2.2.2.1, v2.2.2.2.2.1, lN x, v2.2.2.2.2.2.2))) (z + 2) (z + 3) (v2.1, nI q', v2.2.2.1, v2.2.2.2.1, v2.2.2.2.2.1, lN x, v2.2.2.2.2.2.2) f n q' := hS3.up hS3.2.2.1 rfl hql
          have hB4 : RB z L (hm_up M3 (z + 2) (scC (z + 3) (v2.1, nI q', v2.2.2.1, v2.2.2.2.1, v2.2.2.2.2.1, lN x, v2.2.2.2.2.2.2))) st trp stv (some nb) ver := hB3.sc
          have fr4 : rfr z M3 (hm_up M3 (z + 2) (scC (z + 3) (v2.1, nI q', v2.2.2.1, v2.2.2.2.1, v2.2.2.2.2.1, lN x, v2.2.2.2.2.2.2))) := rfr_up (Or.inr (Or.inl rfl))
          have e4 : (hm_up M3 (z + 2) (scC (z + 3) (v2.1, nI q', v2.2.2.1, v2.2.2.2.1, v2.2.2.2.2.1, lN x, v2.2.2.2.2.2.2))).2 = M3.2 := rfl
          refine hdSp.eq ((r_getR (r := some (z + 2)) hB4.rd rfl).trans (r_nn.trans ((r_getL hS4.1.1 rfl).trans (r_put hB4.rd (Nat.le_of_ble_eq_true rfl))))) ?_
          generalize hm_up M3 (z + 2) (scC (z + 3) (v2.1, nI q', v2.2.2.1, v2.2.2.2.1, v2.2.2.2.2.1, lN x, v2.2.2.2.2.2.2)) = M4 at *
          generalize hv4 : (v2.1, nI q', v2.2.2.1, v2.2.2.2.1, v2.2.2.2.2.1, lN x, v2.2.2.2.2.2.2) = v4 at *
          have ev4 : v4.2.2.2.2.2.1 = lN x := by rw [← hv4]
          rw [ev4]
          have hB5 := hB4.vr (w := lN x)
          have fr5 : rfr z M4 (hm_up M4 (z + 1) (rdC z (nI st.1.length) (nI (dsF st.2.1).length) (some nb) (lN x) trp stv)) := rfr_up (Or.inl rfl)
          have e5 : (hm_up M4 (z + 1) (rdC z (nI st.1.length) (nI (dsF st.2.1).length) (some nb) (lN x) trp stv)).2 = M4.2 := rfl
          have hS5 : sOk (hm_up M4 (z + 1) (rdC z (nI st.1.length) (nI (dsF st.2.1).length) (some nb) (lN x) trp stv)) (z + 2) (z + 3) v4 f n q' := hS4.o (up_n (by omega)) (up_n (by omega))
          have hnm5 := (hnm3.f fr4.d).f fr5.d
          show hdSp z L M f n st trp stv ((b_getR (z + 1) 6 0 (fun r34 => b_nn r34 (fun a35 => b_is a35 8 (b_call (f_Scan_takeSign N a35 59) (fun v36 => b_retN .boolean v36))))).1 (hm_up M4 (z + 1) (rdC z (nI st.1.length) (nI (dsF st.2.1).length) (some nb) (lN x) trp stv))) _
          generalize hm_up M4 (z + 1) (rdC z (nI st.1.length) (nI (dsF st.2.1).length) (some nb) (lN x) trp stv) = M5 at *
          have fr05 := (fr03.tr fr4).tr fr5
          have e05 : M5.2 = M2.2 := by rw [e5, e4, e3]
          refine hdSp.eq ((r_getR (r := some (z + 2)) hB5.rd rfl).trans (r_nn.trans ((r_is hS5.1.1).trans r_callE))) ?_
          rw [s_takeSign (by decide) hN hS5]
          have hs1 := sp_le (f := f) hql
          have hs2 := sp_ge (f := f) (n := n) (k := q')
          by_cases cs : sgn f n (sp f n q') = 59
          · rw [if_pos cs, if_pos cs, Option.bind_some]
            have hc := sgn_0 (by decide) cs
            refine ⟨_, (v4.1, nI (sp f n q' + 1), v4.2.2), nb, rZ1, hS5.up hS5.2.2.1 rfl (by omega), hB5.sc, hnm5.f (rfr_up (z := z) (Or.inr (Or.inl rfl))).d, fr05.tr (rfr_up (Or.inr (Or.inl rfl))), ⟨by show M5.2.1 ≤ _; rw [e05]; omega, by show M5.2.2 ≤ _; rw [e05]; omega⟩, by omega⟩
          · rw [if_neg cs, if_neg cs, Option.bind_some]
            exact ⟨_, (v4.1, nI (sp f n q'), nI (sp f n q'), v4.2.2.2), rZ0, up_s, rfl, fr05.tr (rfr_up (Or.inr (Or.inl rfl))), hB5.sc.sh, ⟨by show M5.2.1 ≤ _; rw [e05]; omega, by show M5.2.2 ≤ _; rw [e05]; omega⟩⟩
    · rw [@bI_f (isTx f q e 0) (Classical.propDecidable _) c2, r_if_t rfl, if_neg c2]
      refine hdSp.eq ((r_getR (r := some (z + 2)) hB1.rd rfl).trans ((r_getR (r := some (z + 2)) hB1.rd rfl).trans (r_nn.trans ((r_getI hS1.1.1 rfl).trans (r_nn.trans ((r_is hS1.1.1).trans r_callE)))))) ?_
      rw [s_refuse hS1.1.1, Option.bind_some, up_up]
      exact ⟨_, _, rZ0, up_s, rfl, rfr_up (Or.inr (Or.inl rfl)), hB.sc.sh, rom_up⟩
  · rw [if_neg c1, if_neg c1, Option.bind_some]
    dsimp only
    rw [r_if_t rfl]
    exact ⟨_, (v.1, nI (sp f n 0), nI (sp f n 0), v.2.2.2), rZ0, up_s, rfl, rfr_up (Or.inr (Or.inl rfl)), hB.sc.sh, rom_up⟩
theorem XS_nil : XS f n ([], [], 0) := ⟨fun x h => (by cases h), fun x h => (by cases h), by decide⟩
theorem c_text (hN : 2001 ≤ N) (hS : sOk M (z + 2) (z + 3) v f n 0) (hB : shp z M) (hL : L = M.2.1) : txSp z L M n 0 ((f_Reader_takeText N (z + 1)).1 M) (pTx f n) := by
  obtain ⟨⟨rc, fc, nm, ver, trp, stv, a1⟩, ⟨g, a2⟩, ⟨h, a3⟩, ⟨g2, a4⟩, a5⟩ := hB
  rw [e_Reader_takeText]
  have hn := hS.2.2.2.2.1
  have E : (b_put (z + 1) 6 3 (.int 0) (b_put (z + 1) 6 5 (.int 0) (b_put (z + 1) 6 9 (.int (-1)) (b_is (z + 1) 6 (b_call (f_Reader_takeHead N (z + 1)) (fun v21 => (if v21 = 0 then b_retN .boolean 0 else f_Reader_takeText_26 N (z + 1) N 0))))))).1 M = (b_is (z + 1) 6 (b_call (f_Reader_takeHead N (z + 1)) (fun v21 => (if v21 = 0 then b_retN .boolean 0 else f_Reader_takeText_26 N (z + 1) N 0)))).1 (hm_up M (z + 1) (rdC z 0 0 nm ver trp (-1))) := by
    refine (r_put a1 (Nat.le_of_ble_eq_true rfl)).trans ?_
    refine (r_put up_s (Nat.le_of_ble_eq_true rfl)).trans ?_
    rw [up_up]
    refine (r_put up_s (Nat.le_of_ble_eq_true rfl)).trans ?_
    rw [up_up]
    rfl
  rw [E]
  have hB0 : RB z L (hm_up M (z + 1) (rdC z 0 0 nm ver trp (-1))) ([], [], 0) trp (-1) nm ver := ⟨g, h, g2, up_s, (up_n (by omega)).trans a2, (up_n (by omega)).trans a3, (up_n (by omega)).trans a4, fun i x hx => (nil_get hx).elim, fun i j b hi => absurd hi (Nat.not_lt_zero _), fun i x hx => (nil_get hx).elim, ⟨hL ▸ a5, hL ▸ Nat.le_refl _⟩⟩
  have hS0 : sOk (hm_up M (z + 1) (rdC z 0 0 nm ver trp (-1))) (z + 2) (z + 3) v f n 0 := hS.o (up_n (by omega)) (up_n (by omega))
  have fr0 : rfr z M (hm_up M (z + 1) (rdC z 0 0 nm ver trp (-1))) := rfr_up (Or.inl rfl)
  have e0 : (hm_up M (z + 1) (rdC z 0 0 nm ver trp (-1))).2 = M.2 := rfl
  generalize hm_up M (z + 1) (rdC z 0 0 nm ver trp (-1)) = M0 at *
  rw [(r_is hB0.rd).trans r_callE]
  have hH := c_head (N := N) hN hS0 hB0
  unfold pTx
  have r0 : rom M M0 0 := ⟨by rw [e0]; omega, by rw [e0]; omega⟩
  cases hp : pHd f n with
  | inl w =>
    rw [hp] at hH
    obtain ⟨M1, v1, x1, x2, x3, x4, x5, x6⟩ := hH
    rw [x1, Option.bind_some]
    exact ⟨M1, v1, (by rw [r_if_t rfl]; exact rZ0), x2, x3, fr0.tr x4, x5, (r0.tr x6).le (by omega)⟩
  | inr y =>
    obtain ⟨q, nme, x⟩ := y
    rw [hp] at hH
    obtain ⟨M1, v1, nb, x1, x2, x3, x4, x5, x6, x7⟩ := hH
    rw [x1, Option.bind_some]
    dsimp only
    rw [r_if_f (show ¬ (1 : Int32) = 0 by decide)]
    have hq := x2.2.2.2.2.2
    have hR := c_rows_loop (N := N) (z := z) (f := f) (n := n) (nmr := some nb) (ver := lN x) hN (n + 1) N 0 q M1 v1 ([], [], 0) trp (by omega) (by omega) (by omega) x2 x3 XS_nil (by show 0 ≤ q; omega) (by show 11 * 0 + 9 ≤ q; omega)
    have hR' : eSp z L M1 n q (some nb) (lN x) ((f_Reader_takeText_26 N (z + 1) N 0).1 M1) _ := hR
    cases hs : pRows f n (n + 1) ([], [], 0) q with
    | inl w =>
      rw [hs] at hR'
      obtain ⟨M2, v2, y1, y2, y3, y4, y5, y6⟩ := hR'
      exact ⟨M2, v2, y1, y2, y3, fr0.tr (x5.tr y4), y5, (r0.tr (x6.tr y6)).le (by omega)⟩
    | inr st' =>
      rw [hs] at hR'
      dsimp only at hR' ⊢
      cases hd : dfS (dfl st') st'.2.1 with
      | some w =>
        rw [hd] at hR'
        obtain ⟨M2, v2, y1, y2, y3, y4, y5, y6⟩ := hR'
        exact ⟨M2, v2, y1, y2, y3, fr0.tr (x5.tr y4), y5, (r0.tr (x6.tr y6)).le (by omega)⟩
      | none =>
        rw [hd] at hR'
        obtain ⟨M2, v2, tr2, sv2, y1, y2, y3, y4, y5⟩ := hR'
        exact ⟨M2, v2, tr2, sv2, nb, y1, y2, y3, x4.f y4.d, fr0.tr (x5.tr y4), (r0.tr (x6.tr y5)).le (by omega)⟩
end CTX3
