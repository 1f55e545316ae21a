/-! LAYER 2: the class reads provide, script, file, feature -/
section CROW3
variable {N z L : Nat} {M M' M'' : hM} {v : sV} {f : Nat → Int32} {n k : Nat} {st : aP} {trp stv : Int32} {nmr : Option Nat} {ver : Int64}
theorem c_provided {q0 : Nat} (hN : 2001 ≤ N) (hS : sOk M (z + 2) (z + 3) v f n k) (hB : RB z L M st (nI q0) stv nmr ver) (hl : st.1.length ≤ 200) : cSp z L M f n k (nI q0) stv nmr ver ((f_Reader_takeProvided N (z + 1)).1 M) (pPv f n q0 st k) := by
  rw [e_Reader_takeProvided, r_let, r_let]
  unfold pPv
  refine c_name2 hN hS hB (fun w hw => by rw [hw]) (fun b e hbe M1 v1 nb hS1 hB1 hnm hwf fr1 rm1 rm2 => ?_)
  rw [hbe]
  dsimp only
  obtain ⟨g0, _, g1, g2, g3, g4, _⟩ := nmR_in hbe
  have hsg0 := sp_ge (f := f) (n := n) (k := k)
  have hV := s_takeVersion (N := N) hN hS1
  refine cSp.eq ((r_getR (r := some (z + 2)) hB1.rd rfl).trans (r_nn.trans ((r_is hS1.1.1).trans r_callE))) ?_
  cases hr : verR f n e with
  | inl w =>
    rw [hr] at hV
    obtain ⟨u, u1, u2, u3⟩ := hV
    rw [u3, Option.bind_some]
    dsimp only
    rw [r_if_t rfl]
    exact (cSp.bad (k := e) hB1 rZ0 u2).mono fr1 ⟨by omega, by omega⟩ (by omega) g3
  | inr x =>
    obtain ⟨q, x⟩ := x
    rw [hr] at hV
    have q2 := verR_q g3 hr
    have q1 := verR_ge hr
    have hV' : (f_Scan_takeVersion N (z + 2)).1 M1 = some (1, hm_up M1 (z + 2) (scC (z + 3) (v1.1, nI q, v1.2.2.1, v1.2.2.2.1, v1.2.2.2.2.1, lN x, v1.2.2.2.2.2.2))) := hV
    rw [hV', Option.bind_some]
    dsimp only
    rw [r_if_f (show ¬ (1 : Int32) = 0 by decide)]
    have hS2 : sOk (hm_up M1 (z + 2) (scC (z + 3) (v1.1, nI q, v1.2.2.1, v1.2.2.2.1, v1.2.2.2.2.1, lN x, v1.2.2.2.2.2.2))) (z + 2) (z + 3) (v1.1, nI q, v1.2.2.1, v1.2.2.2.1, v1.2.2.2.2.1, lN x, v1.2.2.2.2.2.2) f n q := hS1.up hS1.2.2.1 rfl q2
    have hB2 : RB z L (hm_up M1 (z + 2) (scC (z + 3) (v1.1, nI q, v1.2.2.1, v1.2.2.2.1, v1.2.2.2.2.1, lN x, v1.2.2.2.2.2.2))) st (nI q0) stv nmr ver := hB1.sc
    have fr2 : rfr z M1 (hm_up M1 (z + 2) (scC (z + 3) (v1.1, nI q, v1.2.2.1, v1.2.2.2.1, v1.2.2.2.2.1, lN x, v1.2.2.2.2.2.2))) := rfr_up (Or.inr (Or.inl rfl))
    refine cSp.eq ((r_getR (r := some (z + 2)) hB2.rd rfl).trans (r_nn.trans ((r_getL hS2.1.1 rfl).trans ((r_getR (r := some (z + 2)) hB2.rd rfl).trans (r_nn.trans (r_getL hS2.1.1 rfl)))))) ?_
    have e21 : (hm_up M1 (z + 2) (scC (z + 3) (v1.1, nI q, v1.2.2.1, v1.2.2.2.1, v1.2.2.2.2.1, lN x, v1.2.2.2.2.2.2))).2 = M1.2 := rfl
    rw [lN_1]
    refine c_add2 (pl := b) (ot := []) (kd := 7) hN hS2 hB2 hl (by omega) (fun z => absurd z (by omega)) (hnm.f fr2.d) (fun _ => rfl) (fun z => absurd rfl z) (fun z => absurd z (by omega)) (fr1.tr fr2) ⟨by rw [e21]; omega, by rw [e21]; omega⟩ (fun _ => rZ0) (fun w h => h) (fun st' h M2 hS3 hB3 fr3 r1 r2 => ?_)
    rw [e21] at r1 r2
    rw [h]
    exact (cSp.one hS3 hB3 rZ1).mono ((fr1.tr fr2).tr fr3) ⟨by omega, by omega⟩ (by omega) q2
theorem c_script {q0 : Nat} (hN : 2001 ≤ N) (hS : sOk M (z + 2) (z + 3) v f n k) (hB : RB z L M st (nI q0) stv nmr ver) (hl : st.1.length ≤ 200) : cSp z L M f n k (nI q0) stv nmr ver ((f_Reader_takeScript N (z + 1)).1 M) (pSc f n q0 st k) := by
  rw [e_Reader_takeScript, r_let, r_let]
  unfold pSc
  refine c_name2 hN hS hB (fun w hw => by rw [hw]) (fun b e hbe M1 v1 nb hS1 hB1 hnm hwf fr1 rm1 rm2 => ?_)
  rw [hbe]
  dsimp only
  obtain ⟨g0, _, g1, g2, g3, g4, _⟩ := nmR_in hbe
  have hsg0 := sp_ge (f := f) (n := n) (k := k)
  refine cSp.mono (M1 := M1) (e := e) ?_ fr1 ⟨by omega, by omega⟩ (by omega) g3
  refine c_name2 hN hS1 hB1 (fun w hw => by rw [hw]) (fun b2 e2 hbe2 M2 v2 nb2 hS2 hB2 hnm2 hwf2 fr2 rm3 rm4 => ?_)
  rw [hbe2]
  dsimp only
  obtain ⟨k0, _, k1, k2, k3, k4, _⟩ := nmR_in hbe2
  have hsg1 := sp_ge (f := f) (n := n) (k := e)
  have hw2 := nmR_wf hS.2.1 hbe2
  refine c_add2 (pl := b) (ot := wd f b2 e2) (ob := some nb2) (kd := 14) hN hS2 hB2 hl (by omega) (fun z => absurd z (by omega)) (hnm.f fr2.d) (fun z => absurd z hw2.2.1) (fun _ => ⟨nb2, rfl, hnm2⟩) (fun z => absurd z (by omega)) fr2 ⟨by omega, by omega⟩ (fun _ => rZ0) (fun w h => h) (fun st' h M3 hS3 hB3 fr3 r1 r2 => ?_)
  rw [h]
  exact (cSp.one hS3 hB3 rZ1).mono (fr2.tr fr3) ⟨by omega, by omega⟩ (by omega) k3
theorem c_file {q0 : Nat} (hN : 2001 ≤ N) (hS : sOk M (z + 2) (z + 3) v f n k) (hB : RB z L M st (nI q0) stv nmr ver) (hl : st.1.length ≤ 200) : cSp z L M f n k (nI q0) stv nmr ver ((f_Reader_takeFile N (z + 1)).1 M) (pFi f n q0 st k) := by
  rw [e_Reader_takeFile, r_let, r_let]
  unfold pFi
  refine c_name2 hN hS hB (fun w hw => by rw [hw]) (fun b e hbe M1 v1 nb hS1 hB1 hnm hwf fr1 rm1 rm2 => ?_)
  rw [hbe]
  dsimp only
  obtain ⟨g0, _, g1, g2, g3, g4, _⟩ := nmR_in hbe
  have hsg0 := sp_ge (f := f) (n := n) (k := k)
  have hsg1 := sp_ge (f := f) (n := n) (k := e)
  have hsl := sp_le (f := f) g3
  refine cSp.mono (M1 := M1) (e := e) ?_ fr1 ⟨by omega, by omega⟩ (by omega) g3
  refine cSp.eq ((r_getR (r := some (z + 2)) hB1.rd rfl).trans (r_nn.trans ((r_is hS1.1.1).trans r_callE))) ?_
  rw [s_sp hN hS1, Option.bind_some]
  dsimp only
  have hS2 : sOk (hm_up M1 (z + 2) (scC (z + 3) (v1.1, nI (sp f n e), v1.2.2))) (z + 2) (z + 3) (v1.1, nI (sp f n e), v1.2.2) f n (sp f n e) := hS1.up hS1.2.2.1 rfl hsl
  have hB2 : RB z L (hm_up M1 (z + 2) (scC (z + 3) (v1.1, nI (sp f n e), v1.2.2))) st (nI q0) stv nmr ver := hB1.sc
  refine cSp.eq ((r_getR (r := some (z + 2)) hB2.rd rfl).trans (r_nn.trans ((r_is hS2.1.1).trans r_callE))) ?_
  rw [s_takeNumber hN hS2]
  have d1 := den_ge (f := f) (n - sp f n e) (sp f n e)
  have d2 := den_le (f := f) (n - sp f n e) (sp f n e)
  by_cases c : nuOk f (sp f n e) (den f (n - sp f n e) (sp f n e) - sp f n e)
  · rw [if_pos c, if_pos c, Option.bind_some]
    dsimp only
    rw [r_if_f (show ¬ (1 : Int32) = 0 by decide), up_up]
    have emin : min (den f (n - sp f n e) (sp f n e) - sp f n e) 6 = den f (n - sp f n e) (sp f n e) - sp f n e := Nat.min_eq_left c.2.1
    rw [emin]
    generalize hq : den f (n - sp f n e) (sp f n e) = q at *
    have hS3 : sOk (hm_up M1 (z + 2) (scC (z + 3) (v1.1, nI q, v1.2.2.1, v1.2.2.2.1, v1.2.2.2.2.1, lN (nv f (sp f n e) (q - sp f n e)), v1.2.2.2.2.2.2))) (z + 2) (z + 3) (v1.1, nI q, v1.2.2.1, v1.2.2.2.1, v1.2.2.2.2.1, lN (nv f (sp f n e) (q - sp f n e)), v1.2.2.2.2.2.2) f n q := hS1.up hS1.2.2.1 rfl (by omega)
    have hB3 : RB z L (hm_up M1 (z + 2) (scC (z + 3) (v1.1, nI q, v1.2.2.1, v1.2.2.2.1, v1.2.2.2.2.1, lN (nv f (sp f n e) (q - sp f n e)), v1.2.2.2.2.2.2))) st (nI q0) stv nmr ver := hB1.sc
    have fr2 : rfr z M1 (hm_up M1 (z + 2) (scC (z + 3) (v1.1, nI q, v1.2.2.1, v1.2.2.2.1, v1.2.2.2.2.1, lN (nv f (sp f n e) (q - sp f n e)), v1.2.2.2.2.2.2))) := rfr_up (Or.inr (Or.inl rfl))
    refine cSp.eq ((r_getR (r := some (z + 2)) hB3.rd rfl).trans (r_nn.trans (r_getL hS3.1.1 rfl))) ?_
    have e21 : (hm_up M1 (z + 2) (scC (z + 3) (v1.1, nI q, v1.2.2.1, v1.2.2.2.1, v1.2.2.2.2.1, lN (nv f (sp f n e) (q - sp f n e)), v1.2.2.2.2.2.2))).2 = M1.2 := rfl
    have cc := c.1
    refine c_add2 (pl := b) (ot := []) (kd := 15) hN hS3 hB3 hl (by omega) (fun z => absurd z (by omega)) (hnm.f fr2.d) (fun _ => rfl) (fun z => absurd rfl z) (fun z => absurd z (by omega)) fr2 rom_up (fun _ => rZ0) (fun w h => h) (fun st' h M2 hS4 hB4 fr3 r1 r2 => ?_)
    rw [e21] at r1 r2
    rw [h]
    exact (cSp.one hS4 hB4 rZ1).mono (fr2.tr fr3) ⟨by omega, by omega⟩ (by omega) (by omega)
  · rw [if_neg c, if_neg c, Option.bind_some]
    dsimp only
    rw [r_if_t rfl, up_up]
    exact cSp.bad hB1 rZ0 rfl
theorem c_names {kd q0 : Nat} {ot : List Int32} {ob : Option Nat} (hN : 2001 ≤ N) (hkd : kd < 16) (hk8 : kd ≠ 8) (ho1 : ot = [] → ob = none) (ho2 : ot ≠ [] → ∃ c, ob = some c ∧ nmA (z + 43) M c ot) (hS : sOk M (z + 2) (z + 3) v f n k) (hB : RB z L M st (nI q0) stv nmr ver) (hl : st.1.length ≤ 200) : cSp z L M f n k (nI q0) stv nmr ver ((f_Reader_takeNames N (z + 1) (nI kd) ob).1 M) (pNm f n q0 kd ot 201 st k) :=
  c_names_loop hN hkd hk8 ho1 201 N 0 M v st k (by omega) (by omega) (by omega) hl hS hB ho2
/-- a feature is noted, if it is new -/
theorem RB.feat {nb : Nat} {w : List Int32} {g2 : Nat → Option Nat} (hB : RB z L M st trp stv nmr ver) (hg : M.1 (z + 6) = some (.inl (3, 181, .inr (.inr (.inr (.inr g2)))))) (hnm : nmA (z + 43) M nb w) (hw : wfN w) (hn : hasF w (dsF st.2.1) = false) : RB z L (hm_up (hm_up M (z + 6) (.inl (3, 181, .inr (.inr (.inr (.inr (va_up g2 (dsF st.2.1).length (some nb)))))))) (z + 1) (rdC z (nI st.1.length) (nI ((dsF st.2.1).length + 1)) nmr ver trp stv)) (st.1, st.2.1 ++ [w], st.2.2) trp stv nmr ver := by
  obtain ⟨g, h, g2', a1, a2, a3, a4, a5, a6, a7, a8⟩ := hB
  rw [hg] at a4
  cases a4
  have hd : dsF (st.2.1 ++ [w]) = dsF st.2.1 ++ [w] := by
    unfold dsF
    rw [dst_app]
    rw [if_neg (by unfold dsF at hn; rw [hn]; decide)]
  have fr : dfr (z + 43) M (hm_up (hm_up M (z + 6) (.inl (3, 181, .inr (.inr (.inr (.inr (va_up g2 (dsF st.2.1).length (some nb)))))))) (z + 1) (rdC z (nI st.1.length) (nI ((dsF st.2.1).length + 1)) nmr ver trp stv)) := ⟨Nat.le_refl _, fun b hb _ => (up_n (by omega)).trans (up_n (by omega))⟩
  refine ⟨g, h, va_up g2 (dsF st.2.1).length (some nb), ?_, (up_n (by omega)).trans ((up_n (by omega)).trans a2), (up_n (by omega)).trans ((up_n (by omega)).trans a3), (up_n (by omega)).trans up_s, fun i x hx => ?_, a6, fun i x hx => ?_, a8⟩
  · rw [show (st.1, st.2.1 ++ [w], st.2.2).2.1 = st.2.1 ++ [w] from rfl, hd, List.length_append]; exact up_s
  · obtain ⟨b, b1, b2, b3⟩ := a5 i x hx
    exact ⟨b, b1, b2.f fr, b3⟩
  · rw [show (st.1, st.2.1 ++ [w], st.2.2).2.1 = st.2.1 ++ [w] from rfl, hd] at hx
    rcases app_get hx with d | ⟨d1, d2⟩
    · obtain ⟨c, c1, c2, c3⟩ := a7 i x d
      have := (List.getElem?_eq_some_iff.mp d).1
      exact ⟨c, by rw [ua_n (by omega)]; exact c1, c2.f fr, c3⟩
    · rw [d1, d2]
      exact ⟨nb, ua_s, hnm.f fr, hw⟩
theorem RB.feat0 {w : List Int32} (hB : RB z L M st trp stv nmr ver) (hn : hasF w (dsF st.2.1) = true) : RB z L M (st.1, st.2.1 ++ [w], st.2.2) trp stv nmr ver := by
  have hd : dsF (st.2.1 ++ [w]) = dsF st.2.1 := by
    unfold dsF
    rw [dst_app]
    exact if_pos hn
  obtain ⟨g, h, g2, a⟩ := hB
  refine ⟨g, h, g2, ?_⟩
  rw [show (st.1, st.2.1 ++ [w], st.2.2).2.1 = st.2.1 ++ [w] from rfl, hd]
  exact a
theorem c_feature {q0 : Nat} (hN : 2001 ≤ N) (hS : sOk M (z + 2) (z + 3) v f n k) (hB : RB z L M st (nI q0) stv nmr ver) (hl : st.1.length ≤ 200) (hF : st.2.1.length < 181) : cSp z L M f n k (nI q0) stv nmr ver ((f_Reader_takeFeature N (z + 1)).1 M) (pFt f n q0 st k) := by
  rw [e_Reader_takeFeature, r_let]
  unfold pFt
  refine c_name2 hN hS hB (fun w hw => by rw [hw]) (fun b e hbe M1 v1 nb hS1 hB1 hnm hwf fr1 rm1 rm2 => ?_)
  rw [hbe]
  dsimp only
  obtain ⟨g0, _, g1, g2, g3, g4, _⟩ := nmR_in hbe
  have hw := nmR_wf hS.2.1 hbe
  have hsg0 := sp_ge (f := f) (n := n) (k := k)
  have hsg1 := sp_ge (f := f) (n := n) (k := e)
  have hsl := sp_le (f := f) g3
  refine cSp.mono (M1 := M1) (e := e) ?_ fr1 ⟨by omega, by omega⟩ (by omega) g3
  -- behind the feature's name
  have tail : ∀ (M2 : hM), sOk M2 (z + 2) (z + 3) v1 f n e → RB z L M2 (st.1, st.2.1 ++ [wd f b e], st.2.2) (nI q0) stv nmr ver → nmA (z + 43) M2 nb (wd f b e) → rfr z M1 M2 → M2.2 = M1.2 → cSp z L M1 f n e (nI q0) stv nmr ver ((b_let (fun (y0 : Int32) => b_retN .boolean y0) (fun J108 => b_let (J108 1) (fun J103 => b_getR (z + 1) 6 0 (fun r1 => b_nn r1 (fun a2 => b_is a2 8 (b_call (f_Scan_takeSign N a2 58) (fun v3 => (if v3 = 0 then b_retN .boolean 0 else b_getR (z + 1) 6 0 (fun r7 => b_nn r7 (fun a8 => b_is a8 8 (b_call (f_Scan_isNext N a8 59) (fun v9 => (if v9 = 0 then b_is (z + 1) 6 (b_call (f_Reader_takeNames N (z + 1) 9 (some nb)) (fun v13 => (if v13 = 0 then J108 0 else J103))) else J103))))))))))))).1 M2) (if sgn f n (sp f n e) = 58 then (if sgn f n (sp f n (sp f n e + 1)) = 59 then .inr (sp f n (sp f n e + 1), st.1, st.2.1 ++ [wd f b e], st.2.2) else pNm f n q0 9 (wd f b e) 201 (st.1, st.2.1 ++ [wd f b e], st.2.2) (sp f n (sp f n e + 1))) else .inl (sp f n e)) := by
    intro M2 hS2 hB2 hnm2 fr2 e22
    refine cSp.mono (M1 := M2) (e := e) ?_ fr2 ⟨by rw [e22]; omega, by rw [e22]; omega⟩ (Nat.le_refl _) g3
    rw [r_let, r_let]
    refine cSp.eq ((r_getR (r := some (z + 2)) hB2.rd rfl).trans (r_nn.trans ((r_is hS2.1.1).trans r_callE))) ?_
    rw [s_takeSign (by decide) hN hS2]
    by_cases c : sgn f n (sp f n e) = 58
    · rw [if_pos c, if_pos c, Option.bind_some]
      have hc := sgn_0 (by decide) c
      dsimp only
      rw [r_if_f (show ¬ (1 : Int32) = 0 by decide)]
      have hs2 := sp_ge (f := f) (n := n) (k := sp f n e + 1)
      have hs3 := sp_le (f := f) (show sp f n e + 1 ≤ n by omega)
      have hS3 : sOk (hm_up M2 (z + 2) (scC (z + 3) (v1.1, nI (sp f n e + 1), v1.2.2))) (z + 2) (z + 3) (v1.1, nI (sp f n e + 1), v1.2.2) f n (sp f n e + 1) := hS2.up hS2.2.2.1 rfl (by omega)
      have hB3 : RB z L (hm_up M2 (z + 2) (scC (z + 3) (v1.1, nI (sp f n e + 1), v1.2.2))) (st.1, st.2.1 ++ [wd f b e], st.2.2) (nI q0) stv nmr ver := hB2.sc
      refine cSp.eq ((r_getR (r := some (z + 2)) hB3.rd rfl).trans (r_nn.trans ((r_is hS3.1.1).trans r_callE))) ?_
      rw [s_isNext hN hS3, Option.bind_some]
      dsimp only
      rw [up_up]
      have hS4 : sOk (hm_up M2 (z + 2) (scC (z + 3) (v1.1, nI (sp f n (sp f n e + 1)), v1.2.2))) (z + 2) (z + 3) (v1.1, nI (sp f n (sp f n e + 1)), v1.2.2) f n (sp f n (sp f n e + 1)) := hS2.up hS2.2.2.1 rfl hs3
      have hB4 : RB z L (hm_up M2 (z + 2) (scC (z + 3) (v1.1, nI (sp f n (sp f n e + 1)), v1.2.2))) (st.1, st.2.1 ++ [wd f b e], st.2.2) (nI q0) stv nmr ver := hB2.sc
      refine cSp.sc (w := (v1.1, nI (sp f n (sp f n e + 1)), v1.2.2)) (e := sp f n (sp f n e + 1)) (by omega) hs3 ?_
      by_cases d : sgn f n (sp f n (sp f n e + 1)) = 59
      · rw [bI_t d, r_if_f (show ¬ (1 : Int32) = 0 by decide), if_pos d]
        exact cSp.one hS4 hB4 rZ1
      · rw [bI_f d, r_if_t rfl, if_neg d]
        refine cSp.eq ((r_is hB4.rd).trans r_callE) ?_
        have hM := c_names (N := N) (kd := 9) (q0 := q0) (ot := wd f b e) (ob := some nb) hN (by omega) (by omega) (fun z => absurd z hw.2.1) (fun _ => ⟨nb, rfl, hnm2.f (rfr_up (z := z) (Or.inr (Or.inl rfl))).d⟩) hS4 hB4 hl
        have hM' : cSp z L (hm_up M2 (z + 2) (scC (z + 3) (v1.1, nI (sp f n (sp f n e + 1)), v1.2.2))) f n (sp f n (sp f n e + 1)) (nI q0) stv nmr ver ((f_Reader_takeNames N (z + 1) 9 (some nb)).1 (hm_up M2 (z + 2) (scC (z + 3) (v1.1, nI (sp f n (sp f n e + 1)), v1.2.2)))) (pNm f n q0 9 (wd f b e) 201 (st.1, st.2.1 ++ [wd f b e], st.2.2) (sp f n (sp f n e + 1))) := hM
        revert hM'
        cases pNm f n q0 9 (wd f b e) 201 (st.1, st.2.1 ++ [wd f b e], st.2.2) (sp f n (sp f n e + 1)) with
        | inl w =>
          rintro ⟨M5, v5, x1, x2⟩
          exact ⟨M5, v5, by rw [x1, Option.bind_some, r_if_t rfl]; exact rZ0, x2⟩
        | inr x =>
          rintro ⟨M5, v5, x1, x2⟩
          exact ⟨M5, v5, by rw [x1, Option.bind_some, r_if_f (show ¬ (1 : Int32) = 0 by decide)]; exact rZ1, x2⟩
    · rw [if_neg c, if_neg c, Option.bind_some]
      dsimp only
      rw [r_if_t rfl]
      exact cSp.bad hB2 rZ0 rfl
  have hB1' := hB1
  obtain ⟨g, h, g2', a1, a2, a3, a4, a5, a6, a7, a8⟩ := hB1'
  have hdl := dst_len [] st.2.1
  have hdl' : (dsF st.2.1).length ≤ st.2.1.length := by have : ([] : List (List Int32)).length = 0 := rfl; unfold dsF; omega
  have ho := s_oneOf (N := N) (D := z + 43) (M := M1) hN hw.1 hnm a4 (by omega) (by omega) a7
  have nmc : ∃ fs, M1.1 nb = some (.inr (2, fs)) := by obtain ⟨_, _, _, _, _, q, _⟩ := hnm; exact ⟨_, q⟩
  obtain ⟨fs, nmc⟩ := nmc
  refine cSp.eq ((r_getR (r := some (z + 6)) a1 rfl).trans ((r_getI a1 rfl).trans (r_nn.trans ((r_is nmc).trans r_callE)))) ?_
  rw [ho, Option.bind_some]
  dsimp only
  cases hh : hasF (wd f b e) (dsF st.2.1) with
  | true =>
    rw [r_if_f (show ¬ bZ true = 0 by decide)]
    exact tail M1 hS1 (hB1.feat0 hh) hnm rfr.rf rfl
  | false =>
    rw [r_if_t (show bZ false = 0 by decide)]
    have i1 : ¬ (nI (dsF st.2.1).length < 0 ∨ 181 ≤ (nI (dsF st.2.1).length).toNatClampNeg) := nI_in (by omega) (by decide)
    have c1 := nI_clamp (n := (dsF st.2.1).length) (by omega)
    refine cSp.eq ((r_getI a1 rfl).trans ((r_getR (r := some (z + 6)) a1 rfl).trans (r_nn.trans (r_len a4)))) ?_
    dsimp only
    rw [r_if_f (show ¬ nI 181 ≤ nI (dsF st.2.1).length from nI_ge (by omega) (by omega))]
    refine cSp.eq ((r_getR (r := some (z + 6)) a1 rfl).trans ((r_getI a1 rfl).trans (r_nn.trans (r_astR a4 i1 nmc)))) ?_
    rw [c1]
    have b1 : ∀ e, (hm_up M1 (z + 6) e).1 (z + 1) = some (rdC z (nI st.1.length) (nI (dsF st.2.1).length) nmr ver (nI q0) stv) := fun e => (up_n (by omega)).trans a1
    refine cSp.eq ((r_getI (b1 _) rfl).trans (r_put (b1 _) (Nat.le_of_ble_eq_true rfl))) ?_
    rw [nI_1]
    have fr2 : rfr z M1 (hm_up (hm_up M1 (z + 6) (.inl (3, 181, .inr (.inr (.inr (.inr (va_up g2' (dsF st.2.1).length (some nb)))))))) (z + 1) (rdC z (nI st.1.length) (nI ((dsF st.2.1).length + 1)) nmr ver (nI q0) stv)) := (rfr_up (Or.inr (Or.inr (Or.inr (Or.inr rfl))))).tr (rfr_up (Or.inl rfl))
    exact tail _ (hS1.o ((up_n (by omega)).trans (up_n (by omega))) ((up_n (by omega)).trans (up_n (by omega)))) (hB1.feat a4 hnm hw.1 hh) (hnm.f fr2.d) fr2 rfl
end CROW3
