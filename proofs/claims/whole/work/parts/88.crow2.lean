/-! LAYER 2: the class reads rows of each kind -/
section CROW2
variable {N z L : Nat} {M M' M'' : hM} {v : sV} {f : Nat → Int32} {n k : Nat} {st : aP} {trp stv : Int32} {nmr : Option Nat} {ver : Int64}
theorem cSp.one {X : Option (Int32 × hM)} (hS : sOk M (z + 2) (z + 3) v f n k) (hB : RB z L M st trp stv nmr ver) (e : X = some (1, M)) : cSp z L M f n k trp stv nmr ver X (.inr (k, st)) := ⟨M, v, e, hS, hB, rfr.rf, rom.rf, Nat.le_refl _⟩
/-- the scan alone went on -/
theorem cSp.sc {w : sV} {e : Nat} {X : Option (Int32 × hM)} {res : Nat ⊕ (Nat × aP)} (hk : k ≤ e) (he : e ≤ n) (h : cSp z L (hm_up M (z + 2) (scC (z + 3) w)) f n e trp stv nmr ver X res) : cSp z L M f n k trp stv nmr ver X res := h.mono (rfr_up (Or.inr (Or.inl rfl))) rom_up hk he
/-- a NAME is taken and made; its room is told -/
theorem c_name2 {K : Option Nat → hX Int32} {res : Nat ⊕ (Nat × aP)} (hN : 2001 ≤ N) (hS : sOk M (z + 2) (z + 3) v f n k) (hB : RB z L M st trp stv nmr ver) (h1 : ∀ w, nmR f n k = .inl w → res = .inl w) (h2 : ∀ b e, nmR f n k = .inr (b, e) → ∀ M1 v1 nb, sOk M1 (z + 2) (z + 3) v1 f n e → RB z L M1 st trp stv nmr ver → nmA (z + 43) M1 nb (wd f b e) → v1.2.2.2.1 = nI b → rfr z M M1 → M1.2.1 = M.2.1 + 3 → M1.2.2 ≤ M.2.2 + 43 → cSp z L M f n k trp stv nmr ver ((K (some nb)).1 M1) res) :
    cSp z L M f n k trp stv nmr ver ((b_getR (z + 1) 6 0 (fun r1 => b_nn r1 (fun a2 => b_is a2 8 (b_call (f_Scan_takeName N a2) (fun v3 => (if v3 = 0 then b_retN .boolean 0 else b_getR (z + 1) 6 0 (fun r7 => b_nn r7 (fun a8 => b_is a8 8 (b_call (f_Scan_takenName N a8) (fun r9 => K r9)))))))))).1 M) res := by
  have hT := s_takeName (N := N) hN hS
  have hn := hS.2.2.2.2.1
  have hD := hB.lt
  refine cSp.eq ((r_getR (r := some (z + 2)) hB.rd rfl).trans (r_nn.trans ((r_is hS.1.1).trans r_callE))) ?_
  by_cases c : cL (sgn f n (sp f n k)) ∧ nmOk f n (sp f n k)
  · have hr : nmR f n k = .inr (sp f n k, we f n (sp f n k)) := if_pos c
    obtain ⟨_, _, g1, g2, g3, g4, _⟩ := nmR_in hr
    rw [if_pos c.1, if_pos c.2] at hT
    rw [hT, Option.bind_some]
    dsimp only
    rw [r_if_f (show ¬ (1 : Int32) = 0 by decide)]
    have hS1 : sOk (hm_up M (z + 2) (scC (z + 3) (wSt v f n (sp f n k)))) (z + 2) (z + 3) (wSt v f n (sp f n k)) f n (we f n (sp f n k)) := hS.up hS.2.2.1 rfl g3
    have hB1 : RB z L (hm_up M (z + 2) (scC (z + 3) (wSt v f n (sp f n k)))) st trp stv nmr ver := hB.sc
    have hwf := nmR_wf hS.2.1 hr
    obtain ⟨M2, t1, t2, t3, t4, t5⟩ := s_taken (N := N) (D := z + 43) (s := sp f n k) (e := we f n (sp f n k)) hN hS1.1 rfl rfl (by omega) (by omega) hwf.1 hB1.lt (by omega) (by omega)
    refine cSp.eq ((r_getR (r := some (z + 2)) hB1.rd rfl).trans (r_nn.trans ((r_is hS1.1.1).trans r_callE))) ?_
    rw [t1, Option.bind_some]
    have d2 : dfr (z + 43) (hm_up M (z + 2) (scC (z + 3) (wSt v f n (sp f n k)))) M2 := ⟨by omega, fun b _ hb => t3 b hb⟩
    have lt : ∀ b, b < z + 43 → M2.1 b = (hm_up M (z + 2) (scC (z + 3) (wSt v f n (sp f n k)))).1 b := fun b hb => t3 b (Nat.lt_of_lt_of_le hb hB1.lt)
    have hS2 : sOk M2 (z + 2) (z + 3) (wSt v f n (sp f n k)) f n (we f n (sp f n k)) := hS1.o (lt _ (by omega)) (lt _ (by omega))
    have hB2 : RB z L M2 st trp stv nmr ver := hB1.fr d2 (lt _ (by omega)) (lt _ (by omega)) (lt _ (by omega)) (lt _ (by omega))
    have e21 : (hm_up M (z + 2) (scC (z + 3) (wSt v f n (sp f n k)))).2 = M.2 := rfl
    refine h2 _ _ hr M2 (wSt v f n (sp f n k)) _ hS2 hB2 t2 rfl ((rfr_up (Or.inr (Or.inl rfl))).tr ⟨by omega, fun b hb _ _ _ _ _ => t3 b hb⟩) ?_ ?_
    · rw [t4, e21]
    · rw [t5, e21]; omega
  · have hr : nmR f n k = .inl (sp f n k) := if_neg c
    rw [h1 _ hr]
    by_cases c1 : cL (sgn f n (sp f n k))
    · rw [if_pos c1, if_neg (fun z => c ⟨c1, z⟩)] at hT
      rw [hT, Option.bind_some]
      dsimp only
      rw [r_if_t rfl]
      exact cSp.bad hB rZ0 rfl
    · rw [if_neg c1] at hT
      rw [hT, Option.bind_some]
      dsimp only
      rw [r_if_t rfl]
      exact cSp.bad hB rZ0 rfl
theorem c_add2 {M0 : hM} {kd q0 pl nb q : Nat} {nm ot : List Int32} {ob : Option Nat} {lo hi : Int64} {K0 K1 : hX Int32} {res : Nat ⊕ (Nat × aP)} (hN : 2001 ≤ N) (hS : sOk M (z + 2) (z + 3) v f n q) (hB : RB z L M st (nI q0) stv nmr ver) (hl : st.1.length ≤ 200) (hkd : kd < 16) (h8 : kd = 8 → stv = nI st.2.2) (hnm : nmA (z + 43) M nb nm) (ho1 : ot = [] → ob = none) (ho2 : ot ≠ [] → ∃ c, ob = some c ∧ nmA (z + 43) M c ot) (hpl : kd = 10 → v.2.2.2.1 = nI pl) (g0 : rfr z M0 M) (r0 : rom M0 M (n - k)) (hKk : ∀ M1, K0.1 M1 = some (0, M1))
    (h1 : ∀ w, adR st q0 kd pl nm ot lo hi q = .inl w → res = .inl w) (h2 : ∀ st', adR st q0 kd pl nm ot lo hi q = .inr (q, st') → ∀ M1, sOk M1 (z + 2) (z + 3) v f n q → RB z L M1 st' (nI q0) stv nmr ver → rfr z M M1 → M1.2.1 = M.2.1 + 1 → M1.2.2 = M.2.2 + 8 → cSp z L M0 f n k (nI q0) stv nmr ver (K1.1 M1) res) :
    cSp z L M0 f n k (nI q0) stv nmr ver ((b_is (z + 1) 6 (b_call (f_Reader_addRow N (z + 1) (nI kd) (some nb) ob lo hi) (fun v25 => (if v25 = 0 then K0 else K1)))).1 M) res := by
  have h := s_add (N := N) (lo := lo) (hi := hi) (pl := pl) hN hS hB hl hkd h8 hnm ho1 ho2 hpl
  refine cSp.eq ((r_is hB.rd).trans r_callE) ?_
  unfold adR at h1 h2
  by_cases c : st.1.length = 200
  · rw [if_pos c] at h h1
    rw [h, Option.bind_some, r_if_t rfl, h1 _ rfl]
    obtain ⟨M', v', a1, a2, a3, a4, a5, a6⟩ := cSp.bad (z := z) (f := f) (n := n) (k := n) (w := q0) hB (hKk (hm_up M (z + 2) (scC (z + 3) (v.1, v.2.1, nI q0, v.2.2.2)))) rfl
    exact ⟨M', v', a1, a2, a3, g0.tr a4, a5, (r0.tr a6).le (by omega)⟩
  · rw [if_neg c] at h h2
    obtain ⟨M1, r1, r2, r3, r4, r5, r6⟩ := h
    rw [r1, Option.bind_some, r_if_f (show ¬ (1 : Int32) = 0 by decide)]
    exact h2 _ rfl M1 r2 r3 r4 r5 r6
/-- NAME RANGE, not of any -/
theorem c_ranged {kd q0 : Nat} (hN : 2001 ≤ N) (hS : sOk M (z + 2) (z + 3) v f n k) (hB : RB z L M st (nI q0) stv nmr ver) (hl : st.1.length ≤ 200) (hkd : kd < 16) (hk10 : kd ≠ 10) (hk8 : kd ≠ 8) : cSp z L M f n k (nI q0) stv nmr ver ((f_Reader_takeRanged N (z + 1) (nI kd)).1 M) (pRg f n q0 kd st k) := by
  obtain ⟨N', hN'⟩ : ∃ g, N = g + 1 := ⟨N - 1, by omega⟩
  have go : (f_Reader_takeRanged N (z + 1) (nI kd)).1 M = (f_Reader_takeRanged_28 N (z + 1) (nI kd) (N' + 1) 0 0).1 M := by
    rw [e_Reader_takeRanged, r_let, r_if_f (show ¬ nI kd = 8 from fun z => hk8 ((nI_eq (b := 8) (by omega) (by omega)).mp z)), ← hN']
    dsimp only
    rw [r_let, r_if_t rfl]
  refine cSp.eq go ?_
  rw [e_Reader_takeRanged_28, r_let, r_let, r_if_f (show ¬ (200 : Int32) < 0 by decide)]
  refine c_rg hN hS hB hl hkd hk10 (fun z => absurd z hk8) (fun w h => h) (fun q st' h M1 v1 hS1 hB1 => ?_)
  rw [h, r_if_t rfl]
  exact cSp.one hS1 hB1 rZ1
theorem c_any_loop {q0 : Nat} (hN : 2001 ≤ N) : ∀ (u fu j : Nat) (M : hM) (v : sV) (st : aP) (k : Nat), u + j = 201 → u < fu → 200 < u + st.1.length → st.1.length ≤ 200 → sOk M (z + 2) (z + 3) v f n k → RB z L M st (nI q0) (nI st.2.2) nmr ver → stv = nI st.2.2 →
    cSp z L M f n k (nI q0) stv nmr ver ((f_Reader_takeRanged_28 N (z + 1) (nI 8) fu 1 (nI j)).1 M) (pAn f n q0 u (decide (j = 0)) st k) := by
  intro u
  induction u with
  | zero => intro fu j M v st k h1 h2 h3 h4; omega
  | succ u ih =>
    intro fu j M v st k h1 h2 h3 h4 hS hB hsv
    obtain ⟨fu, rfl⟩ : ∃ g, fu = g + 1 := ⟨fu - 1, by omega⟩
    rw [e_Reader_takeRanged_28, r_let, r_let, r_if_f (show ¬ (200 : Int32) < nI j from nI_nlt (a := 200) (by omega) (by omega))]
    rw [show pAn f n q0 (u + 1) (decide (j = 0)) st k = match pRg f n q0 8 st k with
      | .inl w => .inl w
      | .inr (q, st') => if sgn f n (sp f n q) = 124 then pAn f n q0 u false st' (sp f n q + 1) else if decide (j = 0) = true then .inl (sp f n q) else .inr (sp f n q, st') from rfl]
    rw [← hsv] at hB
    refine c_rg hN hS hB h4 (by omega) (by omega) (fun _ => hsv) (fun w h => by rw [h]) (fun q st' h M1 v1 hS1 hB1 => ?_)
    rw [h]
    dsimp only
    obtain ⟨q1, q2, q3⟩ := pRg_q h
    have hlen := (pRg_len h).1
    have hsl := sp_le (f := f) q2
    have hsg := sp_ge (f := f) (n := n) (k := q)
    have hl' : st.1.length ≠ 200 := by
      intro e
      unfold pRg at h
      cases hr : nmR f n k with
      | inl w => rw [hr] at h; cases h
      | inr be =>
        rw [hr] at h; dsimp only at h
        cases hr2 : rgR f n be.2 with
        | inl w => rw [hr2] at h; cases h
        | inr x => rw [hr2] at h; exact (adR_len h).2.2.2 e
    have hT := s_takeIfNext (N := N) (c := 124) (by decide) hN hS1
    rw [r_if_f (show ¬ (1 : Int32) = 0 by decide)]
    refine cSp.eq ((r_getR (r := some (z + 2)) hB1.rd rfl).trans (r_nn.trans ((r_is hS1.1.1).trans r_callE))) ?_
    by_cases c : sgn f n (sp f n q) = 124
    · rw [if_pos c] at hT ⊢
      have hc := sgn_0 (by decide) c
      rw [hT, Option.bind_some]
      dsimp only
      rw [r_if_f (show ¬ (1 : Int32) = 0 by decide), nI_1]
      have hS2 : sOk (hm_up M1 (z + 2) (scC (z + 3) (v1.1, nI (sp f n q + 1), v1.2.2))) (z + 2) (z + 3) (v1.1, nI (sp f n q + 1), v1.2.2) f n (sp f n q + 1) := hS1.up hS1.2.2.1 rfl (by omega)
      have := ih fu (j + 1) _ _ st' (sp f n q + 1) (by omega) (by omega) (by omega) (by omega) hS2 (by rw [q3, ← hsv]; exact hB1.sc) (by rw [q3]; exact hsv)
      rw [show decide (j + 1 = 0) = false from decide_eq_false (by omega)] at this
      exact this.mono (rfr_up (Or.inr (Or.inl rfl))) rom_up (by omega) (by omega)
    · rw [if_neg c] at hT ⊢
      rw [hT, Option.bind_some]
      dsimp only
      rw [r_if_t rfl]
      have hS2 : sOk (hm_up M1 (z + 2) (scC (z + 3) (v1.1, nI (sp f n q), v1.2.2))) (z + 2) (z + 3) (v1.1, nI (sp f n q), v1.2.2) f n (sp f n q) := hS1.up hS1.2.2.1 rfl hsl
      have hB2 : RB z L (hm_up M1 (z + 2) (scC (z + 3) (v1.1, nI (sp f n q), v1.2.2))) st' (nI q0) stv nmr ver := hB1.sc
      refine cSp.sc (w := (v1.1, nI (sp f n q), v1.2.2)) (e := sp f n q) hsg hsl ?_
      by_cases z0 : j = 0
      · rw [decide_eq_true z0, if_pos rfl, r_if_f (show ¬ 0 < nI j by rw [z0]; decide)]
        refine cSp.eq ((r_getR (r := some (z + 2)) hB2.rd rfl).trans ((r_getR (r := some (z + 2)) hB2.rd rfl).trans (r_nn.trans ((r_getI hS2.1.1 rfl).trans (r_nn.trans ((r_is hS2.1.1).trans r_callE)))))) ?_
        rw [s_refuse hS2.1.1, Option.bind_some]
        dsimp only
        rw [r_if_t rfl]
        exact cSp.bad hB2 rZ0 rfl
      · rw [decide_eq_false z0, if_neg (show ¬ (false = true) by decide), r_if_t (show 0 < nI j from nI_lt (a := 0) (by omega) (by omega))]
        exact cSp.one hS2 hB2 rZ1
theorem c_any {q0 : Nat} (hN : 2001 ≤ N) (hS : sOk M (z + 2) (z + 3) v f n k) (hB : RB z L M st (nI q0) (nI st.2.2 - 1) nmr ver) (hl : st.1.length ≤ 200) : match pAny f n q0 st k with
    | .inl w => cSp z L M f n k (nI q0) (nI st.2.2) nmr ver ((f_Reader_takeRanged N (z + 1) (nI 8)).1 M) (.inl w)
    | .inr (q, st') => cSp z L M f n k (nI q0) (nI st'.2.2 - 1) nmr ver ((f_Reader_takeRanged N (z + 1) (nI 8)).1 M) (.inr (q, st')) := by
  obtain ⟨g, h, g2, a1, a2, a3, a4, a5, a6, a7, a8⟩ := hB
  have go : (f_Reader_takeRanged N (z + 1) (nI 8)).1 M = (f_Reader_takeRanged_28 N (z + 1) (nI 8) N 1 (nI 0)).1 (hm_up M (z + 1) (rdC z (nI st.1.length) (nI (dsF st.2.1).length) nmr ver (nI q0) (nI st.2.2))) := by
    rw [e_Reader_takeRanged, r_let, r_if_t (show nI 8 = 8 from rfl)]
    dsimp only
    rw [r_let, r_if_f (show ¬ (1 : Int32) = 0 by decide)]
    refine (r_getI a1 rfl).trans ((r_put a1 (Nat.le_of_ble_eq_true rfl)).trans ?_)
    rw [Int32.sub_add_cancel]
    rfl
  have hfr : rfr z M (hm_up M (z + 1) (rdC z (nI st.1.length) (nI (dsF st.2.1).length) nmr ver (nI q0) (nI st.2.2))) := rfr_up (Or.inl rfl)
  have hS1 : sOk (hm_up M (z + 1) (rdC z (nI st.1.length) (nI (dsF st.2.1).length) nmr ver (nI q0) (nI st.2.2))) (z + 2) (z + 3) v f n k := hS.o (up_n (by omega)) (up_n (by omega))
  have hB1 : RB z L (hm_up M (z + 1) (rdC z (nI st.1.length) (nI (dsF st.2.1).length) nmr ver (nI q0) (nI st.2.2))) st (nI q0) (nI st.2.2) nmr ver := by
    refine ⟨g, h, g2, up_s, (up_n (by omega)).trans a2, (up_n (by omega)).trans a3, (up_n (by omega)).trans a4, fun i x hx => ?_, a6, a7.f hfr.d, a8⟩
    obtain ⟨b, b1, b2, b3⟩ := a5 i x hx
    exact ⟨b, b1, b2.f hfr.d, b3⟩
  have hL := c_any_loop (stv := nI st.2.2) (q0 := q0) hN 201 N 0 _ v st k (by omega) (by omega) (by omega) hl hS1 hB1 rfl
  rw [show decide (0 = 0) = true from rfl] at hL
  unfold pAny
  have hk := hS.2.2.2.2.2
  cases hr : pAn f n q0 201 true st k with
  | inl w =>
    rw [hr] at hL
    exact cSp.eq go (hL.mono hfr rom_up (Nat.le_refl _) hk)
  | inr x =>
    obtain ⟨q, st'⟩ := x
    rw [hr] at hL
    dsimp only
    have e2 := pAn_st 201 true st k q st' hr
    obtain ⟨M', v', b1, b2, b3, b4, b5, b6⟩ := hL
    refine cSp.eq go ((show cSp z L _ f n k (nI q0) (nI (st'.2.2 + 1) - 1) nmr ver _ (.inr (q, st'.1, st'.2.1, st'.2.2 + 1)) from ⟨M', v', b1, b2, ?_, b4, b5, b6⟩).mono hfr rom_up (Nat.le_refl _) hk)
    have e3 : nI (st'.2.2 + 1) - 1 = nI st.2.2 := by rw [nI_pred, e2]
    rw [e3]
    exact b3
theorem c_names_loop {kd q0 : Nat} {ot : List Int32} {ob : Option Nat} (hN : 2001 ≤ N) (hkd : kd < 16) (hk8 : kd ≠ 8) (ho1 : ot = [] → ob = none) : ∀ (u fu j : Nat) (M : hM) (v : sV) (st : aP) (k : Nat), u + j = 201 → u < fu → 200 < u + st.1.length → st.1.length ≤ 200 → sOk M (z + 2) (z + 3) v f n k → RB z L M st (nI q0) stv nmr ver → (ot ≠ [] → ∃ c, ob = some c ∧ nmA (z + 43) M c ot) →
    cSp z L M f n k (nI q0) stv nmr ver ((f_Reader_takeNames_2 N (z + 1) (nI kd) ob fu (nI j)).1 M) (pNm f n q0 kd ot u st k) := by
  intro u
  induction u with
  | zero => intro fu j M v st k h1 h2 h3 h4; omega
  | succ u ih =>
    intro fu j M v st k h1 h2 h3 h4 hS hB ho2
    obtain ⟨fu, rfl⟩ : ∃ g, fu = g + 1 := ⟨fu - 1, by omega⟩
    rw [e_Reader_takeNames_2, r_if_f (show ¬ (200 : Int32) < nI j from nI_nlt (a := 200) (by omega) (by omega))]
    rw [show pNm f n q0 kd ot (u + 1) st k = match nmR f n k with
      | .inl w => .inl w
      | .inr (b, e) => match adR st q0 kd b (wd f b e) ot (-1) (-1) e with
        | .inl w => .inl w
        | .inr (q, st') => if sgn f n (sp f n q) = 44 then pNm f n q0 kd ot u st' (sp f n q + 1) else .inr (sp f n q, st') from rfl]
    refine c_name2 hN hS hB (fun w hw => by rw [hw]) (fun b e hbe M1 v1 nb hS1 hB1 hnm hwf fr1 rm1 rm2 => ?_)
    rw [hbe]
    dsimp only
    obtain ⟨g0, _, g1, g2, g3, g4, _⟩ := nmR_in hbe
    have hsg0 := sp_ge (f := f) (n := n) (k := k)
    have ho2' : ot ≠ [] → ∃ c, ob = some c ∧ nmA (z + 43) M1 c ot := fun y => by
      obtain ⟨c, y1, y2⟩ := ho2 y
      exact ⟨c, y1, y2.f fr1.d⟩
    refine c_add2 (pl := b) hN hS1 hB1 h4 hkd (fun z => absurd z hk8) hnm ho1 ho2' (fun _ => hwf) fr1 ⟨by omega, by omega⟩ (fun _ => rZ0) (fun w h => by rw [h]) (fun st' h M2 hS2 hB2 fr2 r1 r2 => ?_)
    rw [h]
    dsimp only
    have hal := adR_len h
    have hsl := sp_le (f := f) g3
    have hsg := sp_ge (f := f) (n := n) (k := e)
    refine cSp.mono (M1 := M2) (e := e) ?_ (fr1.tr fr2) ⟨by omega, by omega⟩ (by omega) g3
    have hT := s_takeIfNext (N := N) (c := 44) (by decide) hN hS2
    refine cSp.eq ((r_getR (r := some (z + 2)) hB2.rd rfl).trans (r_nn.trans ((r_is hS2.1.1).trans r_callE))) ?_
    by_cases c : sgn f n (sp f n e) = 44
    · rw [if_pos c] at hT ⊢
      have hc := sgn_0 (by decide) c
      rw [hT, Option.bind_some]
      dsimp only
      rw [r_if_f (show ¬ (1 : Int32) = 0 by decide), nI_1]
      have hS3 : sOk (hm_up M2 (z + 2) (scC (z + 3) (v1.1, nI (sp f n e + 1), v1.2.2))) (z + 2) (z + 3) (v1.1, nI (sp f n e + 1), v1.2.2) f n (sp f n e + 1) := hS2.up hS2.2.2.1 rfl (by omega)
      refine (ih fu (j + 1) _ _ st' (sp f n e + 1) (by omega) (by omega) (by omega) (by omega) hS3 hB2.sc (fun y => ?_)).mono (rfr_up (Or.inr (Or.inl rfl))) rom_up (by omega) (by omega)
      obtain ⟨c, y1, y2⟩ := ho2' y
      exact ⟨c, y1, (y2.f fr2.d).f (rfr_up (z := z) (Or.inr (Or.inl rfl))).d⟩
    · rw [if_neg c] at hT ⊢
      rw [hT, Option.bind_some]
      dsimp only
      rw [r_if_t rfl]
      have hS3 : sOk (hm_up M2 (z + 2) (scC (z + 3) (v1.1, nI (sp f n e), v1.2.2))) (z + 2) (z + 3) (v1.1, nI (sp f n e), v1.2.2) f n (sp f n e) := hS2.up hS2.2.2.1 rfl hsl
      exact cSp.sc hsg hsl (cSp.one hS3 hB2.sc rZ1)
end CROW2
