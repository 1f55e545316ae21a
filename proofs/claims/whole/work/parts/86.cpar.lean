/-! LAYER 2: the class reads rows -/
/-- the reader's cells are there -/
def shp (z : Nat) (M : hM) : Prop := (∃ rc fc nm ver trp st, M.1 (z + 1) = some (rdC z rc fc nm ver trp st)) ∧ (∃ g, M.1 (z + 4) = some (.inl (1, 200, .inr (.inr (.inr (.inr g)))))) ∧ (∃ h, M.1 (z + 5) = some (.inl (2, 200, .inl h))) ∧ (∃ g, M.1 (z + 6) = some (.inl (3, 181, .inr (.inr (.inr (.inr g)))))) ∧ z + 43 ≤ M.2.1
/-- what a piece's reading leaves -/
def cSp (z L : Nat) (M : hM) (f : Nat → Int32) (n k : Nat) (trp stv : Int32) (nmr : Option Nat) (ver : Int64) (X : Option (Int32 × hM)) (res : Nat ⊕ (Nat × aP)) : Prop := match res with
  | .inl w => ∃ M' v', X = some (0, M') ∧ M'.1 (z + 2) = some (scC (z + 3) v') ∧ v'.2.2.1 = nI w ∧ rfr z M M' ∧ shp z M' ∧ rom M M' (n - k)
  | .inr (q, st') => ∃ M' v', X = some (1, M') ∧ sOk M' (z + 2) (z + 3) v' f n q ∧ RB z L M' st' trp stv nmr ver ∧ rfr z M M' ∧ rom M M' (q - k) ∧ k ≤ q
section CPAR
variable {N z L : Nat} {M M' M'' : hM} {v : sV} {f : Nat → Int32} {n k : Nat} {st : aP} {trp stv : Int32} {nmr : Option Nat} {ver : Int64}
theorem RB.sh (h : RB z L M st trp stv nmr ver) : shp z M := by
  obtain ⟨g, h, g2, a1, a2, a3, a4, _, _, _, a8⟩ := h
  exact ⟨⟨_, _, _, _, _, _, a1⟩, ⟨_, a2⟩, ⟨_, a3⟩, ⟨_, a4⟩, Nat.le_trans a8.1 a8.2⟩
theorem RB.rd (h : RB z L M st trp stv nmr ver) : M.1 (z + 1) = some (rdC z (nI st.1.length) (nI (dsF st.2.1).length) nmr ver trp stv) := by obtain ⟨_, _, _, a, _⟩ := h; exact a
theorem cSp.eq {X Y : Option (Int32 × hM)} {res : Nat ⊕ (Nat × aP)} (e : X = Y) (h : cSp z L M f n k trp stv nmr ver Y res) : cSp z L M f n k trp stv nmr ver X res := by rw [e]; exact h
theorem cSp.mono {M1 : hM} {e : Nat} {X : Option (Int32 × hM)} {res : Nat ⊕ (Nat × aP)} (h : cSp z L M1 f n e trp stv nmr ver X res) (g : rfr z M M1) (r : rom M M1 (e - k)) (hk : k ≤ e) (he : e ≤ n) : cSp z L M f n k trp stv nmr ver X res := by
  rcases res with w | ⟨q, st'⟩
  · obtain ⟨M', v', a, b, c, d, s, t⟩ := h
    exact ⟨M', v', a, b, c, g.tr d, s, (r.tr t).le (by omega)⟩
  · obtain ⟨M', v', a, b, c, d, s, t⟩ := h
    exact ⟨M', v', a, b, c, g.tr d, (r.tr s).le (by omega), by omega⟩
/-- a refusal by the scan alone -/
theorem cSp.bad {w : Nat} {u : sV} {X : Option (Int32 × hM)} (hB : RB z L M st trp stv nmr ver) (e : X = some (0, hm_up M (z + 2) (scC (z + 3) u))) (hu : u.2.2.1 = nI w) : cSp z L M f n k trp stv nmr ver X (.inl w) := ⟨_, u, e, up_s, hu, rfr_up (Or.inr (Or.inl rfl)), hB.sc.sh, rom_up⟩
/-- a NAME is taken and made -/
theorem c_name {K : Option Nat → hX Int32} {res : Nat ⊕ (Nat × aP)} (hN : 2001 ≤ N) (hS : sOk M (z + 2) (z + 3) v f n k) (hB : RB z L M st trp stv nmr ver) (h1 : ∀ w, nmR f n k = .inl w → res = .inl w) (h2 : ∀ b e, nmR f n k = .inr (b, e) → ∀ M1 v1 nb, sOk M1 (z + 2) (z + 3) v1 f n e → RB z L M1 st trp stv nmr ver → nmA (z + 43) M1 nb (wd f b e) → v1.2.2.2.1 = nI b → cSp z L M1 f n e trp stv nmr ver ((K (some nb)).1 M1) res) :
    cSp z L M f n k trp stv nmr ver ((b_getR (z + 1) 6 0 (fun r1 => b_nn r1 (fun a2 => b_is a2 8 (b_call (f_Scan_takeName N a2) (fun v3 => (if v3 = 0 then b_retN .boolean 0 else b_getR (z + 1) 6 0 (fun r7 => b_nn r7 (fun a8 => b_is a8 8 (b_call (f_Scan_takenName N a8) (fun r9 => K r9)))))))))).1 M) res := by
  have hT := s_takeName (N := N) hN hS
  have hn := hS.2.2.2.2.1
  have hD := hB.lt
  refine cSp.eq ((r_getR (r := some (z + 2)) hB.rd rfl).trans (r_nn.trans ((r_is hS.1.1).trans r_callE))) ?_
  by_cases c : cL (sgn f n (sp f n k)) ∧ nmOk f n (sp f n k)
  · have hr : nmR f n k = .inr (sp f n k, we f n (sp f n k)) := if_pos c
    obtain ⟨_, _, g1, g2, g3, g4, _⟩ := nmR_in hr
    rw [if_pos c.1, if_pos c.2] at hT
    rw [hT, Option.bind_some]
    dsimp only
    rw [r_if_f (show ¬ (1 : Int32) = 0 by decide)]
    have hS1 : sOk (hm_up M (z + 2) (scC (z + 3) (wSt v f n (sp f n k)))) (z + 2) (z + 3) (wSt v f n (sp f n k)) f n (we f n (sp f n k)) := hS.up hS.2.2.1 rfl g3
    have hB1 : RB z L (hm_up M (z + 2) (scC (z + 3) (wSt v f n (sp f n k)))) st trp stv nmr ver := hB.sc
    have hwf := nmR_wf hS.2.1 hr
    obtain ⟨M2, t1, t2, t3, t4, t5⟩ := s_taken (N := N) (D := z + 43) (s := sp f n k) (e := we f n (sp f n k)) hN hS1.1 rfl rfl (by omega) (by omega) hwf.1 hB1.lt (by omega) (by omega)
    refine cSp.eq ((r_getR (r := some (z + 2)) hB1.rd rfl).trans (r_nn.trans ((r_is hS1.1.1).trans r_callE))) ?_
    rw [t1, Option.bind_some]
    have d2 : dfr (z + 43) (hm_up M (z + 2) (scC (z + 3) (wSt v f n (sp f n k)))) M2 := ⟨by omega, fun b _ hb => t3 b hb⟩
    have lt : ∀ b, b < z + 43 → M2.1 b = (hm_up M (z + 2) (scC (z + 3) (wSt v f n (sp f n k)))).1 b := fun b hb => t3 b (Nat.lt_of_lt_of_le hb hB1.lt)
    have hS2 : sOk M2 (z + 2) (z + 3) (wSt v f n (sp f n k)) f n (we f n (sp f n k)) := hS1.o (lt _ (by omega)) (lt _ (by omega))
    have hB2 : RB z L M2 st trp stv nmr ver := hB1.fr d2 (lt _ (by omega)) (lt _ (by omega)) (lt _ (by omega)) (lt _ (by omega))
    have hsg := sp_ge (f := f) (n := n) (k := k)
    have e21 : (hm_up M (z + 2) (scC (z + 3) (wSt v f n (sp f n k)))).2 = M.2 := rfl
    refine (h2 _ _ hr M2 (wSt v f n (sp f n k)) _ hS2 hB2 t2 rfl).mono ?_ ?_ (by omega) g3
    · refine (rfr_up (Or.inr (Or.inl rfl))).tr ⟨by omega, fun b hb _ _ _ _ _ => t3 b hb⟩
    · refine ⟨?_, ?_⟩
      · rw [t4, e21]; omega
      · rw [t5, e21]; omega
  · have hr : nmR f n k = .inl (sp f n k) := if_neg c
    rw [h1 _ hr]
    by_cases c1 : cL (sgn f n (sp f n k))
    · rw [if_pos c1, if_neg (fun z => c ⟨c1, z⟩)] at hT
      rw [hT, Option.bind_some]
      dsimp only
      rw [r_if_t rfl]
      exact cSp.bad hB rZ0 rfl
    · rw [if_neg c1] at hT
      rw [hT, Option.bind_some]
      dsimp only
      rw [r_if_t rfl]
      exact cSp.bad hB rZ0 rfl
/-- a row is added: the end of its reading -/
theorem c_add {kd q0 pl nb q : Nat} {nm ot : List Int32} {ob : Option Nat} {lo hi : Int64} {K0 K1 : hX Int32} {res : Nat ⊕ (Nat × aP)} (hN : 2001 ≤ N) (hS : sOk M (z + 2) (z + 3) v f n q) (hB : RB z L M st (nI q0) stv nmr ver) (hl : st.1.length ≤ 200) (hkd : kd < 16) (h8 : kd = 8 → stv = nI st.2.2) (hnm : nmA (z + 43) M nb nm) (ho1 : ot = [] → ob = none) (ho2 : ot ≠ [] → ∃ c, ob = some c ∧ nmA (z + 43) M c ot) (hpl : kd = 10 → v.2.2.2.1 = nI pl) (hk : k + 1 ≤ q) (hKk : ∀ M1, K0.1 M1 = some (0, M1))
    (h1 : ∀ w, adR st q0 kd pl nm ot lo hi q = .inl w → res = .inl w) (h2 : ∀ st', adR st q0 kd pl nm ot lo hi q = .inr (q, st') → ∀ M1, sOk M1 (z + 2) (z + 3) v f n q → RB z L M1 st' (nI q0) stv nmr ver → rfr z M M1 → M1.2.1 = M.2.1 + 1 → M1.2.2 = M.2.2 + 8 → cSp z L M f n k (nI q0) stv nmr ver (K1.1 M1) res) :
    cSp z L M f n k (nI q0) stv nmr ver ((b_is (z + 1) 6 (b_call (f_Reader_addRow N (z + 1) (nI kd) (some nb) ob lo hi) (fun v25 => (if v25 = 0 then K0 else K1)))).1 M) res := by
  have h := s_add (N := N) (lo := lo) (hi := hi) (pl := pl) hN hS hB hl hkd h8 hnm ho1 ho2 hpl
  refine cSp.eq ((r_is hB.rd).trans r_callE) ?_
  unfold adR at h1 h2
  by_cases c : st.1.length = 200
  · rw [if_pos c] at h h1
    rw [h, Option.bind_some, r_if_t rfl, h1 _ rfl]
    exact cSp.bad hB (hKk _) rfl
  · rw [if_neg c] at h h2
    obtain ⟨M1, r1, r2, r3, r4, r5, r6⟩ := h
    rw [r1, Option.bind_some, r_if_f (show ¬ (1 : Int32) = 0 by decide)]
    exact h2 _ rfl M1 r2 r3 r4 r5 r6
theorem s_takeRange (hN : 2001 ≤ N) (hS : sOk M (z + 2) (z + 3) v f n k) : rSp M (z + 2) (z + 3) v ((f_Scan_takeRange N (z + 2)).1 M) (rgR f n k) := by
  have go : (f_Scan_takeRange N (z + 2)).1 M = (b_is (z + 2) 8 (b_call (f_Scan_takeIfNext N (z + 2) 42) (fun v30 => (if v30 = 0 then f_Scan_takeRange_25 N (z + 2) N 0 else b_retN .boolean 1)))).1 (hm_up M (z + 2) (scC (z + 3) (v.1, v.2.1, v.2.2.1, v.2.2.2.1, v.2.2.2.2.1, v.2.2.2.2.2.1, lN 0, lN 1000000000000000000))) := by
    rw [e_Scan_takeRange]
    refine (r_put hS.1.1 (Nat.le_of_ble_eq_true rfl)).trans ((r_put up_s (Nat.le_of_ble_eq_true rfl)).trans ?_)
    rw [up_up]; rfl
  refine rSp.eq go ?_
  have hS1 : sOk (hm_up M (z + 2) (scC (z + 3) (v.1, v.2.1, v.2.2.1, v.2.2.2.1, v.2.2.2.2.1, v.2.2.2.2.2.1, lN 0, lN 1000000000000000000))) (z + 2) (z + 3) (v.1, v.2.1, v.2.2.1, v.2.2.2.1, v.2.2.2.2.1, v.2.2.2.2.2.1, lN 0, lN 1000000000000000000) f n k := hS.up hS.2.2.1 hS.2.2.2.1 hS.2.2.2.2.2
  refine rSp.eq ((r_is hS1.1.1).trans r_callE) ?_
  rw [s_takeIfNext (by decide) hN hS1]
  unfold rgR
  have hsl := sp_le (f := f) hS.2.2.2.2.2
  by_cases c : sgn f n (sp f n k) = 42
  · rw [if_pos c, if_pos c, Option.bind_some]
    dsimp only
    rw [r_if_f (show ¬ (1 : Int32) = 0 by decide), up_up]
    exact ⟨_, rZ1⟩
  · rw [if_neg c, if_neg c, Option.bind_some]
    dsimp only
    rw [r_if_t rfl, up_up]
    have hS2 : sOk (hm_up M (z + 2) (scC (z + 3) (v.1, nI (sp f n k), v.2.2.1, v.2.2.2.1, v.2.2.2.2.1, v.2.2.2.2.2.1, lN 0, lN 1000000000000000000))) (z + 2) (z + 3) (v.1, nI (sp f n k), v.2.2.1, v.2.2.2.1, v.2.2.2.2.1, v.2.2.2.2.2.1, lN 0, lN 1000000000000000000) f n (sp f n k) := hS.up hS.2.2.1 rfl hsl
    exact (s_range_loop hN 2 N (sp f n k) 0 1000000000000000000 _ _ (by omega) (by omega) hS2 rfl rfl (by omega) (by decide)).mono rfl rfl rfl rfl
end CPAR
