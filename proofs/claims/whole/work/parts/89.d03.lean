/-! LAYER 2: the class reads a text -/
def kB (N z : Nat) (x : Int32) : hX Int32 := b_let (fun (y0 : Int32) => b_retN .boolean y0) (fun J156 => (if x = (-1) then b_getR (z + 1) 6 0 (fun r1 => b_getR (z + 1) 6 0 (fun r2 => b_nn r2 (fun a3 => b_getI a3 8 4 (fun v4 => b_nn r1 (fun a5 => b_is a5 8 (b_call (f_Scan_refuse N a5 v4) (fun v6 => b_retN .boolean v6))))))) else (if x = 7 then b_is (z + 1) 6 (b_call (f_Reader_takeProvided N (z + 1)) (fun v10 => b_retN .boolean v10)) else (if x = 9 then b_is (z + 1) 6 (b_call (f_Reader_takeFeature N (z + 1)) (fun v14 => b_retN .boolean v14)) else (if x = 14 then b_is (z + 1) 6 (b_call (f_Reader_takeScript N (z + 1)) (fun v18 => b_retN .boolean v18)) else (if x = 15 then b_is (z + 1) 6 (b_call (f_Reader_takeFile N (z + 1)) (fun v22 => b_retN .boolean v22)) else b_call (f_Kind_isList N x) (fun v26 => (if v26 = 0 then b_is (z + 1) 6 (b_call (f_Reader_takeRanged N (z + 1) x) (fun v29 => J156 v29)) else b_is (z + 1) 6 (b_call (f_Reader_takeNames N (z + 1) x none) (fun v33 => J156 v33))))))))))
/-- a row of the text, without its sign at the end -/
noncomputable def pR0 (f : Nat → Int32) (n : Nat) (st : aP) (k : Nat) : Nat ⊕ (Nat × aP) :=
  if cL (sgn f n (sp f n k)) then (if fsI (fun i => isTx f (sp f n k) (we f n (sp f n k)) (ktx i)) 12 0 = 12 then .inl (sp f n k) else pBd f n (sp f n k) st (we f n (sp f n k)) (fsI (fun i => isTx f (sp f n k) (we f n (sp f n k)) (ktx i)) 12 0)) else .inl (sp f n k)
section CTXT
variable {N z L : Nat} {M M' M'' : hM} {v : sV} {f : Nat → Int32} {n k : Nat} {st : aP} {trp stv : Int32} {nmr : Option Nat} {ver : Int64}
theorem pRow_0 : pRow f n st k = semi f n (pR0 f n st k) := by
  rw [pRow_s]
  unfold pR0
  split
  · split
    · rfl
    · rfl
  · rfl
theorem dSp.bad {w : Nat} {u : sV} {X : Option (Int32 × hM)} (hB : RB z L M st trp stv nmr ver) (e : X = some (0, hm_up M (z + 2) (scC (z + 3) u))) (hu : u.2.2.1 = nI w) : dSp z L M f n k nmr ver X (.inl w) := ⟨_, u, e, up_s, hu, rfr_up (Or.inr (Or.inl rfl)), hB.sc.sh, rom_up⟩
theorem dSp.sc {w : sV} {e : Nat} {X : Option (Int32 × hM)} {res : Nat ⊕ (Nat × aP)} (hk : k ≤ e) (he : e ≤ n) (h : dSp z L (hm_up M (z + 2) (scC (z + 3) w)) f n e nmr ver X res) : dSp z L M f n k nmr ver X res := h.mono (rfr_up (Or.inr (Or.inl rfl))) rom_up hk he
theorem RB.tr {w : Int32} (h : RB z L M st trp stv nmr ver) : RB z L (hm_up M (z + 1) (rdC z (nI st.1.length) (nI (dsF st.2.1).length) nmr ver w stv)) st w stv nmr ver := by
  obtain ⟨p, q, r, a1, a2, a3, a4, a5, a6, a7, a8⟩ := h
  have fr : dfr (z + 43) M (hm_up M (z + 1) (rdC z (nI st.1.length) (nI (dsF st.2.1).length) nmr ver w stv)) := ⟨Nat.le_refl _, fun b hb _ => up_n (by omega)⟩
  refine ⟨p, q, r, up_s, (up_n (by omega)).trans a2, (up_n (by omega)).trans a3, (up_n (by omega)).trans a4, fun i x hx => ?_, a6, a7.f fr, a8⟩
  obtain ⟨b, b1, b2, b3⟩ := a5 i x hx
  exact ⟨b, b1, b2.f fr, b3⟩
theorem c_bad {w : Nat} (hS : sOk M (z + 2) (z + 3) v f n k) (hB : RB z L M st trp stv nmr ver) (hv : v.2.2.2.1 = nI w) : dSp z L M f n k nmr ver ((kB N z (-1)).1 M) (.inl w) := by
  unfold kB
  rw [r_let, r_if_t rfl]
  refine dSp.eq ((r_getR (r := some (z + 2)) hB.rd rfl).trans ((r_getR (r := some (z + 2)) hB.rd rfl).trans (r_nn.trans ((r_getI hS.1.1 rfl).trans (r_nn.trans ((r_is hS.1.1).trans r_callE)))))) ?_
  rw [s_refuse hS.1.1, Option.bind_some]
  exact dSp.bad hB rZ0 hv
theorem c_kindNd {j q0 : Nat} (hN : 2001 ≤ N) (hj : j < 5) (hS : sOk M (z + 2) (z + 3) v f n k) (hB : RB z L M st (nI q0) (nI st.2.2 - 1) nmr ver) (hl : st.1.length ≤ 200) : dSp z L M f n k nmr ver ((kB N z (nI j)).1 M) (pRg f n q0 j st k) := by
  have ne : ∀ m : Nat, m < 2 ^ 31 → j ≠ m → ¬ nI j = nI m := fun m hm h z => h ((nI_eq (by omega) hm).mp z)
  have nm1 : ¬ nI j = -1 := fun z => by
    have h := congrArg (fun x : Int32 => decide (x < 0)) z
    have a : decide (nI j < 0) = false := decide_eq_false (nI_pos (by omega))
    have h' : decide (nI j < 0) = decide ((-1 : Int32) < 0) := h
    rw [a] at h'
    exact absurd h' (by decide)
  unfold kB
  rw [r_let, r_if_f nm1, r_if_f (show ¬ nI j = 7 from ne 7 (by omega) (by omega)), r_if_f (show ¬ nI j = 9 from ne 9 (by omega) (by omega)), r_if_f (show ¬ nI j = 14 from ne 14 (by omega) (by omega)), r_if_f (show ¬ nI j = 15 from ne 15 (by omega) (by omega)), r_callE, s_isList (by omega), Option.bind_some, decide_eq_false (by omega)]
  dsimp only
  rw [r_if_t (show bZ false = 0 by decide)]
  exact ((c_ranged (kd := j) hN hS hB hl (by omega) (by omega) (by omega)).d (fun q st' h => by rw [(pRg_q h).2.2])).retN hB.rd
theorem c_textRow (hN : 2001 ≤ N) (hS : sOk M (z + 2) (z + 3) v f n k) (hB : RB z L M st trp (nI st.2.2 - 1) nmr ver) (hl : st.1.length ≤ 200) (hF : st.2.1.length < 181) : dSp z L M f n k nmr ver ((f_Reader_takeTextRow N (z + 1)).1 M) (pR0 f n st k) := by
  rw [e_Reader_takeTextRow]
  refine r_letP (P := fun X => dSp z L M f n k nmr ver X (pR0 f n st k)) (fun J50 eJ => ?_)
  show dSp z L M f n k nmr ver _ (pR0 f n st k)
  have eJ' : J50 = kB N z := eJ
  subst eJ'
  clear eJ
  have hk := hS.2.2.2.2.2
  have hn := hS.2.2.2.2.1
  have hsl := sp_le (f := f) hk
  have hsg := sp_ge (f := f) (n := n) (k := k)
  refine dSp.eq ((r_getR (r := some (z + 2)) hB.rd rfl).trans (r_nn.trans ((r_is hS.1.1).trans r_callE))) ?_
  rw [s_takeWord hN hS]
  unfold pR0
  by_cases c1 : cL (sgn f n (sp f n k))
  · rw [if_pos c1, if_pos c1, Option.bind_some]
    dsimp only
    rw [r_if_f (show ¬ (1 : Int32) = 0 by decide)]
    obtain ⟨q1, q2⟩ := cL_in c1
    have hwg := we_gt (f := f) q1 q2
    have hwl := we_le (f := f) (Nat.le_of_lt q1)
    generalize hq : sp f n k = q at *
    generalize he : we f n q = e at *
    have hS1 : sOk (hm_up M (z + 2) (scC (z + 3) (v.1, nI e, v.2.2.1, nI q, nI e, v.2.2.2.2.2))) (z + 2) (z + 3) (v.1, nI e, v.2.2.1, nI q, nI e, v.2.2.2.2.2) f n e := hS.up hS.2.2.1 rfl hwl
    have hB1 : RB z L (hm_up M (z + 2) (scC (z + 3) (v.1, nI e, v.2.2.1, nI q, nI e, v.2.2.2.2.2))) st trp (nI st.2.2 - 1) nmr ver := hB.sc
    refine dSp.sc (w := (v.1, nI e, v.2.2.1, nI q, nI e, v.2.2.2.2.2)) (e := e) (by omega) hwl ?_
    generalize hv1 : (v.1, nI e, v.2.2.1, nI q, nI e, v.2.2.2.2.2) = v1 at *
    have g3 : v1.2.2.2.1 = nI q := by rw [← hv1]
    have g4 : v1.2.2.2.2.1 = nI e := by rw [← hv1]
    generalize hm_up M (z + 2) (scC (z + 3) v1) = M1 at *
    refine dSp.eq ((r_getR (r := some (z + 2)) hB1.rd rfl).trans (r_nn.trans ((r_getI hS1.1.1 rfl).trans (r_put hB1.rd (Nat.le_of_ble_eq_true rfl))))) ?_
    rw [show v1.2.2.2.1 = nI q from g3]
    have hB2 := hB1.tr (w := nI q)
    refine dSp.mono (M1 := hm_up M1 (z + 1) (rdC z (nI st.1.length) (nI (dsF st.2.1).length) nmr ver (nI q) (nI st.2.2 - 1))) (e := e) ?_ (rfr_up (Or.inl rfl)) rom_up (Nat.le_refl _) hwl
    have hS2 : sOk (hm_up M1 (z + 1) (rdC z (nI st.1.length) (nI (dsF st.2.1).length) nmr ver (nI q) (nI st.2.2 - 1))) (z + 2) (z + 3) v1 f n e := hS1.o (up_n (by omega)) (up_n (by omega))
    show dSp z L _ f n e nmr ver ((b_is (z + 1) 6 (b_call (f_Reader_kindOfFirstWord N (z + 1)) (fun v46 => if v46 = 4 then b_getR (z + 1) 6 0 (fun r50 => b_nn r50 (fun a51 => b_is a51 8 (b_call (f_Scan_takeWord N a51) (fun v52 => (if v52 = 0 then b_retN .boolean 0 else b_is (z + 1) 6 (b_call (f_Reader_kindOfNeedWord N (z + 1)) (fun v56 => kB N z v56))))))) else kB N z v46)) : hX Int32).1 (hm_up M1 (z + 1) (rdC z (nI st.1.length) (nI (dsF st.2.1).length) nmr ver (nI q) (nI st.2.2 - 1)))) _
    generalize hm_up M1 (z + 1) (rdC z (nI st.1.length) (nI (dsF st.2.1).length) nmr ver (nI q) (nI st.2.2 - 1)) = M2 at *
    refine dSp.eq ((r_is hB2.rd).trans r_callE) ?_
    rw [e_Reader_kindOfFirstWord, show (f_Reader_kindOfFirstWord_2 N (z + 1) N 4).1 M2 = _ from c_kind1 hN hS2.1 g3 g4 (Nat.le_of_lt hwg) (by omega) hB2 12 N 0 (by omega) (by omega), Option.bind_some]
    dsimp only
    have hle := fsI_ge (P := fun i => isTx f q e (ktx i)) 12 0
    generalize fsI (fun i => isTx f q e (ktx i)) 12 0 = i at *
    by_cases c12 : i = 12
    · rw [if_pos c12, if_pos c12, r_if_f (show ¬ (-1 : Int32) = 4 by decide)]
      exact c_bad hS2 hB2 g3
    · rw [if_neg c12, if_neg c12]
      by_cases c0 : i = 0
      · rw [r_if_t (show nI (i + 4) = 4 by rw [c0]; rfl)]
        unfold pBd
        rw [if_pos c0]
        unfold pNd
        refine dSp.eq ((r_getR (r := some (z + 2)) hB2.rd rfl).trans (r_nn.trans ((r_is hS2.1.1).trans r_callE))) ?_
        rw [s_takeWord hN hS2]
        have hsl2 := sp_le (f := f) hwl
        have hsg2 := sp_ge (f := f) (n := n) (k := e)
        by_cases c2 : cL (sgn f n (sp f n e))
        · rw [if_pos c2, if_pos c2, Option.bind_some]
          dsimp only
          rw [r_if_f (show ¬ (1 : Int32) = 0 by decide)]
          obtain ⟨q3, q4⟩ := cL_in c2
          have hwg2 := we_gt (f := f) q3 q4
          have hwl2 := we_le (f := f) (Nat.le_of_lt q3)
          generalize hq2 : sp f n e = b at *
          generalize he2 : we f n b = d at *
          have hS3 : sOk (hm_up M2 (z + 2) (scC (z + 3) (v1.1, nI d, v1.2.2.1, nI b, nI d, v1.2.2.2.2.2))) (z + 2) (z + 3) (v1.1, nI d, v1.2.2.1, nI b, nI d, v1.2.2.2.2.2) f n d := hS2.up hS2.2.2.1 rfl hwl2
          have hB3 : RB z L (hm_up M2 (z + 2) (scC (z + 3) (v1.1, nI d, v1.2.2.1, nI b, nI d, v1.2.2.2.2.2))) st (nI q) (nI st.2.2 - 1) nmr ver := hB2.sc
          refine dSp.sc (w := (v1.1, nI d, v1.2.2.1, nI b, nI d, v1.2.2.2.2.2)) (e := d) (by omega) hwl2 ?_
          refine dSp.eq ((r_is hB3.rd).trans r_callE) ?_
          rw [e_Reader_kindOfNeedWord, show (f_Reader_kindOfNeedWord_2 N (z + 1) N 0).1 _ = _ from c_kind2 hN hS3.1 rfl rfl (Nat.le_of_lt hwg2) (by omega) hB3 5 N 0 (by omega) (by omega), Option.bind_some]
          dsimp only
          have hle2 := fsI_ge (P := fun i => isTx f b d (ntx i)) 5 0
          generalize fsI (fun i => isTx f b d (ntx i)) 5 0 = j at *
          by_cases c5 : j = 5
          · rw [if_pos c5, if_pos c5]
            exact c_bad hS3 hB3 rfl
          · rw [if_neg c5, if_neg c5]
            exact c_kindNd hN (by omega) hS3 hB3 hl
        · rw [if_neg c2, if_neg c2, Option.bind_some]
          dsimp only
          rw [r_if_t rfl]
          exact dSp.bad hB2 rZ0 rfl
      · rw [r_if_f (show ¬ nI (i + 4) = 4 from fun z => c0 (by have := (nI_eq (b := 4) (by omega) (by omega)).mp z; omega))]
        exact c_kindOf hN (by omega) c0 hS2 hB2 hl hF
  · rw [if_neg c1, if_neg c1, Option.bind_some]
    dsimp only
    rw [r_if_t rfl]
    exact dSp.bad hB rZ0 rfl
end CTXT
