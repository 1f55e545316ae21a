/-! LAYER 2: the class reads rows with ranges, names -/
section CRNG
variable {N z L : Nat} {M M' M'' : hM} {v : sV} {f : Nat → Int32} {n k : Nat} {st : aP} {trp stv : Int32} {nmr : Option Nat} {ver : Int64}
theorem vst_gt : ∀ (r q x q' x' : Nat), vst f n r q x = .inr (q', x') → q ≤ q' := vst_ge
theorem verR_gt {q x : Nat} (h : verR f n k = .inr (q, x)) : k + 1 ≤ q := by
  unfold verR at h
  split at h
  · rename_i c
    have := vst_ge 2 _ _ q x h
    have hs := sp_ge (f := f) (n := n) (k := k)
    have := c.1
    omega
  · cases h
theorem rgR_gt {q : Nat} {x : Nat × Nat} (hk : k ≤ n) (h : rgR f n k = .inr (q, x)) : k + 1 ≤ q := by
  have hsg := sp_ge (f := f) (n := n) (k := k)
  unfold rgR at h; split at h
  · cases h; omega
  · rw [show rst f n 2 (sp f n k) 0 1000000000000000000 = if sgn f n (sp f n (sp f n k)) = 61 ∨ sgn f n (sp f n (sp f n k)) = 60 ∨ sgn f n (sp f n (sp f n k)) = 62 then (match verR f n (bq f n (sp f n (sp f n k))) with
      | .inl w => .inl w
      | .inr (q', x) => rst f n 1 q' (nlo (sgn f n (sp f n (sp f n k))) (bb f n (sp f n (sp f n k))) x 0) (nhi (sgn f n (sp f n (sp f n k))) (bb f n (sp f n (sp f n k))) x 1000000000000000000))
      else if 1 = 1 then .inl (sp f n (sp f n k)) else .inr (sp f n (sp f n k), clo 0 1000000000000000000) from rfl, sp_sp hk] at h
    split at h
    · rename_i c
      have hq1 : sp f n k < n := by rcases c with h | h | h <;> exact sgn_0 (by decide) h
      have hbq := bq_le (f := f) hq1
      have hbg := bq_ge (f := f) (n := n) (q := sp f n k)
      cases hv : verR f n (bq f n (sp f n k)) with
      | inl w' => rw [hv] at h; cases h
      | inr qx =>
        obtain ⟨q2, x2⟩ := qx
        rw [hv] at h
        have := rst_q 1 q2 _ _ q x (verR_q hbq hv) h
        have := verR_gt hv
        omega
    · rw [if_pos rfl] at h; cases h
theorem c_rg {kd q0 : Nat} {K1 : hX Int32} {res : Nat ⊕ (Nat × aP)} (hN : 2001 ≤ N) (hS : sOk M (z + 2) (z + 3) v f n k) (hB : RB z L M st (nI q0) stv nmr ver) (hl : st.1.length ≤ 200) (hkd : kd < 16) (hk10 : kd ≠ 10) (h8 : kd = 8 → stv = nI st.2.2) (h1 : ∀ w, pRg f n q0 kd st k = .inl w → res = .inl w) (h2 : ∀ q st', pRg f n q0 kd st k = .inr (q, st') → ∀ M1 v1, sOk M1 (z + 2) (z + 3) v1 f n q → RB z L M1 st' (nI q0) stv nmr ver → cSp z L M1 f n q (nI q0) stv nmr ver (K1.1 M1) res) :
    cSp z L M f n k (nI q0) stv nmr ver ((b_getR (z + 1) 6 0 (fun r1 => b_nn r1 (fun a2 => b_is a2 8 (b_call (f_Scan_takeName N a2) (fun v3 => (if v3 = 0 then b_retN .boolean 0 else b_getR (z + 1) 6 0 (fun r7 => b_nn r7 (fun a8 => b_is a8 8 (b_call (f_Scan_takenName N a8) (fun r9 => b_getR (z + 1) 6 0 (fun r13 => b_nn r13 (fun a14 => b_is a14 8 (b_call (f_Scan_takeRange N a14) (fun v15 => (if v15 = 0 then b_retN .boolean 0 else b_getR (z + 1) 6 0 (fun r19 => b_nn r19 (fun a20 => b_getL a20 8 7 (fun v21 => b_getR (z + 1) 6 0 (fun r22 => b_nn r22 (fun a23 => b_getL a23 8 8 (fun v24 => b_is (z + 1) 6 (b_call (f_Reader_addRow N (z + 1) (nI kd) r9 none v21 v24) (fun v25 => (if v25 = 0 then b_retN .boolean 0 else K1)))))))))))))))))))))))).1 M) res := by
  unfold pRg at h1 h2
  refine c_name hN hS hB (fun w hw => h1 w (by rw [hw])) (fun b e hbe M1 v1 nb hS1 hB1 hnm hwf => ?_)
  rw [hbe] at h1 h2
  dsimp only at h1 h2
  obtain ⟨_, _, g1, g2, g3, g4, _⟩ := nmR_in hbe
  have hR := s_takeRange (N := N) hN hS1
  refine cSp.eq ((r_getR (r := some (z + 2)) hB1.rd rfl).trans (r_nn.trans ((r_is hS1.1.1).trans r_callE))) ?_
  cases hr : rgR f n e with
  | inl w =>
    rw [hr] at hR h1
    obtain ⟨u, u1, u2, u3⟩ := hR
    rw [u3, Option.bind_some, h1 w rfl]
    dsimp only
    rw [r_if_t rfl]
    exact cSp.bad hB1 rZ0 u2
  | inr x =>
    obtain ⟨q, lo, hi⟩ := x
    rw [hr] at hR h1 h2
    dsimp only at h1 h2
    obtain ⟨xv, u3⟩ := hR
    obtain ⟨q1, q2⟩ := rgR_q g3 hr
    rw [u3, Option.bind_some]
    dsimp only
    rw [r_if_f (show ¬ (1 : Int32) = 0 by decide)]
    have hS2 : sOk (hm_up M1 (z + 2) (scC (z + 3) (v1.1, nI q, v1.2.2.1, v1.2.2.2.1, v1.2.2.2.2.1, xv, lN lo, lN hi))) (z + 2) (z + 3) (v1.1, nI q, v1.2.2.1, v1.2.2.2.1, v1.2.2.2.2.1, xv, lN lo, lN hi) f n q := hS1.up hS1.2.2.1 rfl q2
    have hB2 : RB z L (hm_up M1 (z + 2) (scC (z + 3) (v1.1, nI q, v1.2.2.1, v1.2.2.2.1, v1.2.2.2.2.1, xv, lN lo, lN hi))) st (nI q0) stv nmr ver := hB1.sc
    have fr2 : rfr z M1 (hm_up M1 (z + 2) (scC (z + 3) (v1.1, nI q, v1.2.2.1, v1.2.2.2.1, v1.2.2.2.2.1, xv, lN lo, lN hi))) := rfr_up (Or.inr (Or.inl rfl))
    refine cSp.eq ((r_getR (r := some (z + 2)) hB2.rd rfl).trans (r_nn.trans ((r_getL hS2.1.1 rfl).trans ((r_getR (r := some (z + 2)) hB2.rd rfl).trans (r_nn.trans (r_getL hS2.1.1 rfl)))))) ?_
    refine cSp.mono (e := e) ?_ fr2 rom_up (Nat.le_refl _) g3
    by_cases he : e + 1 ≤ q
    · refine c_add (k := e) (pl := b) (ot := []) hN hS2 hB2 hl hkd h8 (hnm.f fr2.d) (fun _ => rfl) (fun z => absurd rfl z) (fun z => absurd z hk10) he (fun _ => rZ0) h1 (fun st' hst M3 hS3 hB3 fr3 r1 r2 => ?_)
      exact (h2 q st' hst M3 _ hS3 hB3).mono fr3 ⟨by omega, by omega⟩ (by omega) q2
    · exact absurd (rgR_gt g3 hr) (by omega)
end CRNG
