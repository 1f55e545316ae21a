/-! LAYER 2: the class reads a whole text -/
/-- the reading failed at w -/
def fSp (z : Nat) (M : hM) (c : Nat) (X : Option (Int32 × hM)) (w : Nat) : Prop := ∃ M' v', X = some (0, M') ∧ M'.1 (z + 2) = some (scC (z + 3) v') ∧ v'.2.2.1 = nI w ∧ rfr z M M' ∧ shp z M' ∧ rom M M' c
def eSp (z L : Nat) (M : hM) (n k : Nat) (nmr : Option Nat) (ver : Int64) (X : Option (Int32 × hM)) (res : Nat ⊕ aP) : Prop := match res with
  | .inl w => fSp z M (n - k) X w
  | .inr st' => ∃ M' v' trp' stv', X = some (1, M') ∧ M'.1 (z + 2) = some (scC (z + 3) v') ∧ RB z L M' st' trp' stv' nmr ver ∧ rfr z M M' ∧ rom M M' (n - k)
def txSp (z L : Nat) (M : hM) (n k : Nat) (X : Option (Int32 × hM)) (res : Nat ⊕ (List Int32 × Nat × aP)) : Prop := match res with
  | .inl w => fSp z M (n - k) X w
  | .inr (nm, x, st') => ∃ M' v' trp' stv' nb, X = some (1, M') ∧ M'.1 (z + 2) = some (scC (z + 3) v') ∧ RB z L M' st' trp' stv' (some nb) (lN x) ∧ nmA (z + 43) M' nb nm ∧ rfr z M M' ∧ rom M M' (n - k)
section CTX2
variable {N z L : Nat} {M M' M'' : hM} {v : sV} {f : Nat → Int32} {n k : Nat} {st : aP} {trp stv : Int32} {nmr : Option Nat} {ver : Int64}
theorem fSp.mono {M1 : hM} {c d w : Nat} {X : Option (Int32 × hM)} (h : fSp z M1 c X w) (g : rfr z M M1) (r : rom M M1 d) : fSp z M (d + c) X w := by
  obtain ⟨M', v', a1, a2, a3, a4, a5, a6⟩ := h
  exact ⟨M', v', a1, a2, a3, g.tr a4, a5, r.tr a6⟩
theorem fSp.le {c d w : Nat} {X : Option (Int32 × hM)} (h : fSp z M c X w) (hc : c ≤ d) : fSp z M d X w := by
  obtain ⟨M', v', a1, a2, a3, a4, a5, a6⟩ := h
  exact ⟨M', v', a1, a2, a3, a4, a5, a6.le hc⟩
theorem eSp.mono {M1 : hM} {e : Nat} {X : Option (Int32 × hM)} {res : Nat ⊕ aP} (h : eSp z L M1 n e nmr ver X res) (g : rfr z M M1) (r : rom M M1 (e - k)) (hk : k ≤ e) (he : e ≤ n) : eSp z L M n k nmr ver X res := by
  rcases res with w | st'
  · exact (fSp.mono h g r).le (by omega)
  · obtain ⟨M', v', tr, sv, a, b, c, d, s⟩ := h
    exact ⟨M', v', tr, sv, a, b, c, g.tr d, (r.tr s).le (by omega)⟩
theorem eSp.eq {X Y : Option (Int32 × hM)} {res : Nat ⊕ aP} (e : X = Y) (h : eSp z L M n k nmr ver Y res) : eSp z L M n k nmr ver X res := by rw [e]; exact h
/-- the defaults stand -/
theorem c_dflt (hN : 2001 ≤ N) (hv : M.1 (z + 2) = some (scC (z + 3) v)) (hX : XS f n st) (hF : st.2.1.length ≤ 181) (hB : RB z L M st trp stv nmr ver) : ∀ (d fu i : Nat), d + i = st.1.length → d < fu → (f_Reader_defaultsStand_2 N (z + 1) fu (nI i)).1 M = match dfS ((st.1.drop i).filter (fun x => x.1.1 == 10)) st.2.1 with
    | none => some (1, M)
    | some w => some (0, hm_up M (z + 2) (scC (z + 3) (v.1, v.2.1, nI w, v.2.2.2))) := by
  have hB' := hB
  obtain ⟨g, h, g2, a1, a2, a3, a4, a5, a6, a7, a8⟩ := hB
  have hl := hX.2.2
  have hdl := dst_len [] st.2.1
  have hdl' : (dsF st.2.1).length ≤ 181 := by have : ([] : List (List Int32)).length = 0 := rfl; unfold dsF; omega
  intro d
  induction d with
  | zero =>
    intro fu i h1 h2
    obtain ⟨fu, rfl⟩ : ∃ g, fu = g + 1 := ⟨fu - 1, by omega⟩
    rw [List.drop_eq_nil_of_le (by omega), e_Reader_defaultsStand_2, r_let]
    refine (r_getI a1 rfl).trans ?_
    rw [r_if_t (show nI st.1.length ≤ nI i from nI_le (by omega) (by omega))]
    exact rZ1
  | succ d ih =>
    intro fu i h1 h2
    obtain ⟨fu, rfl⟩ : ∃ g, fu = g + 1 := ⟨fu - 1, by omega⟩
    have hi : i < st.1.length := by omega
    obtain ⟨b, e1, e2, e3⟩ := a5 i _ (List.getElem?_eq_getElem hi)
    have hwx := hX.1 _ (List.getElem_mem hi)
    have hk16 := hwx.1.1
    have hnm := hwx.1.2.1
    have i1 : ¬ (nI i < 0 ∨ 200 ≤ (nI i).toNatClampNeg) := nI_in (by omega) (by decide)
    have c1 := nI_clamp (n := i) (by omega)
    obtain ⟨⟨_, _⟩, nb, ob, k1, k2, _⟩ := e2
    rw [List.drop_eq_getElem_cons hi, e_Reader_defaultsStand_2, r_let]
    refine (r_getI a1 rfl).trans ?_
    rw [r_if_f (show ¬ nI st.1.length ≤ nI i from nI_ge (by omega) (by omega))]
    refine (r_getR (r := some (z + 4)) a1 rfl).trans (r_nn.trans ((r_aldR a2 i1).trans ?_))
    rw [c1, e1, r_nn]
    refine (r_getI k1 rfl).trans ?_
    generalize hx : st.1[i] = x at *
    by_cases c : x.1.1 = 10
    · rw [r_if_t (show nI x.1.1 = 10 by rw [c]; rfl)]
      refine (r_getR (r := some (z + 4)) a1 rfl).trans (r_nn.trans ((r_aldR a2 i1).trans ?_))
      rw [c1, e1, r_nn]
      refine (r_getR (r := some nb) k1 rfl).trans ((r_getR (r := some (z + 6)) a1 rfl).trans ((r_getI a1 rfl).trans ?_))
      have nmc : ∃ fs, M.1 nb = some (.inr (2, fs)) := by obtain ⟨_, _, _, _, _, q, _⟩ := k2; exact ⟨_, q⟩
      obtain ⟨fs, nmc⟩ := nmc
      have ho := s_oneOf (N := N) (D := z + 43) (M := M) hN hnm k2 a4 hdl' (by omega) a7
      rw [r_nn, r_is nmc, r_callE, ho, Option.bind_some, hasF_ds hnm (fun w hw => (hX.2.1 w hw).1)]
      rw [List.filter_cons_of_pos (by rw [c]; rfl)]
      unfold dfS
      rw [List.find?_cons]
      dsimp only
      cases hh : hasF x.1.2.2.1 st.2.1 with
      | true =>
        rw [r_if_f (show ¬ bZ true = 0 by decide), show (!true) = false from rfl, nI_1]
        exact ih fu (i + 1) (by omega) (by omega)
      | false =>
        rw [r_if_t (show bZ false = 0 by decide), show (!false) = true from rfl]
        refine (r_getR (r := some (z + 2)) a1 rfl).trans ((r_getR (r := some (z + 5)) a1 rfl).trans (r_nn.trans ((r_ald a3 i1).trans (r_nn.trans ((r_is hv).trans (r_callE.trans ?_))))))
        rw [s_refuse hv, Option.bind_some, c1, e3.1 c]
        exact rZ0
    · rw [r_if_f (show ¬ nI x.1.1 = 10 from fun z => c ((nI_eq (b := 10) (by omega) (by omega)).mp z))]
      dsimp only
      rw [nI_1, List.filter_cons_of_neg (by simpa using c)]
      exact ih fu (i + 1) (by omega) (by omega)
/-- one row: what it costs at least -/
theorem pRow_ft {q : Nat} {st' : aP} {c : Nat} (h8 : fit8 f) (hn : n ≤ 2000) (hk : k ≤ n) (hX : XS f n st) (hs : st.2.2 ≤ k) (hF : 11 * st.2.1.length + c ≤ k) (h : pRow f n st k = .inr (q, st')) : 11 * st'.2.1.length + c ≤ q := by
  have hsl := sp_le (f := f) hk
  have hsg := sp_ge (f := f) (n := n) (k := k)
  rw [pRow_s] at h
  by_cases c1 : cL (sgn f n (sp f n k))
  · rw [if_pos c1] at h
    obtain ⟨q1, q2⟩ := cL_in c1
    have hle := fsI_ge (P := fun i => isTx f (sp f n k) (we f n (sp f n k)) (ktx i)) 12 0
    have hpp := fsI_P (P := fun i => isTx f (sp f n k) (we f n (sp f n k)) (ktx i)) 12 0
    generalize fsI (fun i => isTx f (sp f n k) (we f n (sp f n k)) (ktx i)) 12 0 = i at *
    have hwg := we_gt (f := f) q1 q2
    by_cases c2 : i = 12
    · rw [if_pos c2] at h; cases h
    · rw [if_neg c2] at h
      cases hb : pBd f n (sp f n k) st (we f n (sp f n k)) i with
      | inl w => rw [hb] at h; cases h
      | inr x =>
        obtain ⟨q3, st3⟩ := x
        rw [hb] at h
        unfold semi at h
        dsimp only at h
        by_cases c3 : sgn f n (sp f n q3) = 59
        · rw [if_pos c3] at h
          cases h
          have hs3 := sp_ge (f := f) (n := n) (k := q3)
          obtain ⟨b1, b2, b3, b4⟩ := (pBd_le (f := f) (n := n) (st := st) (q0 := sp f n k) (i := i) (q := sp f n k) hsl hsl rfl).2 q3 st' hb
          by_cases c5 : i = 5
          · obtain ⟨b5, b6⟩ := b3 c5
            have hw := hpp (by omega)
            rw [c5] at hw
            have : we f n (sp f n k) - sp f n k = 7 := hw.1
            omega
          · rw [b4 c5]; omega
        · rw [if_neg c3] at h; cases h
  · rw [if_neg c1] at h; cases h
theorem c_rows_loop (hN : 2001 ≤ N) : ∀ (u fu t k : Nat) (M : hM) (v : sV) (st : aP) (trp : Int32), n - k < u → 2000 - t < fu → t ≤ k → sOk M (z + 2) (z + 3) v f n k → RB z L M st trp (nI st.2.2 - 1) nmr ver → XS f n st → st.2.2 ≤ k → 11 * st.2.1.length + 9 ≤ k →
    eSp z L M n k nmr ver ((f_Reader_takeText_26 N (z + 1) fu (nI t)).1 M) (match pRows f n u st k with
      | .inl w => .inl w
      | .inr st' => match dfS (dfl st') st'.2.1 with
        | some w => .inl w
        | none => .inr st') := by
  intro u
  induction u with
  | zero => intro fu t k M v st trp h1; omega
  | succ u ih =>
    intro fu t k M v st trp h1 h2 h3 hS hB hX hs hF
    obtain ⟨fu, rfl⟩ : ∃ g, fu = g + 1 := ⟨fu - 1, by omega⟩
    have hn := hS.2.2.2.2.1
    have h8 := hS.2.1
    have hk := hS.2.2.2.2.2
    have hsl := sp_le (f := f) hk
    have hsg := sp_ge (f := f) (n := n) (k := k)
    rw [e_Reader_takeText_26, r_let]
    rw [show pRows f n (u + 1) st k = if n ≤ sp f n k then .inr st else match pRow f n st (sp f n k) with
      | .inl w => .inl w
      | .inr (q, st') => pRows f n u st' q from rfl]
    have last : ∀ (M1 : hM) (v1 : sV), n ≤ sp f n k → M1.1 (z + 2) = some (scC (z + 3) v1) → RB z L M1 st trp (nI st.2.2 - 1) nmr ver → rfr z M M1 → rom M M1 (sp f n k - k) → eSp z L M n k nmr ver ((b_is (z + 1) 6 (b_call (f_Reader_defaultsStand N (z + 1)) (fun v1 => b_retN .boolean v1))).1 M1) (match (if n ≤ sp f n k then .inr st else match pRow f n st (sp f n k) with
      | .inl w => .inl w
      | .inr (q, st') => pRows f n u st' q : Nat ⊕ aP) with
      | .inl w => .inl w
      | .inr st' => match dfS (dfl st') st'.2.1 with
        | some w => .inl w
        | none => .inr st') := by
      intro M1 v1 hE hv hB1 fr1 rm1
      rw [if_pos hE]
      dsimp only
      refine eSp.mono (M1 := M1) (e := sp f n k) ?_ fr1 rm1 hsg hsl
      refine eSp.eq ((r_is hB1.rd).trans r_callE) ?_
      have := c_dflt (N := N) hN hv hX (by omega) hB1 st.1.length N 0 (by omega) (by have := hX.2.2; omega)
      rw [e_Reader_defaultsStand, show (f_Reader_defaultsStand_2 N (z + 1) N 0).1 M1 = _ from this, List.drop_zero]
      rw [show dfl st = List.filter (fun x => x.1.1 == 10) st.1 from rfl]
      cases dfS (List.filter (fun x => x.1.1 == 10) st.1) st.2.1 with
      | none => exact ⟨M1, v1, trp, _, rZ1, hv, hB1, rfr.rf, rom.rf⟩
      | some w => exact ⟨_, (v1.1, v1.2.1, nI w, v1.2.2.2), rZ0, up_s, rfl, rfr_up (Or.inr (Or.inl rfl)), hB1.sc.sh, rom_up⟩
    by_cases ct : 2000 ≤ t
    · rw [r_if_t (show (2000 : Int32) ≤ nI t from nI_le (a := 2000) ct (by omega))]
      exact last M v (by omega) hS.1.1 hB rfr.rf rom.rf
    · rw [r_if_f (show ¬ (2000 : Int32) ≤ nI t from nI_ge (b := 2000) (by omega) (by omega))]
      refine eSp.eq ((r_getR (r := some (z + 2)) hB.rd rfl).trans (r_nn.trans ((r_is hS.1.1).trans r_callE))) ?_
      rw [s_atEnd hN hS, Option.bind_some]
      dsimp only
      by_cases c : n ≤ sp f n k
      · rw [bI_t c, r_if_f (show ¬ (1 : Int32) = 0 by decide)]
        exact last _ (v.1, nI (sp f n k), v.2.2) c up_s hB.sc (rfr_up (Or.inr (Or.inl rfl))) rom_up
      · rw [bI_f c, r_if_t rfl, if_neg c]
        clear last
        have hS1 : sOk (hm_up M (z + 2) (scC (z + 3) (v.1, nI (sp f n k), v.2.2))) (z + 2) (z + 3) (v.1, nI (sp f n k), v.2.2) f n (sp f n k) := hS.up hS.2.2.1 rfl hsl
        have hB1 : RB z L (hm_up M (z + 2) (scC (z + 3) (v.1, nI (sp f n k), v.2.2))) st trp (nI st.2.2 - 1) nmr ver := hB.sc
        refine eSp.mono (M1 := hm_up M (z + 2) (scC (z + 3) (v.1, nI (sp f n k), v.2.2))) (e := sp f n k) ?_ (rfr_up (Or.inr (Or.inl rfl))) rom_up hsg hsl
        refine eSp.eq ((r_is hB1.rd).trans r_callE) ?_
        generalize hm_up M (z + 2) (scC (z + 3) (v.1, nI (sp f n k), v.2.2)) = M1 at *
        generalize (v.1, nI (sp f n k), v.2.2) = v1 at *
        have hR := c_textRow (N := N) hN hS1 hB1 hX.2.2 (by omega)
        have hI : ∀ q st', pRow f n st (sp f n k) = .inr (q, st') → _ := fun q st' h => pRow_inv h8 hn hsl hX (by omega) (by omega) h
        have hI2 : ∀ q st', pRow f n st (sp f n k) = .inr (q, st') → _ := fun q st' h => pRow_ft (c := 9) h8 hn hsl hX (by omega) (by omega) h
        rw [pRow_0] at hI hI2 ⊢
        cases hr : pR0 f n st (sp f n k) with
        | inl w =>
          rw [hr] at hR
          obtain ⟨M2, v2, x1, x2⟩ := hR
          rw [x1, Option.bind_some]
          exact ⟨M2, v2, (by rw [r_if_t rfl]; exact rZ0), x2⟩
        | inr x =>
          obtain ⟨q, st'⟩ := x
          rw [hr] at hR hI hI2
          obtain ⟨M2, v2, tr2, x1, x2, x3, x4, x5, x6⟩ := hR
          rw [x1, Option.bind_some]
          dsimp only
          rw [r_if_f (show ¬ (1 : Int32) = 0 by decide)]
          have hql := x2.2.2.2.2.2
          have hql2 := sp_le (f := f) hql
          have hqg := sp_ge (f := f) (n := n) (k := q)
          refine eSp.mono (M1 := M2) (e := q) ?_ x4 x5 x6 hql
          refine eSp.eq ((r_getR (r := some (z + 2)) x3.rd rfl).trans (r_nn.trans ((r_is x2.1.1).trans r_callE))) ?_
          rw [s_takeSign (by decide) hN x2]
          unfold semi at hI hI2 ⊢
          dsimp only at hI hI2 ⊢
          by_cases cs : sgn f n (sp f n q) = 59
          · rw [if_pos cs] at hI hI2
            rw [if_pos cs, if_pos cs, Option.bind_some]
            have hc := sgn_0 (by decide) cs
            dsimp only
            rw [r_if_f (show ¬ (1 : Int32) = 0 by decide), nI_1]
            obtain ⟨i1, i2, i3, i4, i5⟩ := hI _ _ rfl
            have i6 := hI2 _ _ rfl
            have hS3 : sOk (hm_up M2 (z + 2) (scC (z + 3) (v2.1, nI (sp f n q + 1), v2.2.2))) (z + 2) (z + 3) (v2.1, nI (sp f n q + 1), v2.2.2) f n (sp f n q + 1) := x2.up x2.2.2.1 rfl (by omega)
            refine eSp.mono (M1 := hm_up M2 (z + 2) (scC (z + 3) (v2.1, nI (sp f n q + 1), v2.2.2))) (e := sp f n q + 1) ?_ (rfr_up (Or.inr (Or.inl rfl))) rom_up (by omega) (by omega)
            exact ih fu (t + 1) _ _ _ st' tr2 (by omega) (by omega) (by omega) hS3 x3.sc i1 i2 i6
          · rw [if_neg cs, if_neg cs, Option.bind_some]
            dsimp only
            rw [r_if_t rfl]
            exact ⟨_, (v2.1, nI (sp f n q), nI (sp f n q), v2.2.2.2), rZ0, up_s, rfl, rfr_up (Or.inr (Or.inl rfl)), x3.sc.sh, rom_up⟩
end CTX2
