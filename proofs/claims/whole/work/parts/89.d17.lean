/-! LAYER 2: the class pairs rows -/
def bAr (f : Nat → Int32) : va_E := .inl (5, 200, .inl f)
section CPAIR
variable {N z D : Nat} {M M' M'' : hM} {x y : aR} {b b' : Nat} {u u' : Int32}
theorem oz_st {x y w : aR} (h1 : oz x y < 0) (h2 : oz y w ≤ 0) : oz x w < 0 := by
  have h3 := oz_t (Int.le_of_lt h1) h2
  by_cases c : oz x w = 0
  · have k1 := oz_0.mp c
    have h4 : oz w x = 0 := by rw [oz_n, c]; rfl
    have h5 := oz_t (x := w) (y := x) (w := y) (by omega) (by omega)
    have h6 : oz w y = - oz y w := oz_n
    have h7 := oz_0.mp (show oz w y = 0 by omega)
    have := oz_0.mpr (k1.trans h7)
    omega
  · omega
theorem isL_k (wx : wfA x) (wy : wfA y) (h : isL x y = true) : oz x y = 0 := by
  unfold isL at h
  rw [Bool.and_eq_true] at h
  have h1 := h.1
  rw [beq_iff_eq] at h1
  rw [← ord_Z wx wy, h1]; rfl
theorem s_holds (hN : 2001 ≤ N) (wx : wfA x) (wy : wfA y) (hk : y.1 = x.1) (h : rwA D M b y u) (h' : rwA D M b' x u') : (f_Row_holdsLike N b (some b')).1 M = some (bZ (x.2.2.2.2.1 == y.2.2.2.2.1 && (x.2.2.2.2.2.1 == y.2.2.2.2.2.1 && cmpN x.2.2.2.1 y.2.2.2.1 == 0)), M) := by
  obtain ⟨_, nb, ob, k1, k2, k3, k4⟩ := h
  obtain ⟨_, nb', ob', j1, j2, j3, j4⟩ := h'
  have eo : (x.2.2.2.1 = [] ↔ y.2.2.2.1 = []) := by
    have a1 := wx.2.2.2.2.1
    have a2 := wy.2.2.2.2.1
    rw [hk] at a2
    constructor
    · intro e; exact Classical.byContradiction (fun c => a1.mp (a2.mpr c) e)
    · intro e; exact Classical.byContradiction (fun c => a2.mp (a1.mpr c) e)
  rw [e_Row_holdsLike, r_let, r_let]
  refine (r_getL k1 rfl).trans (r_nn.trans ((r_getL j1 rfl).trans ?_))
  by_cases c1 : x.2.2.2.2.1 = y.2.2.2.2.1
  · rw [r_if_t (lg_eq.mpr c1.symm), show (x.2.2.2.2.1 == y.2.2.2.2.1) = true by rw [beq_iff_eq]; exact c1, Bool.true_and]
    refine (r_getL k1 rfl).trans ((r_getL j1 rfl).trans ?_)
    by_cases c2 : x.2.2.2.2.2.1 = y.2.2.2.2.2.1
    · rw [r_if_t (lg_eq.mpr c2.symm), show (x.2.2.2.2.2.1 == y.2.2.2.2.2.1) = true by rw [beq_iff_eq]; exact c2, Bool.true_and]
      refine (r_getR (r := ob) k1 rfl).trans ?_
      by_cases c3 : y.2.2.2.1 = []
      · rw [r_if_t (k3 c3), c3, eo.mpr c3]; exact rZ1
      · obtain ⟨c, ec, hc⟩ := k4 c3
        obtain ⟨c', ec', hc'⟩ := j4 (fun e => c3 (eo.mp e))
        rw [r_if_f (show ¬ ob = none from fun z => by rw [ec] at z; cases z)]
        refine (r_getR (r := ob') j1 rfl).trans ?_
        rw [r_if_f (show ¬ ob' = none from fun z => by rw [ec'] at z; cases z)]
        refine (r_getR (r := ob) k1 rfl).trans ((r_getR (r := ob') j1 rfl).trans ?_)
        have nmc : ∃ fs, M.1 c = some (.inr (2, fs)) := by obtain ⟨_, _, _, _, _, q, _⟩ := hc; exact ⟨_, q⟩
        obtain ⟨fs, nmc⟩ := nmc
        rw [ec, ec', r_nn]
        refine (r_is nmc).trans (r_callE.trans ?_)
        rw [s_foldsLike hN wy.2.2.2.1 wx.2.2.2.1 hc hc', Option.bind_some]
        dsimp only
        have e1 := cmpN_0 wx.2.2.2.1 wy.2.2.2.1
        have e2 := cmpN_0 wy.2.2.2.1 wx.2.2.2.1
        by_cases c4 : fold x.2.2.2.1 = fold y.2.2.2.1
        · rw [show (cmpN y.2.2.2.1 x.2.2.2.1 == 0) = true by rw [beq_iff_eq]; exact e2.mpr c4.symm, show (cmpN x.2.2.2.1 y.2.2.2.1 == 0) = true by rw [beq_iff_eq]; exact e1.mpr c4, r_if_f (show ¬ bZ true = 0 by decide)]; exact rZ1
        · rw [show (cmpN y.2.2.2.1 x.2.2.2.1 == 0) = false by rw [beq_eq_false_iff_ne]; exact fun z => c4 (e2.mp z).symm, show (cmpN x.2.2.2.1 y.2.2.2.1 == 0) = false by rw [beq_eq_false_iff_ne]; exact fun z => c4 (e1.mp z), r_if_t (show bZ false = 0 by decide)]; exact rZ0
    · rw [r_if_f (fun z => c2 (lg_eq.mp z).symm), show (x.2.2.2.2.2.1 == y.2.2.2.2.2.1) = false by rw [beq_eq_false_iff_ne]; exact c2, Bool.false_and]; exact rZ0
  · rw [r_if_f (fun z => c1 (lg_eq.mp z).symm), show (x.2.2.2.2.1 == y.2.2.2.2.1) = false by rw [beq_eq_false_iff_ne]; exact c1, Bool.false_and]; exact rZ0
/-- nothing alike behind greater ones -/
theorem ffn_none {x : aR} : ∀ (l : List aR) (t : List Bool) (k : Nat), (∀ y, y ∈ l → isL x y = false) → ffn x l t k = none
  | [], t, k, _ => by cases t <;> rfl
  | y :: l, [], k, _ => rfl
  | y :: l, b :: t, k, h => by
    unfold ffn
    rw [if_neg (fun z => by rw [h y List.mem_cons_self] at z; exact absurd z.2 (by decide))]
    exact ffn_none l t (k + 1) (fun w hw => h w (List.mem_cons_of_mem _ hw))
/-- those ahead don't matter -/
theorem ffn_skip {x : aR} : ∀ (m : Nat) (l : List aR) (t : List Bool) (k : Nat), t.length = l.length → (∀ j y, j < m → l[j]? = some y → isL x y = false) → ffn x l t k = ffn x (l.drop m) (t.drop m) (k + m)
  | 0, l, t, k, _, _ => by rw [List.drop_zero, List.drop_zero]; rfl
  | m + 1, [], t, k, h, _ => by rw [List.length_eq_zero_iff.mp h]; rfl
  | m + 1, y :: l, [], k, h, _ => by cases h
  | m + 1, y :: l, b :: t, k, h, h2 => by
    rw [List.drop_succ_cons, List.drop_succ_cons]
    have h0 := h2 0 y (by omega) rfl
    rw [show ffn x (y :: l) (b :: t) k = if b = false ∧ isL x y = true then some k else ffn x l t (k + 1) from rfl, if_neg (fun z => by rw [h0] at z; exact absurd z.2 (by decide))]
    have := ffn_skip m l t (k + 1) (by simpa using h) (fun j w hj hw => h2 (j + 1) w (by omega) (by rw [List.getElem?_cons_succ]; exact hw))
    rw [this, show k + 1 + m = k + (m + 1) by omega]
theorem s_pairFrom {lb : List aR} {t : List Bool} {rb bx : Nat} {g : Nat → Option Nat} {f2 : Nat → Int32} {uu : Nat → Int32} {p0 : Int32} (hN : 2001 ≤ N) (wx : wfA x) (hx : rwA D M bx x u) (h10 : M.1 (z + 10) = some (.inr (4, [.ref (z + 11), .ref (z + 12)]))) (h12 : M.1 (z + 12) = some (.inl (5, 200, .inl f2))) (hr : M.1 rb = some (.inl (1, lb.length, .inr (.inr (.inr (.inr g)))))) (hl : lb.length ≤ 200) (ht : t.length = lb.length) (htf : ∀ j b, t[j]? = some b → f2 j = bZ b) (hg : ∀ i y, lb[i]? = some y → ∃ b, g i = some b ∧ rwA D M b y (uu i) ∧ wfA y) (hs : List.Pairwise (fun x y => oz x y ≤ 0) lb) : ∀ (d fu k : Nat), d + k = lb.length → d < fu → (∀ j y, k ≤ j → lb[j]? = some y → 0 ≤ oz y x) →
    (f_Pairing_pairFrom_3 N (z + 10) p0 (some bx) (some rb) fu (nI k)).1 M = match ffn x (lb.drop k) (t.drop k) k with
      | none => some (0, M)
      | some j => some (1, hm_up M (z + 12) (bAr (va_up f2 j 1))) := by
  intro d
  induction d with
  | zero =>
    intro fu k h1 h2 h3
    obtain ⟨fu, rfl⟩ : ∃ g, fu = g + 1 := ⟨fu - 1, by omega⟩
    rw [List.drop_eq_nil_of_le (by omega), e_Pairing_pairFrom_3, r_let, r_nn]
    refine (r_len hr).trans ?_
    dsimp only
    rw [r_if_t (show nI lb.length ≤ nI k from nI_le (by omega) (by omega))]
    rw [show ffn x [] (t.drop k) k = none from ffn_none [] _ _ (fun y hy => by cases hy)]
    exact rZ0
  | succ d ih =>
    intro fu k h1 h2 h3
    obtain ⟨fu, rfl⟩ : ∃ g, fu = g + 1 := ⟨fu - 1, by omega⟩
    have hk : k < lb.length := by omega
    have hkt : k < t.length := by omega
    have hget := List.getElem?_eq_getElem hk
    obtain ⟨by', b1, b2, b3⟩ := hg k _ hget
    have i1 : ¬ (nI k < 0 ∨ lb.length ≤ (nI k).toNatClampNeg) := nI_in (by omega) (by omega)
    have i2 : ¬ (nI k < 0 ∨ 200 ≤ (nI k).toNatClampNeg) := nI_in (by omega) (by decide)
    have c1 := nI_clamp (n := k) (by omega)
    obtain ⟨fs, hc⟩ := b2.cell
    have ho := s_Roworder (N := N) hN b3 wx b2 hx
    have hoz := h3 k _ (Nat.le_refl _) hget
    rw [List.drop_eq_getElem_cons hk, List.drop_eq_getElem_cons hkt, e_Pairing_pairFrom_3, r_let, r_nn]
    refine (r_len hr).trans ?_
    dsimp only
    rw [r_if_f (show ¬ nI lb.length ≤ nI k from nI_ge (by omega) (by omega))]
    refine (r_getR (r := some (z + 12)) h10 rfl).trans (r_nn.trans ((r_len h12).trans ?_))
    dsimp only
    rw [r_if_f (show ¬ nI 200 ≤ nI k from nI_ge (by omega) (by omega))]
    refine (r_aldR hr i1).trans ?_
    rw [c1, b1, r_nn]
    refine (r_is hc).trans (r_callE.trans ?_)
    rw [ho, Option.bind_some]
    dsimp only
    rw [show ffn x (lb[k] :: lb.drop (k + 1)) (t[k] :: t.drop (k + 1)) k = if t[k] = false ∧ isL x lb[k] = true then some k else ffn x (lb.drop (k + 1)) (t.drop (k + 1)) (k + 1) from rfl]
    have hf2 := htf k _ (List.getElem?_eq_getElem hkt)
    have nx := ih fu (k + 1) (by omega) (by omega) (fun j y hj hy => h3 j y (by omega) hy)
    by_cases c : ordR lb[k] x = 0
    · rw [r_if_t c]
      have hky := (ord_0 b3 wx).mp c
      have hk1 : lb[k].1 = x.1 := congrArg (fun q => q.1) hky
      have c' : ordR x lb[k] = 0 := (ord_0 wx b3).mpr hky.symm
      have hh := s_holds (N := N) hN wx b3 hk1 b2 hx
      have eL : isL x lb[k] = (x.2.2.2.2.1 == lb[k].2.2.2.2.1 && (x.2.2.2.2.2.1 == lb[k].2.2.2.2.2.1 && cmpN x.2.2.2.1 lb[k].2.2.2.1 == 0)) := by
        unfold isL
        rw [show (ordR x lb[k] == 0) = true by rw [beq_iff_eq]; exact c', Bool.true_and]
      refine (r_getR (r := some (z + 12)) h10 rfl).trans (r_nn.trans ((r_ald h12 i2).trans ?_))
      rw [c1, hf2]
      cases hb : t[k] with
      | true =>
        rw [r_if_f (show ¬ bZ true = 0 by decide), if_neg (fun z => Bool.noConfusion z.1), nI_1]; exact nx
      | false =>
        rw [r_if_t (show bZ false = 0 by decide)]
        refine (r_aldR hr i1).trans ?_
        rw [c1, b1, r_nn]
        refine (r_is hc).trans (r_callE.trans ?_)
        rw [hh, Option.bind_some, ← eL]
        dsimp only
        cases hl : isL x lb[k] with
        | true =>
          rw [r_if_f (show ¬ bZ true = 0 by decide), if_pos ⟨rfl, rfl⟩]
          refine (r_getR (r := some (z + 12)) h10 rfl).trans (r_nn.trans ((r_ast h12 i2).trans ?_))
          rw [c1, upd_va, show vp_nar .boolean 1 = 1 from by decide]
          exact rZ1
        | false =>
          rw [r_if_t (show bZ false = 0 by decide), if_neg (fun z => Bool.noConfusion z.2)]
          rw [nI_1]; exact nx
    · rw [r_if_f c]
      have pos : 0 < oz lb[k] x := by
        have : oz lb[k] x ≠ 0 := fun z => c (Z_0.mpr (by rw [ord_Z b3 wx]; exact z))
        omega
      have no : ∀ y, y ∈ lb[k] :: lb.drop (k + 1) → isL x y = false := by
        intro y hy
        cases hL : isL x y with
        | false => rfl
        | true =>
          exfalso
          have hmem : y ∈ lb.drop k := by rw [List.drop_eq_getElem_cons hk]; exact hy
          obtain ⟨j, hj⟩ := List.getElem?_of_mem hmem
          rw [List.getElem?_drop] at hj
          obtain ⟨_, _, _, wy⟩ := hg _ y hj
          have e0 := isL_k wx wy hL
          have e1 : oz lb[k] y ≤ 0 := by
            rcases List.mem_cons.mp hy with e | e
            · rw [e]
              have : oz lb[k] lb[k] = - oz lb[k] lb[k] := oz_n
              omega
            · have hs' := List.pairwise_iff_getElem.mp hs
              obtain ⟨j2, hj2⟩ := List.getElem?_of_mem e
              rw [List.getElem?_drop] at hj2
              obtain ⟨q1, q2⟩ := List.getElem?_eq_some_iff.mp hj2
              have := hs' k (k + 1 + j2) hk q1 (by omega)
              rw [q2] at this; exact this
          have e2 : oz y x ≤ 0 := by rw [oz_n, e0]; decide
          have := oz_t e1 e2
          omega
      have n1 : ¬ (t[k] = false ∧ isL x lb[k] = true) := fun z => by
        rw [no _ List.mem_cons_self] at z; exact absurd z.2 (by decide)
      rw [if_neg n1, ffn_none _ _ _ (fun y hy => no y (List.mem_cons_of_mem _ hy))]
      exact rZ0
theorem s_clear {A : Nat} : ∀ (d fu i : Nat) (f : Nat → Int32), d + i = 200 → d < fu → (∀ j, j < i → f j = 0) → ∃ f', (f_Pairing_clear_2 N (some A) fu (nI i)).1 (hm_up M A (bAr f)) = some ((), hm_up M A (bAr f')) ∧ ∀ j, j < 200 → f' j = 0 := by
  have A4 : ∀ g, (hm_up M A (bAr g)).1 A = some (.inl (5, 200, .inl g)) := fun g => up_s
  intro d
  induction d with
  | zero =>
    intro fu i f h1 h2 h3
    obtain ⟨fu, rfl⟩ : ∃ g, fu = g + 1 := ⟨fu - 1, by omega⟩
    refine ⟨f, ?_, fun j hj => h3 j (by omega)⟩
    rw [e_Pairing_clear_2, r_nn]
    refine (r_len (A4 f)).trans ?_
    dsimp only
    rw [r_if_t (show nI 200 ≤ nI i from nI_le (by omega) (by omega))]; rfl
  | succ d ih =>
    intro fu i f h1 h2 h3
    obtain ⟨fu, rfl⟩ : ∃ g, fu = g + 1 := ⟨fu - 1, by omega⟩
    have i2 : ¬ (nI i < 0 ∨ 200 ≤ (nI i).toNatClampNeg) := nI_in (by omega) (by decide)
    have c1 := nI_clamp (n := i) (by omega)
    obtain ⟨f', x1, x2⟩ := ih fu (i + 1) (va_up f i 0) (by omega) (by omega) (fun j hj => by
      by_cases e : j = i
      · rw [e, ua_s]
      · rw [ua_n e]; exact h3 j (by omega))
    refine ⟨f', ?_, x2⟩
    rw [e_Pairing_clear_2, r_nn]
    refine (r_len (A4 f)).trans ?_
    dsimp only
    rw [r_if_f (show ¬ nI 200 ≤ nI i from nI_ge (by omega) (by omega))]
    refine (r_ast (A4 f) i2).trans ?_
    rw [c1, upd_va, show vp_nar .boolean 0 = 0 from by decide, up_up, nI_1]
    exact x1
end CPAIR
