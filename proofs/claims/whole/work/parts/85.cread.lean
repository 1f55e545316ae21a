/-! LAYER 2: the class's reader -/
/-- features as they came first -/
def dst : List (List Int32) → List (List Int32) → List (List Int32)
  | acc, [] => acc
  | acc, w :: t => if hasF w acc = true then dst acc t else dst (acc ++ [w]) t
def dsF (fs : List (List Int32)) : List (List Int32) := dst [] fs
theorem dst_app {w : List Int32} : ∀ (acc fs : List (List Int32)), dst acc (fs ++ [w]) = if hasF w (dst acc fs) = true then dst acc fs else dst acc fs ++ [w]
  | acc, [] => by
    show (if hasF w acc = true then dst acc [] else dst (acc ++ [w]) []) = if hasF w acc = true then acc else acc ++ [w]
    rfl
  | acc, x :: t => by
    show (if hasF x acc = true then dst acc (t ++ [w]) else dst (acc ++ [x]) (t ++ [w])) = if hasF w (if hasF x acc = true then dst acc t else dst (acc ++ [x]) t) = true then (if hasF x acc = true then dst acc t else dst (acc ++ [x]) t) else (if hasF x acc = true then dst acc t else dst (acc ++ [x]) t) ++ [w]
    by_cases c : hasF x acc = true
    · rw [if_pos c, if_pos c]; exact dst_app acc t
    · rw [if_neg c, if_neg c]; exact dst_app (acc ++ [x]) t
theorem dst_len : ∀ (acc fs : List (List Int32)), (dst acc fs).length ≤ acc.length + fs.length
  | acc, [] => Nat.le_refl _
  | acc, x :: t => by
    unfold dst
    split
    · have := dst_len acc t; show _ ≤ _ + (t.length + 1); omega
    · have := dst_len (acc ++ [x]) t
      rw [List.length_append] at this
      have e : ([x] : List (List Int32)).length = 1 := rfl
      show _ ≤ _ + (t.length + 1); omega
def rdC (z : Nat) (rc fc : Int32) (nm : Option Nat) (ver : Int64) (trp st : Int32) : va_E := .inr (6, [.ref (z + 2), .ref (z + 4), .ref (z + 5), .int rc, .ref (z + 6), .int fc, va_rf nm, .long ver, .int trp, .int st])
/-- what was read so far, in the class's reader -/
def RB (z L : Nat) (M : hM) (st : aP) (trp stv : Int32) (nmr : Option Nat) (ver : Int64) : Prop := ∃ g h g2, M.1 (z + 1) = some (rdC z (nI st.1.length) (nI (dsF st.2.1).length) nmr ver trp stv) ∧ M.1 (z + 4) = some (.inl (1, 200, .inr (.inr (.inr (.inr g))))) ∧ M.1 (z + 5) = some (.inl (2, 200, .inl h)) ∧ M.1 (z + 6) = some (.inl (3, 181, .inr (.inr (.inr (.inr g2))))) ∧ (∀ i x, st.1[i]? = some x → ∃ b, g i = some b ∧ rwA (z + 43) M b x.1 0 ∧ ((x.1.1 = 10 → h i = nI x.2) ∧ L ≤ b)) ∧ (∀ i j b, i < st.1.length → j < st.1.length → g i = some b → g j = some b → i = j) ∧ nmsA (z + 43) M g2 (dsF st.2.1) ∧ (z + 43 ≤ L ∧ L ≤ M.2.1)
/-- the reading leaves all but its own cells -/
def rfr (z : Nat) (M M' : hM) : Prop := M.2.1 ≤ M'.2.1 ∧ ∀ b, b < M.2.1 → b ≠ z + 1 → b ≠ z + 2 → b ≠ z + 4 → b ≠ z + 5 → b ≠ z + 6 → M'.1 b = M.1 b
/-- the room that c signs may take -/
def rom (M M' : hM) (c : Nat) : Prop := M'.2.1 ≤ M.2.1 + 8 * c ∧ M'.2.2 ≤ M.2.2 + 100 * c
section CREAD
variable {N z L : Nat} {M M' M'' : hM} {v : sV} {f : Nat → Int32} {n k : Nat} {st : aP} {trp stv : Int32} {nmr : Option Nat} {ver : Int64}
theorem rfr.rf : rfr z M M := ⟨Nat.le_refl _, fun _ _ _ _ _ _ _ => rfl⟩
theorem rfr.tr (h : rfr z M M') (g : rfr z M' M'') : rfr z M M'' := ⟨Nat.le_trans h.1 g.1, fun b x a1 a2 a3 a4 a5 => (g.2 b (Nat.lt_of_lt_of_le x h.1) a1 a2 a3 a4 a5).trans (h.2 b x a1 a2 a3 a4 a5)⟩
theorem rfr.d (h : rfr z M M') : dfr (z + 43) M M' := ⟨h.1, fun b x y => h.2 b y (by omega) (by omega) (by omega) (by omega) (by omega)⟩
theorem rfr_up {e : va_E} {b : Nat} (hb : b = z + 1 ∨ b = z + 2 ∨ b = z + 4 ∨ b = z + 5 ∨ b = z + 6) : rfr z M (hm_up M b e) := ⟨Nat.le_refl _, fun q _ a1 a2 a3 a4 a5 => up_n (by omega)⟩
theorem rom.rf {c : Nat} : rom M M c := ⟨Nat.le_add_right _ _, Nat.le_add_right _ _⟩
theorem rom.tr {c d : Nat} (h : rom M M' c) (g : rom M' M'' d) : rom M M'' (c + d) := ⟨by have := h.1; have := g.1; omega, by have := h.2; have := g.2; omega⟩
theorem rom.le {c d : Nat} (h : rom M M' c) (g : c ≤ d) : rom M M' d := ⟨by have := h.1; omega, by have := h.2; omega⟩
theorem rom_up {e : va_E} {b c : Nat} : rom M (hm_up M b e) c := ⟨Nat.le_add_right _ _, Nat.le_add_right _ _⟩
/-- a step that touches nothing of the reader's -/
theorem RB.fr (h : RB z L M st trp stv nmr ver) (g : dfr (z + 43) M M') (e1 : M'.1 (z + 1) = M.1 (z + 1)) (e4 : M'.1 (z + 4) = M.1 (z + 4)) (e5 : M'.1 (z + 5) = M.1 (z + 5)) (e6 : M'.1 (z + 6) = M.1 (z + 6)) : RB z L M' st trp stv nmr ver := by
  obtain ⟨p, q, r, a1, a2, a3, a4, a5, a6, a7, a8⟩ := h
  refine ⟨p, q, r, e1.trans a1, e4.trans a2, e5.trans a3, e6.trans a4, fun i x hx => ?_, a6, a7.f g, by have := g.1; omega⟩
  obtain ⟨b, c1, c2, c3⟩ := a5 i x hx
  exact ⟨b, c1, c2.f g, c3⟩
theorem RB.sc (h : RB z L M st trp stv nmr ver) {w : sV} : RB z L (hm_up M (z + 2) (scC (z + 3) w)) st trp stv nmr ver := h.fr (rfr_up (Or.inr (Or.inl rfl))).d (up_n (by omega)) (up_n (by omega)) (up_n (by omega)) (up_n (by omega))
theorem RB.lt (h : RB z L M st trp stv nmr ver) : z + 43 ≤ M.2.1 := by obtain ⟨_, _, _, _, _, _, _, _, _, _, a⟩ := h; omega
theorem sOk.o (h : sOk M (z + 2) (z + 3) v f n k) (e2 : M'.1 (z + 2) = M.1 (z + 2)) (e3 : M'.1 (z + 3) = M.1 (z + 3)) : sOk M' (z + 2) (z + 3) v f n k := ⟨⟨e2.trans h.1.1, e3.trans h.1.2.1, h.1.2.2⟩, h.2⟩
theorem app_last {α : Type} {l : List α} {x : α} {i : Nat} (h : i < (l ++ [x]).length) : i < l.length ∨ i = l.length := by
  rw [List.length_append] at h
  have : i < l.length + 1 := h
  omega
theorem s_add {kd q0 pl nb : Nat} {nm ot : List Int32} {ob : Option Nat} {lo hi : Int64} (hN : 2001 ≤ N) (hS : sOk M (z + 2) (z + 3) v f n k) (hB : RB z L M st (nI q0) stv nmr ver) (hl : st.1.length ≤ 200) (hkd : kd < 16) (h8 : kd = 8 → stv = nI st.2.2) (hnm : nmA (z + 43) M nb nm) (ho1 : ot = [] → ob = none) (ho2 : ot ≠ [] → ∃ c, ob = some c ∧ nmA (z + 43) M c ot) (hpl : kd = 10 → v.2.2.2.1 = nI pl) :
    if st.1.length = 200 then (f_Reader_addRow N (z + 1) (nI kd) (some nb) ob lo hi).1 M = some (0, hm_up M (z + 2) (scC (z + 3) (v.1, v.2.1, nI q0, v.2.2.2)))
    else ∃ M', (f_Reader_addRow N (z + 1) (nI kd) (some nb) ob lo hi).1 M = some (1, M') ∧ sOk M' (z + 2) (z + 3) v f n k ∧ RB z L M' (st.1 ++ [((kd, if kd = 8 then nI st.2.2 else -1, nm, ot, lo, hi, false), pl)], st.2) (nI q0) stv nmr ver ∧ rfr z M M' ∧ M'.2.1 = M.2.1 + 1 ∧ M'.2.2 = M.2.2 + 8 := by
  have hB' := hB
  obtain ⟨g, h, g2, a1, a2, a3, a4, a5, a6, a7, a8⟩ := hB
  have c23 := nI_clamp (n := st.1.length) (by omega)
  rw [e_Reader_addRow, r_let, r_let]
  by_cases c : st.1.length = 200
  · rw [if_pos c]
    refine (r_getI a1 rfl).trans ((r_getR (r := some (z + 4)) a1 rfl).trans (r_nn.trans ((r_len a2).trans ?_)))
    dsimp only
    rw [r_if_t (show nI 200 ≤ nI st.1.length by rw [c]; exact Int32.le_refl _)]
    refine (r_getR (r := some (z + 2)) a1 rfl).trans ((r_getI a1 rfl).trans (r_nn.trans ((r_is hS.1.1).trans (r_callE.trans ?_))))
    rw [s_refuse hS.1.1, Option.bind_some]
    exact rZ0
  · rw [if_neg c]
    have i1 : ¬ (nI st.1.length < 0 ∨ 200 ≤ (nI st.1.length).toNatClampNeg) := nI_in (by omega) (by decide)
    -- the row's cell
    generalize hs : (if kd = 8 then nI st.2.2 else -1) = sv
    have key : ∀ (M0 : hM), M0 = hm_nw M (.inr (7, [.int 0, .int 0, .null, .null, .long 0, .long 0, .int 0, .int 0])) 8 → ∃ M', (b_nn (some M.2.1) (fun a8 => b_call (f_Row_init N a8 (nI kd) sv (some nb) ob lo hi) (fun _ => b_nn (some (z + 4)) (fun a12 => b_astR a12 1 7 (nI st.1.length) (some M.2.1) (b_getR (z + 1) 6 2 (fun r13 => b_getI (z + 1) 6 3 (fun v14 => b_getR (z + 1) 6 0 (fun r15 => b_nn r15 (fun a16 => b_getI a16 8 4 (fun v17 => b_nn r13 (fun a18 => b_ast a18 2 v14 v17 (b_getI (z + 1) 6 3 (fun v19 => b_put (z + 1) 6 3 (.int (v19 + 1)) (b_retN .boolean 1)))))))))))))).1 M0 = some (1, M') ∧ sOk M' (z + 2) (z + 3) v f n k ∧ RB z L M' (st.1 ++ [((kd, sv, nm, ot, lo, hi, false), pl)], st.2) (nI q0) stv nmr ver ∧ rfr z M M' ∧ M'.2.1 = M.2.1 + 1 ∧ M'.2.2 = M.2.2 + 8 := by
      intro M0 hM0
      subst hM0
      rw [r_nn, r_callE]
      have ri : (f_Row_init N M.2.1 (nI kd) sv (some nb) ob lo hi).1 (hm_nw M (.inr (7, [.int 0, .int 0, .null, .null, .long 0, .long 0, .int 0, .int 0])) 8) = some ((), hm_up (hm_nw M (.inr (7, [.int 0, .int 0, .null, .null, .long 0, .long 0, .int 0, .int 0])) 8) M.2.1 (.inr (7, [.int (nI kd), .int sv, .ref nb, va_rf ob, .long lo, .long hi, .int 0, .int 0]))) := by
        rw [e_Row_init]
        refine (r_put nw_s (Nat.le_of_ble_eq_true rfl)).trans ?_
        refine (r_put up_s (Nat.le_of_ble_eq_true rfl)).trans ?_
        rw [up_up]
        refine (r_put up_s (Nat.le_of_ble_eq_true rfl)).trans ?_
        rw [up_up]
        refine (r_put up_s (Nat.le_of_ble_eq_true rfl)).trans ?_
        rw [up_up]
        refine (r_put up_s (Nat.le_of_ble_eq_true rfl)).trans ?_
        rw [up_up]
        refine (r_put up_s (Nat.le_of_ble_eq_true rfl)).trans ?_
        rw [up_up]
        rfl
      rw [ri, Option.bind_some]
      generalize hX : hm_up (hm_nw M (.inr (7, [.int 0, .int 0, .null, .null, .long 0, .long 0, .int 0, .int 0])) 8) M.2.1 (.inr (7, [.int (nI kd), .int sv, .ref nb, va_rf ob, .long lo, .long hi, .int 0, .int 0])) = X
      have x0 : X.1 M.2.1 = some (.inr (7, [.int (nI kd), .int sv, .ref nb, va_rf ob, .long lo, .long hi, .int 0, .int 0])) := by rw [← hX]; exact up_s
      have xo : ∀ b, b < M.2.1 → X.1 b = M.1 b := fun b hb => by rw [← hX]; exact (up_n (by omega)).trans (nw_n (by omega))
      have xs : X.2.1 = M.2.1 + 1 := by rw [← hX]; rfl
      have xt : X.2.2 = M.2.2 + 8 := by rw [← hX]; rfl
      have X4 := (xo (z + 4) (by omega)).trans a2
      rw [r_nn]
      refine Exists.elim (p := fun M' => M' = hm_up (hm_up (hm_up X (z + 4) (.inl (1, 200, .inr (.inr (.inr (.inr (va_up g st.1.length (some M.2.1)))))))) (z + 5) (.inl (2, 200, .inl (va_up h st.1.length v.2.2.2.1)))) (z + 1) (rdC z (nI (st.1.length + 1)) (nI (dsF st.2.1).length) nmr ver (nI q0) stv)) ⟨_, rfl⟩ (fun M' hM' => ⟨M', ?_, ?_⟩)
      · refine (r_astR X4 i1 x0).trans ?_
        rw [c23]
        have e1 : ∀ e, (hm_up X (z + 4) e).1 (z + 1) = some (rdC z (nI st.1.length) (nI (dsF st.2.1).length) nmr ver (nI q0) stv) := fun e => (up_n (by omega)).trans ((xo (z + 1) (by omega)).trans a1)
        have e2 : ∀ e, (hm_up X (z + 4) e).1 (z + 2) = some (scC (z + 3) v) := fun e => (up_n (by omega)).trans ((xo (z + 2) (by omega)).trans hS.1.1)
        have e5 : ∀ e, (hm_up X (z + 4) e).1 (z + 5) = some (.inl (2, 200, .inl h)) := fun e => (up_n (by omega)).trans ((xo (z + 5) (by omega)).trans a3)
        refine (r_getR (r := some (z + 5)) (e1 _) rfl).trans ((r_getI (e1 _) rfl).trans ((r_getR (r := some (z + 2)) (e1 _) rfl).trans (r_nn.trans ((r_getI (e2 _) rfl).trans (r_nn.trans ((r_ast (e5 _) i1).trans ?_))))))
        rw [c23, upd_va]
        have e1' : ∀ e e', (hm_up (hm_up X (z + 4) e) (z + 5) e').1 (z + 1) = some (rdC z (nI st.1.length) (nI (dsF st.2.1).length) nmr ver (nI q0) stv) := fun e e' => (up_n (by omega)).trans (e1 e)
        refine (r_getI (e1' _ _) rfl).trans ((r_put (e1' _ _) (Nat.le_of_ble_eq_true rfl)).trans ?_)
        rw [nI_1, hM']
        exact rZ1
      · have mo : ∀ b, b < M.2.1 → b ≠ z + 1 → b ≠ z + 4 → b ≠ z + 5 → M'.1 b = M.1 b := fun b hb n1 n4 n5 => by rw [hM']; exact (up_n n1).trans ((up_n n5).trans ((up_n n4).trans (xo b hb)))
        have ms : M'.2.1 = M.2.1 + 1 := by rw [hM']; exact xs
        have mt : M'.2.2 = M.2.2 + 8 := by rw [hM']; exact xt
        have fr : rfr z M M' := ⟨by omega, fun b hb n1 _ n4 n5 _ => mo b hb n1 n4 n5⟩
        refine ⟨hS.o (mo _ (by omega) (by omega) (by omega) (by omega)) (mo _ (by omega) (by omega) (by omega) (by omega)), ⟨va_up g st.1.length (some M.2.1), va_up h st.1.length v.2.2.2.1, g2, ?_, ?_, ?_, ?_, ?_, ?_, a7.f fr.d, by omega⟩, fr, ms, mt⟩
        · rw [hM', List.length_append]; exact up_s
        · rw [hM']; exact (up_n (by omega)).trans ((up_n (by omega)).trans up_s)
        · rw [hM']; exact (up_n (by omega)).trans up_s
        · exact (mo _ (by omega) (by omega) (by omega) (by omega)).trans a4
        · intro i x hx
          rcases app_get hx with d | ⟨d1, d2⟩
          · obtain ⟨b, b1, b2, b3⟩ := a5 i x d
            have hi := (List.getElem?_eq_some_iff.mp d).1
            exact ⟨b, by rw [ua_n (by omega)]; exact b1, b2.f fr.d, fun z => by rw [ua_n (by omega)]; exact b3.1 z, b3.2⟩
          · refine ⟨M.2.1, by rw [d1, ua_s], ?_, fun z => ?_, a8.2⟩
            · rw [d2]
              refine ⟨⟨by omega, by omega⟩, nb, ob, ?_, hnm.f fr.d, ho1, fun y => ?_⟩
              · rw [hM']; exact (up_n (by omega)).trans ((up_n (by omega)).trans ((up_n (by omega)).trans x0))
              · obtain ⟨cc, y1, y2⟩ := ho2 y
                exact ⟨cc, y1, y2.f fr.d⟩
            · rw [d2] at z ⊢
              rw [d1, ua_s]; exact hpl z
        · intro i j b hi hj gi gj
          have old : ∀ i b, i < st.1.length → g i = some b → b < M.2.1 := fun i b hi gi => by
            obtain ⟨b', e1, e2, _⟩ := a5 i _ (List.getElem?_eq_getElem hi)
            rw [gi] at e1; cases e1; exact e2.1.2
          rcases app_last hi with hi' | hi' <;> rcases app_last hj with hj' | hj'
          · rw [ua_n (by omega)] at gi; rw [ua_n (by omega)] at gj; exact a6 i j b hi' hj' gi gj
          · rw [ua_n (by omega)] at gi; rw [hj', ua_s] at gj; cases gj
            have := old i _ hi' gi; omega
          · rw [hi', ua_s] at gi; rw [ua_n (by omega)] at gj; cases gi
            have := old j _ hj' gj; omega
          · omega
    refine Exists.elim (key _ rfl) (fun M' hM' => ⟨M', ?_, hM'.2⟩)
    refine (r_getI a1 rfl).trans ((r_getR (r := some (z + 4)) a1 rfl).trans (r_nn.trans ((r_len a2).trans ?_)))
    dsimp only
    rw [r_if_f (show ¬ nI 200 ≤ nI st.1.length from nI_ge (by omega) (by omega))]
    refine (r_getI a1 rfl).trans ((r_getR (r := some (z + 5)) a1 rfl).trans (r_nn.trans ((r_len a3).trans ?_)))
    dsimp only
    rw [r_if_t (show nI st.1.length < nI 200 from nI_lt (by omega) (by omega))]
    refine (r_getR (r := some (z + 4)) a1 rfl).trans ((r_getI a1 rfl).trans (r_new.trans ?_))
    by_cases d8 : kd = 8
    · rw [if_pos d8] at hs
      rw [r_if_t (show nI kd = 8 by rw [d8]; rfl)]
      refine (r_getI ((nw_n (by omega)).trans a1) rfl).trans ?_
      rw [h8 d8, hs]
      exact hM'.1
    · rw [if_neg d8] at hs
      rw [r_if_f (show ¬ nI kd = 8 from fun z => d8 ((nI_eq (b := 8) (by omega) (by omega)).mp z)), hs]
      exact hM'.1
end CREAD
