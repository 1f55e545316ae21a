/-! LAYER 2: a memory as a list of cells; the class is made -/
def lmem (z : Nat) (l : List va_E) (s : Nat) : hM := (fun b => if z ≤ b then l[b - z]? else none, z + l.length, s)
section LMEM
variable {z s : Nat} {l : List va_E} {α : Type}
theorem lmem_nil : ((fun _ => none), z, 0) = lmem z [] 0 := by
  unfold lmem
  refine Prod.ext ?_ rfl
  funext b
  show none = if z ≤ b then none else none
  split <;> rfl
theorem lmem_at {i : Nat} {e : va_E} (h : l[i]? = some e) : (lmem z l s).1 (z + i) = some e := by
  show (if z ≤ z + i then l[z + i - z]? else none) = _
  rw [if_pos (Nat.le_add_right _ _), Nat.add_sub_cancel_left]; exact h
theorem lmem_nw {e : va_E} {n : Nat} : hm_nw (lmem z l s) e n = lmem z (l ++ [e]) (s + n) := by
  unfold hm_nw lmem
  refine Prod.ext ?_ ?_
  · funext b
    show va_up (fun b => if z ≤ b then l[b - z]? else none) (z + l.length) (some e) b = if z ≤ b then (l ++ [e])[b - z]? else none
    unfold va_up
    by_cases c : b = z + l.length
    · rw [if_pos c, c, if_pos (Nat.le_add_right _ _), Nat.add_sub_cancel_left, List.getElem?_append_right (Nat.le_refl _), Nat.sub_self]; rfl
    · rw [if_neg c]
      by_cases d : z ≤ b
      · dsimp only
        rw [if_pos d, if_pos d]
        by_cases c2 : b - z < l.length
        · rw [List.getElem?_append_left c2]
        · rw [List.getElem?_eq_none (by omega), List.getElem?_eq_none (by rw [List.length_append]; show l.length + 1 ≤ _; omega)]
      · dsimp only
        rw [if_neg d, if_neg d]
  · show (z + l.length + 1, s + n) = (z + (l ++ [e]).length, s + n)
    rw [List.length_append]; rfl
theorem lmem_up {i : Nat} {e : va_E} (h : i < l.length) : hm_up (lmem z l s) (z + i) e = lmem z (l.set i e) s := by
  unfold hm_up lmem
  refine Prod.ext ?_ ?_
  · funext b
    show va_up (fun b => if z ≤ b then l[b - z]? else none) (z + i) (some e) b = if z ≤ b then (l.set i e)[b - z]? else none
    unfold va_up
    by_cases c : b = z + i
    · rw [if_pos c, c, if_pos (Nat.le_add_right _ _), Nat.add_sub_cancel_left, List.getElem?_set_self h]
    · rw [if_neg c]
      by_cases d : z ≤ b
      · dsimp only
        rw [if_pos d, if_pos d, List.getElem?_set_ne (by omega)]
      · dsimp only
        rw [if_neg d, if_neg d]
  · show (z + l.length, s) = (z + (l.set i e).length, s)
    rw [List.length_set]
theorem i_new {ci n q : Nat} {fs : List Value} {K : Nat → hX α} (hq : l.length = q) : (b_new ci n fs K).1 (lmem z l s) = (K (z + q)).1 (lmem z (l ++ [.inr (ci, fs)]) (s + n)) := by
  subst hq
  exact r_new.trans (by rw [lmem_nw]; rfl)
theorem i_newa {t k q : Nat} {n : Int32} {K : Nat → hX α} (hq : l.length = q) (hn : n.toNatClampNeg = k) (h : ¬ (n < 0 ∨ 60000000 < k)) : (b_newa t n K).1 (lmem z l s) = (K (z + q)).1 (lmem z (l ++ [.inl (t, k, .inl (fun _ => 0))]) (s + k)) := by
  subst hq hn
  exact (r_newa h).trans (by rw [lmem_nw]; rfl)
theorem i_newL {t k q : Nat} {n : Int32} {K : Nat → hX α} (hq : l.length = q) (hn : n.toNatClampNeg = k) (h : ¬ (n < 0 ∨ 60000000 < k)) : (b_newL t n K).1 (lmem z l s) = (K (z + q)).1 (lmem z (l ++ [.inl (t, k, .inr (.inl (fun _ => 0)))]) (s + k)) := by
  subst hq hn
  exact (r_newL h).trans (by rw [lmem_nw]; rfl)
theorem i_newq {t k q : Nat} {n : Int32} {K : Nat → hX α} (hq : l.length = q) (hn : n.toNatClampNeg = k) (h : ¬ (n < 0 ∨ 60000000 < k)) : (b_newq t n K).1 (lmem z l s) = (K (z + q)).1 (lmem z (l ++ [.inl (t, k, .inr (.inr (.inr (.inr (fun _ => none)))))]) (s + k)) := by
  subst hq hn
  exact (r_newq h).trans (by rw [lmem_nw]; rfl)
theorem gs_lt {i : Nat} {e : va_E} (h : l[i]? = some e) : i < l.length := by
  obtain ⟨h1, _⟩ := List.getElem?_eq_some_iff.mp h
  exact h1
theorem i_put {i ci k : Nat} {v : Value} {fs : List Value} {K : hX α} (h : l[i]? = some (.inr (ci, fs))) (hk : Nat.blt k fs.length = true) : (b_put (z + i) ci k v K).1 (lmem z l s) = K.1 (lmem z (l.set i (.inr (ci, fs.set k v))) s) :=
  (r_put (lmem_at h) (Nat.le_of_ble_eq_true hk)).trans (by rw [lmem_up (gs_lt h)])
theorem i_getR {i ci k : Nat} {fs : List Value} {r : Option Nat} {K : Option Nat → hX α} (h : l[i]? = some (.inr (ci, fs))) (hk : fs[k]? = some (va_rf r)) : (b_getR (z + i) ci k K).1 (lmem z l s) = (K r).1 (lmem z l s) := r_getR (lmem_at h) hk
theorem i_ast {i t n : Nat} {j x : Int32} {f : Nat → Int32} {K : hX α} (h : l[i]? = some (.inl (t, n, .inl f))) (hi : ¬ (j < 0 ∨ n ≤ j.toNatClampNeg)) : (b_ast (z + i) t j x K).1 (lmem z l s) = K.1 (lmem z (l.set i (.inl (t, n, .inl (upd f j.toNatClampNeg x)))) s) :=
  (r_ast (lmem_at h) hi).trans (by rw [lmem_up (gs_lt h)])
theorem i_astL {i t n : Nat} {j : Int32} {x : Int64} {f : Nat → Int64} {K : hX α} (h : l[i]? = some (.inl (t, n, .inr (.inl f)))) (hi : ¬ (j < 0 ∨ n ≤ j.toNatClampNeg)) : (b_astL (z + i) t j x K).1 (lmem z l s) = K.1 (lmem z (l.set i (.inl (t, n, .inr (.inl (vp_updL f j.toNatClampNeg x))))) s) :=
  (r_astL (lmem_at h) hi).trans (by rw [lmem_up (gs_lt h)])
/-- what the class makes -/
def cell14 (z : Nat) : List va_E := [.inr (0, [.ref (z + 1), .ref (z + 2), .ref (z + 7), .int 0, .ref (z + 8), .ref (z + 10), .ref (z + 13), .int 0, .int 0]), .inr (6, [.ref (z + 2), .ref (z + 4), .ref (z + 5), .int 0, .ref (z + 6), .int 0, .null, .long 0, .int 0, .int 0]), .inr (8, [.ref (z + 3), .int 0, .int 0, .int 0, .int 0, .int 0, .long 0, .long 0, .long 0]), .inl (0, 2000, .inl (fun _ => 0)), .inl (1, 200, .inr (.inr (.inr (.inr (fun _ => none))))), .inl (2, 200, .inl (fun _ => 0)), .inl (3, 181, .inr (.inr (.inr (.inr (fun _ => none))))), .inl (4, 40, .inr (.inr (.inr (.inr (fun _ => none))))), .inr (5, [.ref (z + 9), .int 0]), .inl (0, 4181, .inl (fun _ => 0)), .inr (4, [.ref (z + 11), .ref (z + 12)]), .inl (5, 200, .inl (fun _ => 0)), .inl (5, 200, .inl (fun _ => 0)), .inl (2, 400, .inl (fun _ => 0))]
theorem PR_made {N : Nat} {K : Unit → hX α} : (b_new 0 9 [.null, .null, .null, .int 0, .null, .null, .null, .int 0, .int 0] (fun q => b_call (f_PR_init N q) K)).1 (lmem z [] 0) = (K ()).1 (lmem z (cell14 z) 7634) := by
  refine (i_new (q := 0) rfl).trans ?_
  refine (r_call (v := ()) (N := lmem z (cell14 z) 7634) ?_)
  rw [e_PR_init]
  refine (i_new (q := 1) rfl).trans ?_
  refine (r_call (v := ()) (N := lmem z [.inr (0, [.null, .null, .null, .int 0, .null, .null, .null, .int 0, .int 0]), .inr (6, [.ref (z + 2), .ref (z + 4), .ref (z + 5), .int 0, .ref (z + 6), .int 0, .null, .long 0, .int 0, .int 0]), .inr (8, [.ref (z + 3), .int 0, .int 0, .int 0, .int 0, .int 0, .long 0, .long 0, .long 0]), .inl (0, 2000, .inl (fun _ => 0)), .inl (1, 200, .inr (.inr (.inr (.inr (fun _ => none))))), .inl (2, 200, .inl (fun _ => 0)), .inl (3, 181, .inr (.inr (.inr (.inr (fun _ => none)))))] 2609) ?_).trans ?_
  · rw [e_Reader_init]
    refine (i_new (q := 2) rfl).trans ?_
    refine (r_call (v := ()) (N := lmem z [.inr (0, [.null, .null, .null, .int 0, .null, .null, .null, .int 0, .int 0]), .inr (6, [.null, .null, .null, .int 0, .null, .int 0, .null, .long 0, .int 0, .int 0]), .inr (8, [.ref (z + 3), .int 0, .int 0, .int 0, .int 0, .int 0, .long 0, .long 0, .long 0]), .inl (0, 2000, .inl (fun _ => 0))] 2028) ?_).trans ?_
    · rw [e_Scan_init]
      refine (i_newa (q := 3) (k := 2000) rfl rfl (by decide)).trans ?_
      exact (i_put (i := 2) rfl rfl).trans rfl
    · refine (i_put (i := 1) rfl rfl).trans ?_
      refine (i_newq (q := 4) (k := 200) rfl rfl (by decide)).trans ?_
      refine (i_put (i := 1) rfl rfl).trans ?_
      refine (i_newa (q := 5) (k := 200) rfl rfl (by decide)).trans ?_
      refine (i_put (i := 1) rfl rfl).trans ?_
      refine (i_newq (q := 6) (k := 181) rfl rfl (by decide)).trans ?_
      exact (i_put (i := 1) rfl rfl).trans rfl
  · refine (i_put (i := 0) rfl rfl).trans ?_
    refine (i_getR (i := 0) (r := some (z + 1)) rfl rfl).trans (r_nn.trans ?_)
    refine (i_getR (i := 1) (r := some (z + 2)) rfl rfl).trans ?_
    refine (i_put (i := 0) rfl rfl).trans ?_
    refine (i_newq (q := 7) (k := 40) rfl rfl (by decide)).trans ?_
    refine (i_put (i := 0) rfl rfl).trans ?_
    refine (i_new (q := 8) rfl).trans ?_
    refine (r_call (v := ()) (N := lmem z [.inr (0, [.ref (z + 1), .ref (z + 2), .ref (z + 7), .int 0, .null, .null, .null, .int 0, .int 0]), .inr (6, [.ref (z + 2), .ref (z + 4), .ref (z + 5), .int 0, .ref (z + 6), .int 0, .null, .long 0, .int 0, .int 0]), .inr (8, [.ref (z + 3), .int 0, .int 0, .int 0, .int 0, .int 0, .long 0, .long 0, .long 0]), .inl (0, 2000, .inl (fun _ => 0)), .inl (1, 200, .inr (.inr (.inr (.inr (fun _ => none))))), .inl (2, 200, .inl (fun _ => 0)), .inl (3, 181, .inr (.inr (.inr (.inr (fun _ => none))))), .inl (4, 40, .inr (.inr (.inr (.inr (fun _ => none))))), .inr (5, [.ref (z + 9), .int 0]), .inl (0, 4181, .inl (fun _ => 0))] 6832) ?_).trans ?_
    · rw [e_Printer_init]
      refine (i_newa (q := 9) (k := 4181) rfl rfl (by decide)).trans ?_
      exact (i_put (i := 8) rfl rfl).trans rfl
    · refine (i_put (i := 0) rfl rfl).trans ?_
      refine (i_new (q := 10) rfl).trans ?_
      refine (r_call (v := ()) (N := lmem z [.inr (0, [.ref (z + 1), .ref (z + 2), .ref (z + 7), .int 0, .ref (z + 8), .null, .null, .int 0, .int 0]), .inr (6, [.ref (z + 2), .ref (z + 4), .ref (z + 5), .int 0, .ref (z + 6), .int 0, .null, .long 0, .int 0, .int 0]), .inr (8, [.ref (z + 3), .int 0, .int 0, .int 0, .int 0, .int 0, .long 0, .long 0, .long 0]), .inl (0, 2000, .inl (fun _ => 0)), .inl (1, 200, .inr (.inr (.inr (.inr (fun _ => none))))), .inl (2, 200, .inl (fun _ => 0)), .inl (3, 181, .inr (.inr (.inr (.inr (fun _ => none))))), .inl (4, 40, .inr (.inr (.inr (.inr (fun _ => none))))), .inr (5, [.ref (z + 9), .int 0]), .inl (0, 4181, .inl (fun _ => 0)), .inr (4, [.ref (z + 11), .ref (z + 12)]), .inl (5, 200, .inl (fun _ => 0)), .inl (5, 200, .inl (fun _ => 0))] 7234) ?_).trans ?_
      · rw [e_Pairing_init]
        refine (i_newa (q := 11) (k := 200) rfl rfl (by decide)).trans ?_
        refine (i_put (i := 10) rfl rfl).trans ?_
        refine (i_newa (q := 12) (k := 200) rfl rfl (by decide)).trans ?_
        exact (i_put (i := 10) rfl rfl).trans rfl
      · refine (i_put (i := 0) rfl rfl).trans ?_
        refine (i_newa (q := 13) (k := 400) rfl rfl (by decide)).trans ?_
        exact (i_put (i := 0) rfl rfl).trans rfl
end LMEM
