/-! LAYER 2: the reference is made -/
def ref0 : rS := (fun _ => 0, fun _ => 0, fun j => if j = 4 then (upd (upd (upd (upd (upd (upd (upd (upd (upd (upd (upd (upd (fun _ => 0) (0 : Int32).toNatClampNeg 0) (1 : Int32).toNatClampNeg 5) (2 : Int32).toNatClampNeg 6) (3 : Int32).toNatClampNeg 7) (4 : Int32).toNatClampNeg 8) (5 : Int32).toNatClampNeg 9) (6 : Int32).toNatClampNeg 10) (7 : Int32).toNatClampNeg 11) (8 : Int32).toNatClampNeg 12) (9 : Int32).toNatClampNeg 13) (10 : Int32).toNatClampNeg 14) (11 : Int32).toNatClampNeg 15) else fun _ => 0, fun j => if j = 2 then (vp_updL (vp_updL (vp_updL (vp_updL (vp_updL (fun _ => 0) (0 : Int32).toNatClampNeg 7501166) (1 : Int32).toNatClampNeg 422876638308) (2 : Int32).toNatClampNeg 1952805748) (3 : Int32).toNatClampNeg 8030046131791487340) (4 : Int32).toNatClampNeg 1885693298) else if j = 3 then (vp_updL (vp_updL (vp_updL (vp_updL (vp_updL (vp_updL (vp_updL (vp_updL (vp_updL (vp_updL (vp_updL (vp_updL (fun _ => 0) (0 : Int32).toNatClampNeg 1852138852) (1 : Int32).toNatClampNeg 7165066918354314100) (2 : Int32).toNatClampNeg 32199680874079077) (3 : Int32).toNatClampNeg 31651020445148261) (4 : Int32).toNatClampNeg 6385273) (5 : Int32).toNatClampNeg 28821916864574053) (6 : Int32).toNatClampNeg 28258988067220596) (7 : Int32).toNatClampNeg 8100956982295360109) (8 : Int32).toNatClampNeg 30515173109162853) (9 : Int32).toNatClampNeg 118083237733746) (10 : Int32).toNatClampNeg 126870958469236) (11 : Int32).toNatClampNeg 1718185061) else fun _ => 0)
/-- what the reference makes -/
def ref29 (z : Nat) : List va_E := .inr (1, rF (z + 14) ref0) :: [rC (z + 14) ref0 1, rC (z + 14) ref0 2, rC (z + 14) ref0 3, rC (z + 14) ref0 4, rC (z + 14) ref0 5, rC (z + 14) ref0 6, rC (z + 14) ref0 7, rC (z + 14) ref0 8, rC (z + 14) ref0 9, rC (z + 14) ref0 10, rC (z + 14) ref0 11, rC (z + 14) ref0 12, rC (z + 14) ref0 13, rC (z + 14) ref0 14, rC (z + 14) ref0 15, rC (z + 14) ref0 16, rC (z + 14) ref0 17, rC (z + 14) ref0 18, rC (z + 14) ref0 19, rC (z + 14) ref0 20, rC (z + 14) ref0 21, rC (z + 14) ref0 22, rC (z + 14) ref0 23, rC (z + 14) ref0 24, rC (z + 14) ref0 25, rC (z + 14) ref0 26, rC (z + 14) ref0 27, rC (z + 14) ref0 28]
/-- while it is made: its fields, its arrays so far -/
def mmem (z : Nat) (fs : List Value) (l : List va_E) (s : Nat) : hM := lmem z (cell14 z ++ (.inr (1, fs) :: l)) s
section MDMADE
variable {z s : Nat} {l : List va_E} {α : Type} {M : hM} {m : Nat} {fs : List Value}
theorem ov_self {t : rS} (h : ∀ i, i < 29 → M.1 (m + i) = some (rC m t i)) : M = ov M m t := by
  unfold ov
  refine Prod.ext ?_ rfl
  funext b
  show M.1 b = if m ≤ b ∧ b < m + 29 then _ else _
  by_cases c : m ≤ b ∧ b < m + 29
  · rw [if_pos c, ← h (b - m) (by omega), show m + (b - m) = b by omega]
  · rw [if_neg c]
theorem mm_len : (cell14 z ++ (.inr (1, fs) :: l)).length = 15 + l.length := by
  rw [List.length_append, List.length_cons]
  show 14 + (l.length + 1) = _
  omega
theorem mm_app {e : va_E} : cell14 z ++ (.inr (1, fs) :: l) ++ [e] = cell14 z ++ (.inr (1, fs) :: (l ++ [e])) := by
  rw [List.append_assoc]; rfl
theorem mm_at {q : Nat} {e : va_E} (hq : 15 + l.length = q) : (cell14 z ++ (.inr (1, fs) :: (l ++ [e])))[q]? = some e := by
  rw [← mm_app, List.getElem?_append_right (by rw [mm_len]; omega), mm_len]
  rw [show q - (15 + l.length) = 0 by omega]; rfl
theorem mm_set {q : Nat} {e e' : va_E} (hq : 15 + l.length = q) : (cell14 z ++ (.inr (1, fs) :: (l ++ [e]))).set q e' = cell14 z ++ (.inr (1, fs) :: (l ++ [e'])) := by
  rw [← mm_app, ← mm_app, List.set_append_right _ _ (by rw [mm_len]; omega), mm_len]
  rw [show q - (15 + l.length) = 0 by omega]; rfl
theorem k_newa {t k q : Nat} {n : Int32} {K : Nat → hX α} (hq : 15 + l.length = q) (hn : n.toNatClampNeg = k) (h : ¬ (n < 0 ∨ 60000000 < k)) : (b_newa t n K).1 (mmem z fs l s) = (K (z + q)).1 (mmem z fs (l ++ [.inl (t, k, .inl (fun _ => 0))]) (s + k)) := by
  unfold mmem
  exact (i_newa (mm_len.trans hq) hn h).trans (by rw [mm_app])
theorem k_newL {t k q : Nat} {n : Int32} {K : Nat → hX α} (hq : 15 + l.length = q) (hn : n.toNatClampNeg = k) (h : ¬ (n < 0 ∨ 60000000 < k)) : (b_newL t n K).1 (mmem z fs l s) = (K (z + q)).1 (mmem z fs (l ++ [.inl (t, k, .inr (.inl (fun _ => 0)))]) (s + k)) := by
  unfold mmem
  exact (i_newL (mm_len.trans hq) hn h).trans (by rw [mm_app])
theorem k_put {k : Nat} {v : Value} {K : hX α} (h : fs.length = 46) (hk : k < 46) : (b_put (z + 14) 1 k v K).1 (mmem z fs l s) = K.1 (mmem z (fs.set k v) l s) := by
  unfold mmem
  exact (i_put (i := 14) rfl (by rw [h]; exact Nat.ble_eq_true_of_le hk)).trans rfl
theorem k_ast {q t n : Nat} {j x : Int32} {f : Nat → Int32} {K : hX α} (hq : 15 + l.length = q) (hi : ¬ (j < 0 ∨ n ≤ j.toNatClampNeg)) : (b_ast (z + q) t j x K).1 (mmem z fs (l ++ [.inl (t, n, .inl f)]) s) = K.1 (mmem z fs (l ++ [.inl (t, n, .inl (upd f j.toNatClampNeg x))]) s) := by
  unfold mmem
  exact (i_ast (mm_at hq) hi).trans (by rw [mm_set hq])
theorem k_astL {q t n : Nat} {j : Int32} {x : Int64} {f : Nat → Int64} {K : hX α} (hq : 15 + l.length = q) (hi : ¬ (j < 0 ∨ n ≤ j.toNatClampNeg)) : (b_astL (z + q) t j x K).1 (mmem z fs (l ++ [.inl (t, n, .inr (.inl f))]) s) = K.1 (mmem z fs (l ++ [.inl (t, n, .inr (.inl (vp_updL f j.toNatClampNeg x)))]) s) := by
  unfold mmem
  exact (i_astL (mm_at hq) hi).trans (by rw [mm_set hq])
theorem mm_eq {fs' : List Value} {l' : List va_E} {s' : Nat} (h1 : fs = fs') (h2 : l = l') (h3 : s = s') : (b_ret ()).1 (mmem z fs l s) = some ((), mmem z fs' l' s') := by
  subst h1 h2 h3; rfl
theorem MD_inits {N : Nat} : (f_MD_init N (z + 14)).1 (mmem z [.int 0, .null, .int 0, .int 0, .int 0, .int 0, .int 0, .int 0, .null, .null, .null, .int 0, .null, .null, .null, .null, .null, .null, .null, .null, .null, .null, .null, .null, .null, .null, .null, .null, .int 0, .int 0, .int 0, .int 0, .long 0, .long 0, .int 0, .null, .null, .null, .null, .int 0, .null, .null, .null, .int 0, .null, .int 0] [] 7680) = some ((), mmem z (rF (z + 14) ref0) [rC (z + 14) ref0 1, rC (z + 14) ref0 2, rC (z + 14) ref0 3, rC (z + 14) ref0 4, rC (z + 14) ref0 5, rC (z + 14) ref0 6, rC (z + 14) ref0 7, rC (z + 14) ref0 8, rC (z + 14) ref0 9, rC (z + 14) ref0 10, rC (z + 14) ref0 11, rC (z + 14) ref0 12, rC (z + 14) ref0 13, rC (z + 14) ref0 14, rC (z + 14) ref0 15, rC (z + 14) ref0 16, rC (z + 14) ref0 17, rC (z + 14) ref0 18, rC (z + 14) ref0 19, rC (z + 14) ref0 20, rC (z + 14) ref0 21, rC (z + 14) ref0 22, rC (z + 14) ref0 23, rC (z + 14) ref0 24, rC (z + 14) ref0 25, rC (z + 14) ref0 26, rC (z + 14) ref0 27, rC (z + 14) ref0 28] 672785) := by
  rw [e_MD_init]
  refine (k_newa (q := 15) (k := 2000) rfl rfl (by decide)).trans ?_
  refine (k_put (by simp only [List.length_set]; rfl) (by decide)).trans ?_
  refine (k_newL (q := 16) (k := 5) rfl rfl (by decide)).trans ?_
  refine (k_astL (q := 16) rfl (by decide)).trans ?_
  refine (k_astL (q := 16) rfl (by decide)).trans ?_
  refine (k_astL (q := 16) rfl (by decide)).trans ?_
  refine (k_astL (q := 16) rfl (by decide)).trans ?_
  refine (k_astL (q := 16) rfl (by decide)).trans ?_
  refine (k_put (by simp only [List.length_set]; rfl) (by decide)).trans ?_
  refine (k_newL (q := 17) (k := 12) rfl rfl (by decide)).trans ?_
  refine (k_astL (q := 17) rfl (by decide)).trans ?_
  refine (k_astL (q := 17) rfl (by decide)).trans ?_
  refine (k_astL (q := 17) rfl (by decide)).trans ?_
  refine (k_astL (q := 17) rfl (by decide)).trans ?_
  refine (k_astL (q := 17) rfl (by decide)).trans ?_
  refine (k_astL (q := 17) rfl (by decide)).trans ?_
  refine (k_astL (q := 17) rfl (by decide)).trans ?_
  refine (k_astL (q := 17) rfl (by decide)).trans ?_
  refine (k_astL (q := 17) rfl (by decide)).trans ?_
  refine (k_astL (q := 17) rfl (by decide)).trans ?_
  refine (k_astL (q := 17) rfl (by decide)).trans ?_
  refine (k_astL (q := 17) rfl (by decide)).trans ?_
  refine (k_put (by simp only [List.length_set]; rfl) (by decide)).trans ?_
  refine (k_newa (q := 18) (k := 12) rfl rfl (by decide)).trans ?_
  refine (k_ast (q := 18) rfl (by decide)).trans ?_
  refine (k_ast (q := 18) rfl (by decide)).trans ?_
  refine (k_ast (q := 18) rfl (by decide)).trans ?_
  refine (k_ast (q := 18) rfl (by decide)).trans ?_
  refine (k_ast (q := 18) rfl (by decide)).trans ?_
  refine (k_ast (q := 18) rfl (by decide)).trans ?_
  refine (k_ast (q := 18) rfl (by decide)).trans ?_
  refine (k_ast (q := 18) rfl (by decide)).trans ?_
  refine (k_ast (q := 18) rfl (by decide)).trans ?_
  refine (k_ast (q := 18) rfl (by decide)).trans ?_
  refine (k_ast (q := 18) rfl (by decide)).trans ?_
  refine (k_ast (q := 18) rfl (by decide)).trans ?_
  refine (k_put (by simp only [List.length_set]; rfl) (by decide)).trans ?_
  refine (k_newa (q := 19) (k := 41) rfl rfl (by decide)).trans ?_
  refine (k_put (by simp only [List.length_set]; rfl) (by decide)).trans ?_
  refine (k_newa (q := 20) (k := 41) rfl rfl (by decide)).trans ?_
  refine (k_put (by simp only [List.length_set]; rfl) (by decide)).trans ?_
  refine (k_newa (q := 21) (k := 41) rfl rfl (by decide)).trans ?_
  refine (k_put (by simp only [List.length_set]; rfl) (by decide)).trans ?_
  refine (k_newa (q := 22) (k := 820) rfl rfl (by decide)).trans ?_
  refine (k_put (by simp only [List.length_set]; rfl) (by decide)).trans ?_
  refine (k_newL (q := 23) (k := 41) rfl rfl (by decide)).trans ?_
  refine (k_put (by simp only [List.length_set]; rfl) (by decide)).trans ?_
  refine (k_newa (q := 24) (k := 205000) rfl rfl (by decide)).trans ?_
  refine (k_put (by simp only [List.length_set]; rfl) (by decide)).trans ?_
  refine (k_newa (q := 25) (k := 10250) rfl rfl (by decide)).trans ?_
  refine (k_put (by simp only [List.length_set]; rfl) (by decide)).trans ?_
  refine (k_newa (q := 26) (k := 8200) rfl rfl (by decide)).trans ?_
  refine (k_put (by simp only [List.length_set]; rfl) (by decide)).trans ?_
  refine (k_newa (q := 27) (k := 8200) rfl rfl (by decide)).trans ?_
  refine (k_put (by simp only [List.length_set]; rfl) (by decide)).trans ?_
  refine (k_newa (q := 28) (k := 8200) rfl rfl (by decide)).trans ?_
  refine (k_put (by simp only [List.length_set]; rfl) (by decide)).trans ?_
  refine (k_newa (q := 29) (k := 8200) rfl rfl (by decide)).trans ?_
  refine (k_put (by simp only [List.length_set]; rfl) (by decide)).trans ?_
  refine (k_newa (q := 30) (k := 164000) rfl rfl (by decide)).trans ?_
  refine (k_put (by simp only [List.length_set]; rfl) (by decide)).trans ?_
  refine (k_newa (q := 31) (k := 164000) rfl rfl (by decide)).trans ?_
  refine (k_put (by simp only [List.length_set]; rfl) (by decide)).trans ?_
  refine (k_newL (q := 32) (k := 8200) rfl rfl (by decide)).trans ?_
  refine (k_put (by simp only [List.length_set]; rfl) (by decide)).trans ?_
  refine (k_newL (q := 33) (k := 8200) rfl rfl (by decide)).trans ?_
  refine (k_put (by simp only [List.length_set]; rfl) (by decide)).trans ?_
  refine (k_newa (q := 34) (k := 8200) rfl rfl (by decide)).trans ?_
  refine (k_put (by simp only [List.length_set]; rfl) (by decide)).trans ?_
  refine (k_newa (q := 35) (k := 201) rfl rfl (by decide)).trans ?_
  refine (k_put (by simp only [List.length_set]; rfl) (by decide)).trans ?_
  refine (k_newa (q := 36) (k := 201) rfl rfl (by decide)).trans ?_
  refine (k_put (by simp only [List.length_set]; rfl) (by decide)).trans ?_
  refine (k_newa (q := 37) (k := 20) rfl rfl (by decide)).trans ?_
  refine (k_put (by simp only [List.length_set]; rfl) (by decide)).trans ?_
  refine (k_newa (q := 38) (k := 20) rfl rfl (by decide)).trans ?_
  refine (k_put (by simp only [List.length_set]; rfl) (by decide)).trans ?_
  refine (k_newa (q := 39) (k := 400) rfl rfl (by decide)).trans ?_
  refine (k_put (by simp only [List.length_set]; rfl) (by decide)).trans ?_
  refine (k_newa (q := 40) (k := 400) rfl rfl (by decide)).trans ?_
  refine (k_put (by simp only [List.length_set]; rfl) (by decide)).trans ?_
  refine (k_newa (q := 41) (k := 200) rfl rfl (by decide)).trans ?_
  refine (k_put (by simp only [List.length_set]; rfl) (by decide)).trans ?_
  refine (k_newa (q := 42) (k := 60000) rfl rfl (by decide)).trans ?_
  refine (k_put (by simp only [List.length_set]; rfl) (by decide)).trans ?_
  refine mm_eq ?_ ?_ ?_
  · simp only [List.set_cons_zero, List.set_cons_succ]
    unfold rF
    rfl
  · simp only [List.nil_append, List.cons_append]
    rfl
  · rfl
theorem MD_made {N : Nat} {K : Unit → hX α} : (b_new 1 46 [.int 0, .null, .int 0, .int 0, .int 0, .int 0, .int 0, .int 0, .null, .null, .null, .int 0, .null, .null, .null, .null, .null, .null, .null, .null, .null, .null, .null, .null, .null, .null, .null, .null, .int 0, .int 0, .int 0, .int 0, .long 0, .long 0, .int 0, .null, .null, .null, .null, .int 0, .null, .null, .null, .int 0, .null, .int 0] (fun q => b_call (f_MD_init N q) K)).1 (lmem z (cell14 z) 7634) = (K ()).1 (lmem z (cell14 z ++ ref29 z) 672785) := by
  refine (i_new (q := 14) rfl).trans ?_
  refine (r_call (v := ()) (N := lmem z (cell14 z ++ ref29 z) 672785) ?_)
  have h := MD_inits (N := N) (z := z)
  unfold mmem at h
  unfold ref29
  have e : 7634 + 46 = 7680 := rfl
  rw [e]
  rw [h]
end MDMADE
