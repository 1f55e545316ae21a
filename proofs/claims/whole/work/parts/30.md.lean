/-! LAYER 2: the reference's memory: ints by field, longs by field, arrays by their place behind the object -/
abbrev rS : Type := (Nat → Int32) × (Nat → Int64) × (Nat → Nat → Int32) × (Nat → Nat → Int64)
def rF (m : Nat) (s : rS) : List Value := [.int (s.1 0), .ref (m + 1), .int (s.1 2), .int (s.1 3), .int (s.1 4), .int (s.1 5), .int (s.1 6), .int (s.1 7), .ref (m + 2), .ref (m + 3), .ref (m + 4), .int (s.1 11), .ref (m + 5), .ref (m + 6), .ref (m + 7), .ref (m + 8), .ref (m + 9), .ref (m + 10), .ref (m + 11), .ref (m + 12), .ref (m + 13), .ref (m + 14), .ref (m + 15), .ref (m + 16), .ref (m + 17), .ref (m + 18), .ref (m + 19), .ref (m + 20), .int (s.1 28), .int (s.1 29), .int (s.1 30), .int (s.1 31), .long (s.2.1 32), .long (s.2.1 33), .int (s.1 34), .ref (m + 21), .ref (m + 22), .ref (m + 23), .ref (m + 24), .int (s.1 39), .ref (m + 25), .ref (m + 26), .ref (m + 27), .int (s.1 43), .ref (m + 28), .int (s.1 45)]
theorem lt29 {P : Nat → Prop} (h0 : P 0) (h1 : P 1) (h2 : P 2) (h3 : P 3) (h4 : P 4) (h5 : P 5) (h6 : P 6) (h7 : P 7) (h8 : P 8) (h9 : P 9) (h10 : P 10) (h11 : P 11) (h12 : P 12) (h13 : P 13) (h14 : P 14) (h15 : P 15) (h16 : P 16) (h17 : P 17) (h18 : P 18) (h19 : P 19) (h20 : P 20) (h21 : P 21) (h22 : P 22) (h23 : P 23) (h24 : P 24) (h25 : P 25) (h26 : P 26) (h27 : P 27) (h28 : P 28) : ∀ i, i < 29 → P i := by
  intro i hi
  match i with
  | 0 => exact h0
  | 1 => exact h1
  | 2 => exact h2
  | 3 => exact h3
  | 4 => exact h4
  | 5 => exact h5
  | 6 => exact h6
  | 7 => exact h7
  | 8 => exact h8
  | 9 => exact h9
  | 10 => exact h10
  | 11 => exact h11
  | 12 => exact h12
  | 13 => exact h13
  | 14 => exact h14
  | 15 => exact h15
  | 16 => exact h16
  | 17 => exact h17
  | 18 => exact h18
  | 19 => exact h19
  | 20 => exact h20
  | 21 => exact h21
  | 22 => exact h22
  | 23 => exact h23
  | 24 => exact h24
  | 25 => exact h25
  | 26 => exact h26
  | 27 => exact h27
  | 28 => exact h28
  | q + 29 => exact absurd hi (by omega)
def rC (m : Nat) (s : rS) : Nat → va_E
  | 0 => .inr (1, rF m s)
  | 1 => .inl (6, 2000, .inl (s.2.2.1 1))
  | 2 => .inl (7, 5, .inr (.inl (s.2.2.2 2)))
  | 3 => .inl (7, 12, .inr (.inl (s.2.2.2 3)))
  | 4 => .inl (2, 12, .inl (s.2.2.1 4))
  | 5 => .inl (2, 41, .inl (s.2.2.1 5))
  | 6 => .inl (2, 41, .inl (s.2.2.1 6))
  | 7 => .inl (2, 41, .inl (s.2.2.1 7))
  | 8 => .inl (6, 820, .inl (s.2.2.1 8))
  | 9 => .inl (7, 41, .inr (.inl (s.2.2.2 9)))
  | 10 => .inl (6, 205000, .inl (s.2.2.1 10))
  | 11 => .inl (2, 10250, .inl (s.2.2.1 11))
  | 12 => .inl (6, 8200, .inl (s.2.2.1 12))
  | 13 => .inl (2, 8200, .inl (s.2.2.1 13))
  | 14 => .inl (2, 8200, .inl (s.2.2.1 14))
  | 15 => .inl (2, 8200, .inl (s.2.2.1 15))
  | 16 => .inl (6, 164000, .inl (s.2.2.1 16))
  | 17 => .inl (6, 164000, .inl (s.2.2.1 17))
  | 18 => .inl (7, 8200, .inr (.inl (s.2.2.2 18)))
  | 19 => .inl (7, 8200, .inr (.inl (s.2.2.2 19)))
  | 20 => .inl (5, 8200, .inl (s.2.2.1 20))
  | 21 => .inl (2, 201, .inl (s.2.2.1 21))
  | 22 => .inl (2, 201, .inl (s.2.2.1 22))
  | 23 => .inl (6, 20, .inl (s.2.2.1 23))
  | 24 => .inl (6, 20, .inl (s.2.2.1 24))
  | 25 => .inl (2, 400, .inl (s.2.2.1 25))
  | 26 => .inl (2, 400, .inl (s.2.2.1 26))
  | 27 => .inl (5, 200, .inl (s.2.2.1 27))
  | 28 => .inl (6, 60000, .inl (s.2.2.1 28))
  | _ => .inr (1, [])
def ov (M : hM) (m : Nat) (s : rS) : hM := (fun b => if m ≤ b ∧ b < m + 29 then some (rC m s (b - m)) else M.1 b, M.2)
section MDM
variable {M : hM} {m : Nat} {s : rS} {α β : Type}
theorem ov_at {j : Nat} (h : j < 29) : (ov M m s).1 (m + j) = some (rC m s j) := by
  show (if m ≤ m + j ∧ m + j < m + 29 then some (rC m s (m + j - m)) else M.1 (m + j)) = _
  rw [if_pos ⟨Nat.le_add_right _ _, by omega⟩, Nat.add_sub_cancel_left]
theorem ov_0 : (ov M m s).1 m = some (.inr (1, rF m s)) := ov_at (j := 0) (by decide)
theorem ov_out {b : Nat} (h : b < m ∨ m + 29 ≤ b) : (ov M m s).1 b = M.1 b := by
  show (if m ≤ b ∧ b < m + 29 then some (rC m s (b - m)) else M.1 b) = _
  rw [if_neg (by omega)]
theorem ov_ext {s' : rS} {e : va_E} {j : Nat} (hj : j < 29) (h : ∀ i, i < 29 → rC m s' i = if i = j then e else rC m s i) : hm_up (ov M m s) (m + j) e = ov M m s' := by
  unfold hm_up ov
  refine Prod.ext ?_ rfl
  funext b
  show va_up _ (m + j) (some e) b = _
  unfold va_up
  by_cases hb : m ≤ b ∧ b < m + 29
  · dsimp only
    rw [h (b - m) (by omega)]
    by_cases h1 : b = m + j
    · rw [if_pos h1, if_pos hb, if_pos (by omega)]
    · rw [if_neg h1, if_pos hb, if_pos hb, if_neg (by omega)]
  · dsimp only
    rw [if_neg hb, if_neg (by omega), if_neg hb]
theorem ov_up {b : Nat} {e : va_E} (h : b < m ∨ m + 29 ≤ b) : hm_up (ov M m s) b e = ov (hm_up M b e) m s := by
  unfold hm_up ov
  refine Prod.ext ?_ rfl
  funext q
  show va_up _ b (some e) q = if m ≤ q ∧ q < m + 29 then _ else va_up M.1 b (some e) q
  unfold va_up
  by_cases hb : m ≤ q ∧ q < m + 29
  · dsimp only
    rw [if_pos hb, if_neg (by omega), if_pos hb]
  · dsimp only
    rw [if_neg hb, if_neg hb]
theorem r_callE {f : hX β} {K : β → hX α} : (b_call f K).1 M = (f.1 M).bind (fun Z => (K Z.1).1 Z.2) := by
  show (match f.1 M with
    | some (v, N) => (K v).1 N
    | none => none) = _
  cases f.1 M <;> rfl
theorem r_ifE {c : Prop} [Decidable c] {A B : hX α} : (if c then A else B).1 M = if c then A.1 M else B.1 M := by split <;> rfl
theorem ua_s {α : Type} {f : Nat → α} {k : Nat} {v : α} : va_up f k v k = v := if_pos rfl
theorem ua_n {α : Type} {f : Nat → α} {k j : Nat} {v : α} (h : ¬ j = k) : va_up f k v j = f j := if_neg h
theorem ud_s {f : Nat → Int32} {k : Nat} {v : Int32} : upd f k v k = v := if_pos rfl
theorem ud_n {f : Nat → Int32} {k j : Nat} {v : Int32} (h : ¬ j = k) : upd f k v j = f j := if_neg h
theorem mI_is {K : hX α} : (b_is m 1 K).1 (ov M m s) = K.1 (ov M m s) := r_is ov_0
theorem mI_0 {K : Int32 → hX α} : (b_getI m 1 0 K).1 (ov M m s) = (K (s.1 0)).1 (ov M m s) := r_getI ov_0 rfl
theorem mP_0 {x : Int32} {K : hX α} : (b_put m 1 0 (.int x) K).1 (ov M m s) = K.1 (ov M m (va_up s.1 0 x, s.2)) := by
  refine (r_put ov_0 (Nat.le_of_ble_eq_true rfl)).trans ?_
  exact congrArg K.1 (show hm_up (ov M m s) m _ = ov M m (va_up s.1 0 x, s.2) from ov_ext (j := 0) (by decide) (lt29 rfl rfl rfl rfl rfl rfl rfl rfl rfl rfl rfl rfl rfl rfl rfl rfl rfl rfl rfl rfl rfl rfl rfl rfl rfl rfl rfl rfl rfl))
theorem mI_2 {K : Int32 → hX α} : (b_getI m 1 2 K).1 (ov M m s) = (K (s.1 2)).1 (ov M m s) := r_getI ov_0 rfl
theorem mP_2 {x : Int32} {K : hX α} : (b_put m 1 2 (.int x) K).1 (ov M m s) = K.1 (ov M m (va_up s.1 2 x, s.2)) := by
  refine (r_put ov_0 (Nat.le_of_ble_eq_true rfl)).trans ?_
  exact congrArg K.1 (show hm_up (ov M m s) m _ = ov M m (va_up s.1 2 x, s.2) from ov_ext (j := 0) (by decide) (lt29 rfl rfl rfl rfl rfl rfl rfl rfl rfl rfl rfl rfl rfl rfl rfl rfl rfl rfl rfl rfl rfl rfl rfl rfl rfl rfl rfl rfl rfl))
theorem mI_3 {K : Int32 → hX α} : (b_getI m 1 3 K).1 (ov M m s) = (K (s.1 3)).1 (ov M m s) := r_getI ov_0 rfl
theorem mP_3 {x : Int32} {K : hX α} : (b_put m 1 3 (.int x) K).1 (ov M m s) = K.1 (ov M m (va_up s.1 3 x, s.2)) := by
  refine (r_put ov_0 (Nat.le_of_ble_eq_true rfl)).trans ?_
  exact congrArg K.1 (show hm_up (ov M m s) m _ = ov M m (va_up s.1 3 x, s.2) from ov_ext (j := 0) (by decide) (lt29 rfl rfl rfl rfl rfl rfl rfl rfl rfl rfl rfl rfl rfl rfl rfl rfl rfl rfl rfl rfl rfl rfl rfl rfl rfl rfl rfl rfl rfl))
theorem mI_4 {K : Int32 → hX α} : (b_getI m 1 4 K).1 (ov M m s) = (K (s.1 4)).1 (ov M m s) := r_getI ov_0 rfl
theorem mP_4 {x : Int32} {K : hX α} : (b_put m 1 4 (.int x) K).1 (ov M m s) = K.1 (ov M m (va_up s.1 4 x, s.2)) := by
  refine (r_put ov_0 (Nat.le_of_ble_eq_true rfl)).trans ?_
  exact congrArg K.1 (show hm_up (ov M m s) m _ = ov M m (va_up s.1 4 x, s.2) from ov_ext (j := 0) (by decide) (lt29 rfl rfl rfl rfl rfl rfl rfl rfl rfl rfl rfl rfl rfl rfl rfl rfl rfl rfl rfl rfl rfl rfl rfl rfl rfl rfl rfl rfl rfl))
theorem mI_5 {K : Int32 → hX α} : (b_getI m 1 5 K).1 (ov M m s) = (K (s.1 5)).1 (ov M m s) := r_getI ov_0 rfl
theorem mP_5 {x : Int32} {K : hX α} : (b_put m 1 5 (.int x) K).1 (ov M m s) = K.1 (ov M m (va_up s.1 5 x, s.2)) := by
  refine (r_put ov_0 (Nat.le_of_ble_eq_true rfl)).trans ?_
  exact congrArg K.1 (show hm_up (ov M m s) m _ = ov M m (va_up s.1 5 x, s.2) from ov_ext (j := 0) (by decide) (lt29 rfl rfl rfl rfl rfl rfl rfl rfl rfl rfl rfl rfl rfl rfl rfl rfl rfl rfl rfl rfl rfl rfl rfl rfl rfl rfl rfl rfl rfl))
theorem mI_6 {K : Int32 → hX α} : (b_getI m 1 6 K).1 (ov M m s) = (K (s.1 6)).1 (ov M m s) := r_getI ov_0 rfl
theorem mP_6 {x : Int32} {K : hX α} : (b_put m 1 6 (.int x) K).1 (ov M m s) = K.1 (ov M m (va_up s.1 6 x, s.2)) := by
  refine (r_put ov_0 (Nat.le_of_ble_eq_true rfl)).trans ?_
  exact congrArg K.1 (show hm_up (ov M m s) m _ = ov M m (va_up s.1 6 x, s.2) from ov_ext (j := 0) (by decide) (lt29 rfl rfl rfl rfl rfl rfl rfl rfl rfl rfl rfl rfl rfl rfl rfl rfl rfl rfl rfl rfl rfl rfl rfl rfl rfl rfl rfl rfl rfl))
theorem mI_7 {K : Int32 → hX α} : (b_getI m 1 7 K).1 (ov M m s) = (K (s.1 7)).1 (ov M m s) := r_getI ov_0 rfl
theorem mP_7 {x : Int32} {K : hX α} : (b_put m 1 7 (.int x) K).1 (ov M m s) = K.1 (ov M m (va_up s.1 7 x, s.2)) := by
  refine (r_put ov_0 (Nat.le_of_ble_eq_true rfl)).trans ?_
  exact congrArg K.1 (show hm_up (ov M m s) m _ = ov M m (va_up s.1 7 x, s.2) from ov_ext (j := 0) (by decide) (lt29 rfl rfl rfl rfl rfl rfl rfl rfl rfl rfl rfl rfl rfl rfl rfl rfl rfl rfl rfl rfl rfl rfl rfl rfl rfl rfl rfl rfl rfl))
theorem mI_11 {K : Int32 → hX α} : (b_getI m 1 11 K).1 (ov M m s) = (K (s.1 11)).1 (ov M m s) := r_getI ov_0 rfl
theorem mP_11 {x : Int32} {K : hX α} : (b_put m 1 11 (.int x) K).1 (ov M m s) = K.1 (ov M m (va_up s.1 11 x, s.2)) := by
  refine (r_put ov_0 (Nat.le_of_ble_eq_true rfl)).trans ?_
  exact congrArg K.1 (show hm_up (ov M m s) m _ = ov M m (va_up s.1 11 x, s.2) from ov_ext (j := 0) (by decide) (lt29 rfl rfl rfl rfl rfl rfl rfl rfl rfl rfl rfl rfl rfl rfl rfl rfl rfl rfl rfl rfl rfl rfl rfl rfl rfl rfl rfl rfl rfl))
theorem mI_28 {K : Int32 → hX α} : (b_getI m 1 28 K).1 (ov M m s) = (K (s.1 28)).1 (ov M m s) := r_getI ov_0 rfl
theorem mP_28 {x : Int32} {K : hX α} : (b_put m 1 28 (.int x) K).1 (ov M m s) = K.1 (ov M m (va_up s.1 28 x, s.2)) := by
  refine (r_put ov_0 (Nat.le_of_ble_eq_true rfl)).trans ?_
  exact congrArg K.1 (show hm_up (ov M m s) m _ = ov M m (va_up s.1 28 x, s.2) from ov_ext (j := 0) (by decide) (lt29 rfl rfl rfl rfl rfl rfl rfl rfl rfl rfl rfl rfl rfl rfl rfl rfl rfl rfl rfl rfl rfl rfl rfl rfl rfl rfl rfl rfl rfl))
theorem mI_29 {K : Int32 → hX α} : (b_getI m 1 29 K).1 (ov M m s) = (K (s.1 29)).1 (ov M m s) := r_getI ov_0 rfl
theorem mP_29 {x : Int32} {K : hX α} : (b_put m 1 29 (.int x) K).1 (ov M m s) = K.1 (ov M m (va_up s.1 29 x, s.2)) := by
  refine (r_put ov_0 (Nat.le_of_ble_eq_true rfl)).trans ?_
  exact congrArg K.1 (show hm_up (ov M m s) m _ = ov M m (va_up s.1 29 x, s.2) from ov_ext (j := 0) (by decide) (lt29 rfl rfl rfl rfl rfl rfl rfl rfl rfl rfl rfl rfl rfl rfl rfl rfl rfl rfl rfl rfl rfl rfl rfl rfl rfl rfl rfl rfl rfl))
theorem mI_30 {K : Int32 → hX α} : (b_getI m 1 30 K).1 (ov M m s) = (K (s.1 30)).1 (ov M m s) := r_getI ov_0 rfl
theorem mP_30 {x : Int32} {K : hX α} : (b_put m 1 30 (.int x) K).1 (ov M m s) = K.1 (ov M m (va_up s.1 30 x, s.2)) := by
  refine (r_put ov_0 (Nat.le_of_ble_eq_true rfl)).trans ?_
  exact congrArg K.1 (show hm_up (ov M m s) m _ = ov M m (va_up s.1 30 x, s.2) from ov_ext (j := 0) (by decide) (lt29 rfl rfl rfl rfl rfl rfl rfl rfl rfl rfl rfl rfl rfl rfl rfl rfl rfl rfl rfl rfl rfl rfl rfl rfl rfl rfl rfl rfl rfl))
theorem mI_31 {K : Int32 → hX α} : (b_getI m 1 31 K).1 (ov M m s) = (K (s.1 31)).1 (ov M m s) := r_getI ov_0 rfl
theorem mP_31 {x : Int32} {K : hX α} : (b_put m 1 31 (.int x) K).1 (ov M m s) = K.1 (ov M m (va_up s.1 31 x, s.2)) := by
  refine (r_put ov_0 (Nat.le_of_ble_eq_true rfl)).trans ?_
  exact congrArg K.1 (show hm_up (ov M m s) m _ = ov M m (va_up s.1 31 x, s.2) from ov_ext (j := 0) (by decide) (lt29 rfl rfl rfl rfl rfl rfl rfl rfl rfl rfl rfl rfl rfl rfl rfl rfl rfl rfl rfl rfl rfl rfl rfl rfl rfl rfl rfl rfl rfl))
theorem mI_34 {K : Int32 → hX α} : (b_getI m 1 34 K).1 (ov M m s) = (K (s.1 34)).1 (ov M m s) := r_getI ov_0 rfl
theorem mP_34 {x : Int32} {K : hX α} : (b_put m 1 34 (.int x) K).1 (ov M m s) = K.1 (ov M m (va_up s.1 34 x, s.2)) := by
  refine (r_put ov_0 (Nat.le_of_ble_eq_true rfl)).trans ?_
  exact congrArg K.1 (show hm_up (ov M m s) m _ = ov M m (va_up s.1 34 x, s.2) from ov_ext (j := 0) (by decide) (lt29 rfl rfl rfl rfl rfl rfl rfl rfl rfl rfl rfl rfl rfl rfl rfl rfl rfl rfl rfl rfl rfl rfl rfl rfl rfl rfl rfl rfl rfl))
theorem mI_39 {K : Int32 → hX α} : (b_getI m 1 39 K).1 (ov M m s) = (K (s.1 39)).1 (ov M m s) := r_getI ov_0 rfl
theorem mP_39 {x : Int32} {K : hX α} : (b_put m 1 39 (.int x) K).1 (ov M m s) = K.1 (ov M m (va_up s.1 39 x, s.2)) := by
  refine (r_put ov_0 (Nat.le_of_ble_eq_true rfl)).trans ?_
  exact congrArg K.1 (show hm_up (ov M m s) m _ = ov M m (va_up s.1 39 x, s.2) from ov_ext (j := 0) (by decide) (lt29 rfl rfl rfl rfl rfl rfl rfl rfl rfl rfl rfl rfl rfl rfl rfl rfl rfl rfl rfl rfl rfl rfl rfl rfl rfl rfl rfl rfl rfl))
theorem mI_43 {K : Int32 → hX α} : (b_getI m 1 43 K).1 (ov M m s) = (K (s.1 43)).1 (ov M m s) := r_getI ov_0 rfl
theorem mP_43 {x : Int32} {K : hX α} : (b_put m 1 43 (.int x) K).1 (ov M m s) = K.1 (ov M m (va_up s.1 43 x, s.2)) := by
  refine (r_put ov_0 (Nat.le_of_ble_eq_true rfl)).trans ?_
  exact congrArg K.1 (show hm_up (ov M m s) m _ = ov M m (va_up s.1 43 x, s.2) from ov_ext (j := 0) (by decide) (lt29 rfl rfl rfl rfl rfl rfl rfl rfl rfl rfl rfl rfl rfl rfl rfl rfl rfl rfl rfl rfl rfl rfl rfl rfl rfl rfl rfl rfl rfl))
theorem mI_45 {K : Int32 → hX α} : (b_getI m 1 45 K).1 (ov M m s) = (K (s.1 45)).1 (ov M m s) := r_getI ov_0 rfl
theorem mP_45 {x : Int32} {K : hX α} : (b_put m 1 45 (.int x) K).1 (ov M m s) = K.1 (ov M m (va_up s.1 45 x, s.2)) := by
  refine (r_put ov_0 (Nat.le_of_ble_eq_true rfl)).trans ?_
  exact congrArg K.1 (show hm_up (ov M m s) m _ = ov M m (va_up s.1 45 x, s.2) from ov_ext (j := 0) (by decide) (lt29 rfl rfl rfl rfl rfl rfl rfl rfl rfl rfl rfl rfl rfl rfl rfl rfl rfl rfl rfl rfl rfl rfl rfl rfl rfl rfl rfl rfl rfl))
theorem mL_32 {K : Int64 → hX α} : (b_getL m 1 32 K).1 (ov M m s) = (K (s.2.1 32)).1 (ov M m s) := r_getL ov_0 rfl
theorem mP_32 {x : Int64} {K : hX α} : (b_put m 1 32 (.long x) K).1 (ov M m s) = K.1 (ov M m (s.1, va_up s.2.1 32 x, s.2.2)) := by
  refine (r_put ov_0 (Nat.le_of_ble_eq_true rfl)).trans ?_
  exact congrArg K.1 (show hm_up (ov M m s) m _ = ov M m (s.1, va_up s.2.1 32 x, s.2.2) from ov_ext (j := 0) (by decide) (lt29 rfl rfl rfl rfl rfl rfl rfl rfl rfl rfl rfl rfl rfl rfl rfl rfl rfl rfl rfl rfl rfl rfl rfl rfl rfl rfl rfl rfl rfl))
theorem mL_33 {K : Int64 → hX α} : (b_getL m 1 33 K).1 (ov M m s) = (K (s.2.1 33)).1 (ov M m s) := r_getL ov_0 rfl
theorem mP_33 {x : Int64} {K : hX α} : (b_put m 1 33 (.long x) K).1 (ov M m s) = K.1 (ov M m (s.1, va_up s.2.1 33 x, s.2.2)) := by
  refine (r_put ov_0 (Nat.le_of_ble_eq_true rfl)).trans ?_
  exact congrArg K.1 (show hm_up (ov M m s) m _ = ov M m (s.1, va_up s.2.1 33 x, s.2.2) from ov_ext (j := 0) (by decide) (lt29 rfl rfl rfl rfl rfl rfl rfl rfl rfl rfl rfl rfl rfl rfl rfl rfl rfl rfl rfl rfl rfl rfl rfl rfl rfl rfl rfl rfl rfl))
theorem mR_1 {K : Option Nat → hX α} : (b_getR m 1 1 K).1 (ov M m s) = (K (some (m + 1))).1 (ov M m s) := r_getR (r := some (m + 1)) ov_0 rfl
theorem mA_1 {i : Int32} {K : Int32 → hX α} (hi : ¬ (i < 0 ∨ 2000 ≤ i.toNatClampNeg)) : (b_ald (m + 1) 6 i K).1 (ov M m s) = (K (s.2.2.1 1 i.toNatClampNeg)).1 (ov M m s) := r_ald (ov_at (j := 1) (by decide)) hi
theorem mS_1 {i x : Int32} {K : hX α} (hi : ¬ (i < 0 ∨ 2000 ≤ i.toNatClampNeg)) : (b_ast (m + 1) 6 i x K).1 (ov M m s) = K.1 (ov M m (s.1, s.2.1, va_up s.2.2.1 1 (va_up (s.2.2.1 1) i.toNatClampNeg x), s.2.2.2)) := by
  refine (r_ast (ov_at (j := 1) (by decide)) hi).trans ?_
  exact congrArg K.1 (show hm_up (ov M m s) (m + 1) _ = ov M m (s.1, s.2.1, va_up s.2.2.1 1 (va_up (s.2.2.1 1) i.toNatClampNeg x), s.2.2.2) from ov_ext (by decide) (lt29 rfl rfl rfl rfl rfl rfl rfl rfl rfl rfl rfl rfl rfl rfl rfl rfl rfl rfl rfl rfl rfl rfl rfl rfl rfl rfl rfl rfl rfl))
theorem mR_8 {K : Option Nat → hX α} : (b_getR m 1 8 K).1 (ov M m s) = (K (some (m + 2))).1 (ov M m s) := r_getR (r := some (m + 2)) ov_0 rfl
theorem mA_2 {i : Int32} {K : Int64 → hX α} (hi : ¬ (i < 0 ∨ 5 ≤ i.toNatClampNeg)) : (b_aldL (m + 2) 7 i K).1 (ov M m s) = (K (s.2.2.2 2 i.toNatClampNeg)).1 (ov M m s) := r_aldL (ov_at (j := 2) (by decide)) hi
theorem mS_2 {i : Int32} {x : Int64} {K : hX α} (hi : ¬ (i < 0 ∨ 5 ≤ i.toNatClampNeg)) : (b_astL (m + 2) 7 i x K).1 (ov M m s) = K.1 (ov M m (s.1, s.2.1, s.2.2.1, va_up s.2.2.2 2 (va_up (s.2.2.2 2) i.toNatClampNeg x))) := by
  refine (r_astL (ov_at (j := 2) (by decide)) hi).trans ?_
  exact congrArg K.1 (show hm_up (ov M m s) (m + 2) _ = ov M m (s.1, s.2.1, s.2.2.1, va_up s.2.2.2 2 (va_up (s.2.2.2 2) i.toNatClampNeg x)) from ov_ext (by decide) (lt29 rfl rfl rfl rfl rfl rfl rfl rfl rfl rfl rfl rfl rfl rfl rfl rfl rfl rfl rfl rfl rfl rfl rfl rfl rfl rfl rfl rfl rfl))
theorem mR_9 {K : Option Nat → hX α} : (b_getR m 1 9 K).1 (ov M m s) = (K (some (m + 3))).1 (ov M m s) := r_getR (r := some (m + 3)) ov_0 rfl
theorem mA_3 {i : Int32} {K : Int64 → hX α} (hi : ¬ (i < 0 ∨ 12 ≤ i.toNatClampNeg)) : (b_aldL (m + 3) 7 i K).1 (ov M m s) = (K (s.2.2.2 3 i.toNatClampNeg)).1 (ov M m s) := r_aldL (ov_at (j := 3) (by decide)) hi
theorem mS_3 {i : Int32} {x : Int64} {K : hX α} (hi : ¬ (i < 0 ∨ 12 ≤ i.toNatClampNeg)) : (b_astL (m + 3) 7 i x K).1 (ov M m s) = K.1 (ov M m (s.1, s.2.1, s.2.2.1, va_up s.2.2.2 3 (va_up (s.2.2.2 3) i.toNatClampNeg x))) := by
  refine (r_astL (ov_at (j := 3) (by decide)) hi).trans ?_
  exact congrArg K.1 (show hm_up (ov M m s) (m + 3) _ = ov M m (s.1, s.2.1, s.2.2.1, va_up s.2.2.2 3 (va_up (s.2.2.2 3) i.toNatClampNeg x)) from ov_ext (by decide) (lt29 rfl rfl rfl rfl rfl rfl rfl rfl rfl rfl rfl rfl rfl rfl rfl rfl rfl rfl rfl rfl rfl rfl rfl rfl rfl rfl rfl rfl rfl))
theorem mR_10 {K : Option Nat → hX α} : (b_getR m 1 10 K).1 (ov M m s) = (K (some (m + 4))).1 (ov M m s) := r_getR (r := some (m + 4)) ov_0 rfl
theorem mA_4 {i : Int32} {K : Int32 → hX α} (hi : ¬ (i < 0 ∨ 12 ≤ i.toNatClampNeg)) : (b_ald (m + 4) 2 i K).1 (ov M m s) = (K (s.2.2.1 4 i.toNatClampNeg)).1 (ov M m s) := r_ald (ov_at (j := 4) (by decide)) hi
theorem mS_4 {i x : Int32} {K : hX α} (hi : ¬ (i < 0 ∨ 12 ≤ i.toNatClampNeg)) : (b_ast (m + 4) 2 i x K).1 (ov M m s) = K.1 (ov M m (s.1, s.2.1, va_up s.2.2.1 4 (va_up (s.2.2.1 4) i.toNatClampNeg x), s.2.2.2)) := by
  refine (r_ast (ov_at (j := 4) (by decide)) hi).trans ?_
  exact congrArg K.1 (show hm_up (ov M m s) (m + 4) _ = ov M m (s.1, s.2.1, va_up s.2.2.1 4 (va_up (s.2.2.1 4) i.toNatClampNeg x), s.2.2.2) from ov_ext (by decide) (lt29 rfl rfl rfl rfl rfl rfl rfl rfl rfl rfl rfl rfl rfl rfl rfl rfl rfl rfl rfl rfl rfl rfl rfl rfl rfl rfl rfl rfl rfl))
theorem mR_12 {K : Option Nat → hX α} : (b_getR m 1 12 K).1 (ov M m s) = (K (some (m + 5))).1 (ov M m s) := r_getR (r := some (m + 5)) ov_0 rfl
theorem mA_5 {i : Int32} {K : Int32 → hX α} (hi : ¬ (i < 0 ∨ 41 ≤ i.toNatClampNeg)) : (b_ald (m + 5) 2 i K).1 (ov M m s) = (K (s.2.2.1 5 i.toNatClampNeg)).1 (ov M m s) := r_ald (ov_at (j := 5) (by decide)) hi
theorem mS_5 {i x : Int32} {K : hX α} (hi : ¬ (i < 0 ∨ 41 ≤ i.toNatClampNeg)) : (b_ast (m + 5) 2 i x K).1 (ov M m s) = K.1 (ov M m (s.1, s.2.1, va_up s.2.2.1 5 (va_up (s.2.2.1 5) i.toNatClampNeg x), s.2.2.2)) := by
  refine (r_ast (ov_at (j := 5) (by decide)) hi).trans ?_
  exact congrArg K.1 (show hm_up (ov M m s) (m + 5) _ = ov M m (s.1, s.2.1, va_up s.2.2.1 5 (va_up (s.2.2.1 5) i.toNatClampNeg x), s.2.2.2) from ov_ext (by decide) (lt29 rfl rfl rfl rfl rfl rfl rfl rfl rfl rfl rfl rfl rfl rfl rfl rfl rfl rfl rfl rfl rfl rfl rfl rfl rfl rfl rfl rfl rfl))
theorem mR_13 {K : Option Nat → hX α} : (b_getR m 1 13 K).1 (ov M m s) = (K (some (m + 6))).1 (ov M m s) := r_getR (r := some (m + 6)) ov_0 rfl
theorem mA_6 {i : Int32} {K : Int32 → hX α} (hi : ¬ (i < 0 ∨ 41 ≤ i.toNatClampNeg)) : (b_ald (m + 6) 2 i K).1 (ov M m s) = (K (s.2.2.1 6 i.toNatClampNeg)).1 (ov M m s) := r_ald (ov_at (j := 6) (by decide)) hi
theorem mS_6 {i x : Int32} {K : hX α} (hi : ¬ (i < 0 ∨ 41 ≤ i.toNatClampNeg)) : (b_ast (m + 6) 2 i x K).1 (ov M m s) = K.1 (ov M m (s.1, s.2.1, va_up s.2.2.1 6 (va_up (s.2.2.1 6) i.toNatClampNeg x), s.2.2.2)) := by
  refine (r_ast (ov_at (j := 6) (by decide)) hi).trans ?_
  exact congrArg K.1 (show hm_up (ov M m s) (m + 6) _ = ov M m (s.1, s.2.1, va_up s.2.2.1 6 (va_up (s.2.2.1 6) i.toNatClampNeg x), s.2.2.2) from ov_ext (by decide) (lt29 rfl rfl rfl rfl rfl rfl rfl rfl rfl rfl rfl rfl rfl rfl rfl rfl rfl rfl rfl rfl rfl rfl rfl rfl rfl rfl rfl rfl rfl))
theorem mR_14 {K : Option Nat → hX α} : (b_getR m 1 14 K).1 (ov M m s) = (K (some (m + 7))).1 (ov M m s) := r_getR (r := some (m + 7)) ov_0 rfl
theorem mA_7 {i : Int32} {K : Int32 → hX α} (hi : ¬ (i < 0 ∨ 41 ≤ i.toNatClampNeg)) : (b_ald (m + 7) 2 i K).1 (ov M m s) = (K (s.2.2.1 7 i.toNatClampNeg)).1 (ov M m s) := r_ald (ov_at (j := 7) (by decide)) hi
theorem mS_7 {i x : Int32} {K : hX α} (hi : ¬ (i < 0 ∨ 41 ≤ i.toNatClampNeg)) : (b_ast (m + 7) 2 i x K).1 (ov M m s) = K.1 (ov M m (s.1, s.2.1, va_up s.2.2.1 7 (va_up (s.2.2.1 7) i.toNatClampNeg x), s.2.2.2)) := by
  refine (r_ast (ov_at (j := 7) (by decide)) hi).trans ?_
  exact congrArg K.1 (show hm_up (ov M m s) (m + 7) _ = ov M m (s.1, s.2.1, va_up s.2.2.1 7 (va_up (s.2.2.1 7) i.toNatClampNeg x), s.2.2.2) from ov_ext (by decide) (lt29 rfl rfl rfl rfl rfl rfl rfl rfl rfl rfl rfl rfl rfl rfl rfl rfl rfl rfl rfl rfl rfl rfl rfl rfl rfl rfl rfl rfl rfl))
theorem mR_15 {K : Option Nat → hX α} : (b_getR m 1 15 K).1 (ov M m s) = (K (some (m + 8))).1 (ov M m s) := r_getR (r := some (m + 8)) ov_0 rfl
theorem mA_8 {i : Int32} {K : Int32 → hX α} (hi : ¬ (i < 0 ∨ 820 ≤ i.toNatClampNeg)) : (b_ald (m + 8) 6 i K).1 (ov M m s) = (K (s.2.2.1 8 i.toNatClampNeg)).1 (ov M m s) := r_ald (ov_at (j := 8) (by decide)) hi
theorem mS_8 {i x : Int32} {K : hX α} (hi : ¬ (i < 0 ∨ 820 ≤ i.toNatClampNeg)) : (b_ast (m + 8) 6 i x K).1 (ov M m s) = K.1 (ov M m (s.1, s.2.1, va_up s.2.2.1 8 (va_up (s.2.2.1 8) i.toNatClampNeg x), s.2.2.2)) := by
  refine (r_ast (ov_at (j := 8) (by decide)) hi).trans ?_
  exact congrArg K.1 (show hm_up (ov M m s) (m + 8) _ = ov M m (s.1, s.2.1, va_up s.2.2.1 8 (va_up (s.2.2.1 8) i.toNatClampNeg x), s.2.2.2) from ov_ext (by decide) (lt29 rfl rfl rfl rfl rfl rfl rfl rfl rfl rfl rfl rfl rfl rfl rfl rfl rfl rfl rfl rfl rfl rfl rfl rfl rfl rfl rfl rfl rfl))
theorem mR_16 {K : Option Nat → hX α} : (b_getR m 1 16 K).1 (ov M m s) = (K (some (m + 9))).1 (ov M m s) := r_getR (r := some (m + 9)) ov_0 rfl
theorem mA_9 {i : Int32} {K : Int64 → hX α} (hi : ¬ (i < 0 ∨ 41 ≤ i.toNatClampNeg)) : (b_aldL (m + 9) 7 i K).1 (ov M m s) = (K (s.2.2.2 9 i.toNatClampNeg)).1 (ov M m s) := r_aldL (ov_at (j := 9) (by decide)) hi
theorem mS_9 {i : Int32} {x : Int64} {K : hX α} (hi : ¬ (i < 0 ∨ 41 ≤ i.toNatClampNeg)) : (b_astL (m + 9) 7 i x K).1 (ov M m s) = K.1 (ov M m (s.1, s.2.1, s.2.2.1, va_up s.2.2.2 9 (va_up (s.2.2.2 9) i.toNatClampNeg x))) := by
  refine (r_astL (ov_at (j := 9) (by decide)) hi).trans ?_
  exact congrArg K.1 (show hm_up (ov M m s) (m + 9) _ = ov M m (s.1, s.2.1, s.2.2.1, va_up s.2.2.2 9 (va_up (s.2.2.2 9) i.toNatClampNeg x)) from ov_ext (by decide) (lt29 rfl rfl rfl rfl rfl rfl rfl rfl rfl rfl rfl rfl rfl rfl rfl rfl rfl rfl rfl rfl rfl rfl rfl rfl rfl rfl rfl rfl rfl))
theorem mR_17 {K : Option Nat → hX α} : (b_getR m 1 17 K).1 (ov M m s) = (K (some (m + 10))).1 (ov M m s) := r_getR (r := some (m + 10)) ov_0 rfl
theorem mA_10 {i : Int32} {K : Int32 → hX α} (hi : ¬ (i < 0 ∨ 205000 ≤ i.toNatClampNeg)) : (b_ald (m + 10) 6 i K).1 (ov M m s) = (K (s.2.2.1 10 i.toNatClampNeg)).1 (ov M m s) := r_ald (ov_at (j := 10) (by decide)) hi
theorem mS_10 {i x : Int32} {K : hX α} (hi : ¬ (i < 0 ∨ 205000 ≤ i.toNatClampNeg)) : (b_ast (m + 10) 6 i x K).1 (ov M m s) = K.1 (ov M m (s.1, s.2.1, va_up s.2.2.1 10 (va_up (s.2.2.1 10) i.toNatClampNeg x), s.2.2.2)) := by
  refine (r_ast (ov_at (j := 10) (by decide)) hi).trans ?_
  exact congrArg K.1 (show hm_up (ov M m s) (m + 10) _ = ov M m (s.1, s.2.1, va_up s.2.2.1 10 (va_up (s.2.2.1 10) i.toNatClampNeg x), s.2.2.2) from ov_ext (by decide) (lt29 rfl rfl rfl rfl rfl rfl rfl rfl rfl rfl rfl rfl rfl rfl rfl rfl rfl rfl rfl rfl rfl rfl rfl rfl rfl rfl rfl rfl rfl))
theorem mR_18 {K : Option Nat → hX α} : (b_getR m 1 18 K).1 (ov M m s) = (K (some (m + 11))).1 (ov M m s) := r_getR (r := some (m + 11)) ov_0 rfl
theorem mA_11 {i : Int32} {K : Int32 → hX α} (hi : ¬ (i < 0 ∨ 10250 ≤ i.toNatClampNeg)) : (b_ald (m + 11) 2 i K).1 (ov M m s) = (K (s.2.2.1 11 i.toNatClampNeg)).1 (ov M m s) := r_ald (ov_at (j := 11) (by decide)) hi
theorem mS_11 {i x : Int32} {K : hX α} (hi : ¬ (i < 0 ∨ 10250 ≤ i.toNatClampNeg)) : (b_ast (m + 11) 2 i x K).1 (ov M m s) = K.1 (ov M m (s.1, s.2.1, va_up s.2.2.1 11 (va_up (s.2.2.1 11) i.toNatClampNeg x), s.2.2.2)) := by
  refine (r_ast (ov_at (j := 11) (by decide)) hi).trans ?_
  exact congrArg K.1 (show hm_up (ov M m s) (m + 11) _ = ov M m (s.1, s.2.1, va_up s.2.2.1 11 (va_up (s.2.2.1 11) i.toNatClampNeg x), s.2.2.2) from ov_ext (by decide) (lt29 rfl rfl rfl rfl rfl rfl rfl rfl rfl rfl rfl rfl rfl rfl rfl rfl rfl rfl rfl rfl rfl rfl rfl rfl rfl rfl rfl rfl rfl))
theorem mR_19 {K : Option Nat → hX α} : (b_getR m 1 19 K).1 (ov M m s) = (K (some (m + 12))).1 (ov M m s) := r_getR (r := some (m + 12)) ov_0 rfl
theorem mA_12 {i : Int32} {K : Int32 → hX α} (hi : ¬ (i < 0 ∨ 8200 ≤ i.toNatClampNeg)) : (b_ald (m + 12) 6 i K).1 (ov M m s) = (K (s.2.2.1 12 i.toNatClampNeg)).1 (ov M m s) := r_ald (ov_at (j := 12) (by decide)) hi
theorem mS_12 {i x : Int32} {K : hX α} (hi : ¬ (i < 0 ∨ 8200 ≤ i.toNatClampNeg)) : (b_ast (m + 12) 6 i x K).1 (ov M m s) = K.1 (ov M m (s.1, s.2.1, va_up s.2.2.1 12 (va_up (s.2.2.1 12) i.toNatClampNeg x), s.2.2.2)) := by
  refine (r_ast (ov_at (j := 12) (by decide)) hi).trans ?_
  exact congrArg K.1 (show hm_up (ov M m s) (m + 12) _ = ov M m (s.1, s.2.1, va_up s.2.2.1 12 (va_up (s.2.2.1 12) i.toNatClampNeg x), s.2.2.2) from ov_ext (by decide) (lt29 rfl rfl rfl rfl rfl rfl rfl rfl rfl rfl rfl rfl rfl rfl rfl rfl rfl rfl rfl rfl rfl rfl rfl rfl rfl rfl rfl rfl rfl))
theorem mR_20 {K : Option Nat → hX α} : (b_getR m 1 20 K).1 (ov M m s) = (K (some (m + 13))).1 (ov M m s) := r_getR (r := some (m + 13)) ov_0 rfl
theorem mA_13 {i : Int32} {K : Int32 → hX α} (hi : ¬ (i < 0 ∨ 8200 ≤ i.toNatClampNeg)) : (b_ald (m + 13) 2 i K).1 (ov M m s) = (K (s.2.2.1 13 i.toNatClampNeg)).1 (ov M m s) := r_ald (ov_at (j := 13) (by decide)) hi
theorem mS_13 {i x : Int32} {K : hX α} (hi : ¬ (i < 0 ∨ 8200 ≤ i.toNatClampNeg)) : (b_ast (m + 13) 2 i x K).1 (ov M m s) = K.1 (ov M m (s.1, s.2.1, va_up s.2.2.1 13 (va_up (s.2.2.1 13) i.toNatClampNeg x), s.2.2.2)) := by
  refine (r_ast (ov_at (j := 13) (by decide)) hi).trans ?_
  exact congrArg K.1 (show hm_up (ov M m s) (m + 13) _ = ov M m (s.1, s.2.1, va_up s.2.2.1 13 (va_up (s.2.2.1 13) i.toNatClampNeg x), s.2.2.2) from ov_ext (by decide) (lt29 rfl rfl rfl rfl rfl rfl rfl rfl rfl rfl rfl rfl rfl rfl rfl rfl rfl rfl rfl rfl rfl rfl rfl rfl rfl rfl rfl rfl rfl))
theorem mR_21 {K : Option Nat → hX α} : (b_getR m 1 21 K).1 (ov M m s) = (K (some (m + 14))).1 (ov M m s) := r_getR (r := some (m + 14)) ov_0 rfl
theorem mA_14 {i : Int32} {K : Int32 → hX α} (hi : ¬ (i < 0 ∨ 8200 ≤ i.toNatClampNeg)) : (b_ald (m + 14) 2 i K).1 (ov M m s) = (K (s.2.2.1 14 i.toNatClampNeg)).1 (ov M m s) := r_ald (ov_at (j := 14) (by decide)) hi
theorem mS_14 {i x : Int32} {K : hX α} (hi : ¬ (i < 0 ∨ 8200 ≤ i.toNatClampNeg)) : (b_ast (m + 14) 2 i x K).1 (ov M m s) = K.1 (ov M m (s.1, s.2.1, va_up s.2.2.1 14 (va_up (s.2.2.1 14) i.toNatClampNeg x), s.2.2.2)) := by
  refine (r_ast (ov_at (j := 14) (by decide)) hi).trans ?_
  exact congrArg K.1 (show hm_up (ov M m s) (m + 14) _ = ov M m (s.1, s.2.1, va_up s.2.2.1 14 (va_up (s.2.2.1 14) i.toNatClampNeg x), s.2.2.2) from ov_ext (by decide) (lt29 rfl rfl rfl rfl rfl rfl rfl rfl rfl rfl rfl rfl rfl rfl rfl rfl rfl rfl rfl rfl rfl rfl rfl rfl rfl rfl rfl rfl rfl))
theorem mR_22 {K : Option Nat → hX α} : (b_getR m 1 22 K).1 (ov M m s) = (K (some (m + 15))).1 (ov M m s) := r_getR (r := some (m + 15)) ov_0 rfl
theorem mA_15 {i : Int32} {K : Int32 → hX α} (hi : ¬ (i < 0 ∨ 8200 ≤ i.toNatClampNeg)) : (b_ald (m + 15) 2 i K).1 (ov M m s) = (K (s.2.2.1 15 i.toNatClampNeg)).1 (ov M m s) := r_ald (ov_at (j := 15) (by decide)) hi
theorem mS_15 {i x : Int32} {K : hX α} (hi : ¬ (i < 0 ∨ 8200 ≤ i.toNatClampNeg)) : (b_ast (m + 15) 2 i x K).1 (ov M m s) = K.1 (ov M m (s.1, s.2.1, va_up s.2.2.1 15 (va_up (s.2.2.1 15) i.toNatClampNeg x), s.2.2.2)) := by
  refine (r_ast (ov_at (j := 15) (by decide)) hi).trans ?_
  exact congrArg K.1 (show hm_up (ov M m s) (m + 15) _ = ov M m (s.1, s.2.1, va_up s.2.2.1 15 (va_up (s.2.2.1 15) i.toNatClampNeg x), s.2.2.2) from ov_ext (by decide) (lt29 rfl rfl rfl rfl rfl rfl rfl rfl rfl rfl rfl rfl rfl rfl rfl rfl rfl rfl rfl rfl rfl rfl rfl rfl rfl rfl rfl rfl rfl))
theorem mR_23 {K : Option Nat → hX α} : (b_getR m 1 23 K).1 (ov M m s) = (K (some (m + 16))).1 (ov M m s) := r_getR (r := some (m + 16)) ov_0 rfl
theorem mA_16 {i : Int32} {K : Int32 → hX α} (hi : ¬ (i < 0 ∨ 164000 ≤ i.toNatClampNeg)) : (b_ald (m + 16) 6 i K).1 (ov M m s) = (K (s.2.2.1 16 i.toNatClampNeg)).1 (ov M m s) := r_ald (ov_at (j := 16) (by decide)) hi
theorem mS_16 {i x : Int32} {K : hX α} (hi : ¬ (i < 0 ∨ 164000 ≤ i.toNatClampNeg)) : (b_ast (m + 16) 6 i x K).1 (ov M m s) = K.1 (ov M m (s.1, s.2.1, va_up s.2.2.1 16 (va_up (s.2.2.1 16) i.toNatClampNeg x), s.2.2.2)) := by
  refine (r_ast (ov_at (j := 16) (by decide)) hi).trans ?_
  exact congrArg K.1 (show hm_up (ov M m s) (m + 16) _ = ov M m (s.1, s.2.1, va_up s.2.2.1 16 (va_up (s.2.2.1 16) i.toNatClampNeg x), s.2.2.2) from ov_ext (by decide) (lt29 rfl rfl rfl rfl rfl rfl rfl rfl rfl rfl rfl rfl rfl rfl rfl rfl rfl rfl rfl rfl rfl rfl rfl rfl rfl rfl rfl rfl rfl))
theorem mR_24 {K : Option Nat → hX α} : (b_getR m 1 24 K).1 (ov M m s) = (K (some (m + 17))).1 (ov M m s) := r_getR (r := some (m + 17)) ov_0 rfl
theorem mA_17 {i : Int32} {K : Int32 → hX α} (hi : ¬ (i < 0 ∨ 164000 ≤ i.toNatClampNeg)) : (b_ald (m + 17) 6 i K).1 (ov M m s) = (K (s.2.2.1 17 i.toNatClampNeg)).1 (ov M m s) := r_ald (ov_at (j := 17) (by decide)) hi
theorem mS_17 {i x : Int32} {K : hX α} (hi : ¬ (i < 0 ∨ 164000 ≤ i.toNatClampNeg)) : (b_ast (m + 17) 6 i x K).1 (ov M m s) = K.1 (ov M m (s.1, s.2.1, va_up s.2.2.1 17 (va_up (s.2.2.1 17) i.toNatClampNeg x), s.2.2.2)) := by
  refine (r_ast (ov_at (j := 17) (by decide)) hi).trans ?_
  exact congrArg K.1 (show hm_up (ov M m s) (m + 17) _ = ov M m (s.1, s.2.1, va_up s.2.2.1 17 (va_up (s.2.2.1 17) i.toNatClampNeg x), s.2.2.2) from ov_ext (by decide) (lt29 rfl rfl rfl rfl rfl rfl rfl rfl rfl rfl rfl rfl rfl rfl rfl rfl rfl rfl rfl rfl rfl rfl rfl rfl rfl rfl rfl rfl rfl))
theorem mR_25 {K : Option Nat → hX α} : (b_getR m 1 25 K).1 (ov M m s) = (K (some (m + 18))).1 (ov M m s) := r_getR (r := some (m + 18)) ov_0 rfl
theorem mA_18 {i : Int32} {K : Int64 → hX α} (hi : ¬ (i < 0 ∨ 8200 ≤ i.toNatClampNeg)) : (b_aldL (m + 18) 7 i K).1 (ov M m s) = (K (s.2.2.2 18 i.toNatClampNeg)).1 (ov M m s) := r_aldL (ov_at (j := 18) (by decide)) hi
theorem mS_18 {i : Int32} {x : Int64} {K : hX α} (hi : ¬ (i < 0 ∨ 8200 ≤ i.toNatClampNeg)) : (b_astL (m + 18) 7 i x K).1 (ov M m s) = K.1 (ov M m (s.1, s.2.1, s.2.2.1, va_up s.2.2.2 18 (va_up (s.2.2.2 18) i.toNatClampNeg x))) := by
  refine (r_astL (ov_at (j := 18) (by decide)) hi).trans ?_
  exact congrArg K.1 (show hm_up (ov M m s) (m + 18) _ = ov M m (s.1, s.2.1, s.2.2.1, va_up s.2.2.2 18 (va_up (s.2.2.2 18) i.toNatClampNeg x)) from ov_ext (by decide) (lt29 rfl rfl rfl rfl rfl rfl rfl rfl rfl rfl rfl rfl rfl rfl rfl rfl rfl rfl rfl rfl rfl rfl rfl rfl rfl rfl rfl rfl rfl))
theorem mR_26 {K : Option Nat → hX α} : (b_getR m 1 26 K).1 (ov M m s) = (K (some (m + 19))).1 (ov M m s) := r_getR (r := some (m + 19)) ov_0 rfl
theorem mA_19 {i : Int32} {K : Int64 → hX α} (hi : ¬ (i < 0 ∨ 8200 ≤ i.toNatClampNeg)) : (b_aldL (m + 19) 7 i K).1 (ov M m s) = (K (s.2.2.2 19 i.toNatClampNeg)).1 (ov M m s) := r_aldL (ov_at (j := 19) (by decide)) hi
theorem mS_19 {i : Int32} {x : Int64} {K : hX α} (hi : ¬ (i < 0 ∨ 8200 ≤ i.toNatClampNeg)) : (b_astL (m + 19) 7 i x K).1 (ov M m s) = K.1 (ov M m (s.1, s.2.1, s.2.2.1, va_up s.2.2.2 19 (va_up (s.2.2.2 19) i.toNatClampNeg x))) := by
  refine (r_astL (ov_at (j := 19) (by decide)) hi).trans ?_
  exact congrArg K.1 (show hm_up (ov M m s) (m + 19) _ = ov M m (s.1, s.2.1, s.2.2.1, va_up s.2.2.2 19 (va_up (s.2.2.2 19) i.toNatClampNeg x)) from ov_ext (by decide) (lt29 rfl rfl rfl rfl rfl rfl rfl rfl rfl rfl rfl rfl rfl rfl rfl rfl rfl rfl rfl rfl rfl rfl rfl rfl rfl rfl rfl rfl rfl))
theorem mR_27 {K : Option Nat → hX α} : (b_getR m 1 27 K).1 (ov M m s) = (K (some (m + 20))).1 (ov M m s) := r_getR (r := some (m + 20)) ov_0 rfl
theorem mA_20 {i : Int32} {K : Int32 → hX α} (hi : ¬ (i < 0 ∨ 8200 ≤ i.toNatClampNeg)) : (b_ald (m + 20) 5 i K).1 (ov M m s) = (K (s.2.2.1 20 i.toNatClampNeg)).1 (ov M m s) := r_ald (ov_at (j := 20) (by decide)) hi
theorem mS_20 {i x : Int32} {K : hX α} (hi : ¬ (i < 0 ∨ 8200 ≤ i.toNatClampNeg)) : (b_ast (m + 20) 5 i x K).1 (ov M m s) = K.1 (ov M m (s.1, s.2.1, va_up s.2.2.1 20 (va_up (s.2.2.1 20) i.toNatClampNeg x), s.2.2.2)) := by
  refine (r_ast (ov_at (j := 20) (by decide)) hi).trans ?_
  exact congrArg K.1 (show hm_up (ov M m s) (m + 20) _ = ov M m (s.1, s.2.1, va_up s.2.2.1 20 (va_up (s.2.2.1 20) i.toNatClampNeg x), s.2.2.2) from ov_ext (by decide) (lt29 rfl rfl rfl rfl rfl rfl rfl rfl rfl rfl rfl rfl rfl rfl rfl rfl rfl rfl rfl rfl rfl rfl rfl rfl rfl rfl rfl rfl rfl))
theorem mR_35 {K : Option Nat → hX α} : (b_getR m 1 35 K).1 (ov M m s) = (K (some (m + 21))).1 (ov M m s) := r_getR (r := some (m + 21)) ov_0 rfl
theorem mA_21 {i : Int32} {K : Int32 → hX α} (hi : ¬ (i < 0 ∨ 201 ≤ i.toNatClampNeg)) : (b_ald (m + 21) 2 i K).1 (ov M m s) = (K (s.2.2.1 21 i.toNatClampNeg)).1 (ov M m s) := r_ald (ov_at (j := 21) (by decide)) hi
theorem mS_21 {i x : Int32} {K : hX α} (hi : ¬ (i < 0 ∨ 201 ≤ i.toNatClampNeg)) : (b_ast (m + 21) 2 i x K).1 (ov M m s) = K.1 (ov M m (s.1, s.2.1, va_up s.2.2.1 21 (va_up (s.2.2.1 21) i.toNatClampNeg x), s.2.2.2)) := by
  refine (r_ast (ov_at (j := 21) (by decide)) hi).trans ?_
  exact congrArg K.1 (show hm_up (ov M m s) (m + 21) _ = ov M m (s.1, s.2.1, va_up s.2.2.1 21 (va_up (s.2.2.1 21) i.toNatClampNeg x), s.2.2.2) from ov_ext (by decide) (lt29 rfl rfl rfl rfl rfl rfl rfl rfl rfl rfl rfl rfl rfl rfl rfl rfl rfl rfl rfl rfl rfl rfl rfl rfl rfl rfl rfl rfl rfl))
theorem mR_36 {K : Option Nat → hX α} : (b_getR m 1 36 K).1 (ov M m s) = (K (some (m + 22))).1 (ov M m s) := r_getR (r := some (m + 22)) ov_0 rfl
theorem mA_22 {i : Int32} {K : Int32 → hX α} (hi : ¬ (i < 0 ∨ 201 ≤ i.toNatClampNeg)) : (b_ald (m + 22) 2 i K).1 (ov M m s) = (K (s.2.2.1 22 i.toNatClampNeg)).1 (ov M m s) := r_ald (ov_at (j := 22) (by decide)) hi
theorem mS_22 {i x : Int32} {K : hX α} (hi : ¬ (i < 0 ∨ 201 ≤ i.toNatClampNeg)) : (b_ast (m + 22) 2 i x K).1 (ov M m s) = K.1 (ov M m (s.1, s.2.1, va_up s.2.2.1 22 (va_up (s.2.2.1 22) i.toNatClampNeg x), s.2.2.2)) := by
  refine (r_ast (ov_at (j := 22) (by decide)) hi).trans ?_
  exact congrArg K.1 (show hm_up (ov M m s) (m + 22) _ = ov M m (s.1, s.2.1, va_up s.2.2.1 22 (va_up (s.2.2.1 22) i.toNatClampNeg x), s.2.2.2) from ov_ext (by decide) (lt29 rfl rfl rfl rfl rfl rfl rfl rfl rfl rfl rfl rfl rfl rfl rfl rfl rfl rfl rfl rfl rfl rfl rfl rfl rfl rfl rfl rfl rfl))
theorem mR_37 {K : Option Nat → hX α} : (b_getR m 1 37 K).1 (ov M m s) = (K (some (m + 23))).1 (ov M m s) := r_getR (r := some (m + 23)) ov_0 rfl
theorem mA_23 {i : Int32} {K : Int32 → hX α} (hi : ¬ (i < 0 ∨ 20 ≤ i.toNatClampNeg)) : (b_ald (m + 23) 6 i K).1 (ov M m s) = (K (s.2.2.1 23 i.toNatClampNeg)).1 (ov M m s) := r_ald (ov_at (j := 23) (by decide)) hi
theorem mS_23 {i x : Int32} {K : hX α} (hi : ¬ (i < 0 ∨ 20 ≤ i.toNatClampNeg)) : (b_ast (m + 23) 6 i x K).1 (ov M m s) = K.1 (ov M m (s.1, s.2.1, va_up s.2.2.1 23 (va_up (s.2.2.1 23) i.toNatClampNeg x), s.2.2.2)) := by
  refine (r_ast (ov_at (j := 23) (by decide)) hi).trans ?_
  exact congrArg K.1 (show hm_up (ov M m s) (m + 23) _ = ov M m (s.1, s.2.1, va_up s.2.2.1 23 (va_up (s.2.2.1 23) i.toNatClampNeg x), s.2.2.2) from ov_ext (by decide) (lt29 rfl rfl rfl rfl rfl rfl rfl rfl rfl rfl rfl rfl rfl rfl rfl rfl rfl rfl rfl rfl rfl rfl rfl rfl rfl rfl rfl rfl rfl))
theorem mR_38 {K : Option Nat → hX α} : (b_getR m 1 38 K).1 (ov M m s) = (K (some (m + 24))).1 (ov M m s) := r_getR (r := some (m + 24)) ov_0 rfl
theorem mA_24 {i : Int32} {K : Int32 → hX α} (hi : ¬ (i < 0 ∨ 20 ≤ i.toNatClampNeg)) : (b_ald (m + 24) 6 i K).1 (ov M m s) = (K (s.2.2.1 24 i.toNatClampNeg)).1 (ov M m s) := r_ald (ov_at (j := 24) (by decide)) hi
theorem mS_24 {i x : Int32} {K : hX α} (hi : ¬ (i < 0 ∨ 20 ≤ i.toNatClampNeg)) : (b_ast (m + 24) 6 i x K).1 (ov M m s) = K.1 (ov M m (s.1, s.2.1, va_up s.2.2.1 24 (va_up (s.2.2.1 24) i.toNatClampNeg x), s.2.2.2)) := by
  refine (r_ast (ov_at (j := 24) (by decide)) hi).trans ?_
  exact congrArg K.1 (show hm_up (ov M m s) (m + 24) _ = ov M m (s.1, s.2.1, va_up s.2.2.1 24 (va_up (s.2.2.1 24) i.toNatClampNeg x), s.2.2.2) from ov_ext (by decide) (lt29 rfl rfl rfl rfl rfl rfl rfl rfl rfl rfl rfl rfl rfl rfl rfl rfl rfl rfl rfl rfl rfl rfl rfl rfl rfl rfl rfl rfl rfl))
theorem mR_40 {K : Option Nat → hX α} : (b_getR m 1 40 K).1 (ov M m s) = (K (some (m + 25))).1 (ov M m s) := r_getR (r := some (m + 25)) ov_0 rfl
theorem mA_25 {i : Int32} {K : Int32 → hX α} (hi : ¬ (i < 0 ∨ 400 ≤ i.toNatClampNeg)) : (b_ald (m + 25) 2 i K).1 (ov M m s) = (K (s.2.2.1 25 i.toNatClampNeg)).1 (ov M m s) := r_ald (ov_at (j := 25) (by decide)) hi
theorem mS_25 {i x : Int32} {K : hX α} (hi : ¬ (i < 0 ∨ 400 ≤ i.toNatClampNeg)) : (b_ast (m + 25) 2 i x K).1 (ov M m s) = K.1 (ov M m (s.1, s.2.1, va_up s.2.2.1 25 (va_up (s.2.2.1 25) i.toNatClampNeg x), s.2.2.2)) := by
  refine (r_ast (ov_at (j := 25) (by decide)) hi).trans ?_
  exact congrArg K.1 (show hm_up (ov M m s) (m + 25) _ = ov M m (s.1, s.2.1, va_up s.2.2.1 25 (va_up (s.2.2.1 25) i.toNatClampNeg x), s.2.2.2) from ov_ext (by decide) (lt29 rfl rfl rfl rfl rfl rfl rfl rfl rfl rfl rfl rfl rfl rfl rfl rfl rfl rfl rfl rfl rfl rfl rfl rfl rfl rfl rfl rfl rfl))
theorem mR_41 {K : Option Nat → hX α} : (b_getR m 1 41 K).1 (ov M m s) = (K (some (m + 26))).1 (ov M m s) := r_getR (r := some (m + 26)) ov_0 rfl
theorem mA_26 {i : Int32} {K : Int32 → hX α} (hi : ¬ (i < 0 ∨ 400 ≤ i.toNatClampNeg)) : (b_ald (m + 26) 2 i K).1 (ov M m s) = (K (s.2.2.1 26 i.toNatClampNeg)).1 (ov M m s) := r_ald (ov_at (j := 26) (by decide)) hi
theorem mS_26 {i x : Int32} {K : hX α} (hi : ¬ (i < 0 ∨ 400 ≤ i.toNatClampNeg)) : (b_ast (m + 26) 2 i x K).1 (ov M m s) = K.1 (ov M m (s.1, s.2.1, va_up s.2.2.1 26 (va_up (s.2.2.1 26) i.toNatClampNeg x), s.2.2.2)) := by
  refine (r_ast (ov_at (j := 26) (by decide)) hi).trans ?_
  exact congrArg K.1 (show hm_up (ov M m s) (m + 26) _ = ov M m (s.1, s.2.1, va_up s.2.2.1 26 (va_up (s.2.2.1 26) i.toNatClampNeg x), s.2.2.2) from ov_ext (by decide) (lt29 rfl rfl rfl rfl rfl rfl rfl rfl rfl rfl rfl rfl rfl rfl rfl rfl rfl rfl rfl rfl rfl rfl rfl rfl rfl rfl rfl rfl rfl))
theorem mR_42 {K : Option Nat → hX α} : (b_getR m 1 42 K).1 (ov M m s) = (K (some (m + 27))).1 (ov M m s) := r_getR (r := some (m + 27)) ov_0 rfl
theorem mA_27 {i : Int32} {K : Int32 → hX α} (hi : ¬ (i < 0 ∨ 200 ≤ i.toNatClampNeg)) : (b_ald (m + 27) 5 i K).1 (ov M m s) = (K (s.2.2.1 27 i.toNatClampNeg)).1 (ov M m s) := r_ald (ov_at (j := 27) (by decide)) hi
theorem mS_27 {i x : Int32} {K : hX α} (hi : ¬ (i < 0 ∨ 200 ≤ i.toNatClampNeg)) : (b_ast (m + 27) 5 i x K).1 (ov M m s) = K.1 (ov M m (s.1, s.2.1, va_up s.2.2.1 27 (va_up (s.2.2.1 27) i.toNatClampNeg x), s.2.2.2)) := by
  refine (r_ast (ov_at (j := 27) (by decide)) hi).trans ?_
  exact congrArg K.1 (show hm_up (ov M m s) (m + 27) _ = ov M m (s.1, s.2.1, va_up s.2.2.1 27 (va_up (s.2.2.1 27) i.toNatClampNeg x), s.2.2.2) from ov_ext (by decide) (lt29 rfl rfl rfl rfl rfl rfl rfl rfl rfl rfl rfl rfl rfl rfl rfl rfl rfl rfl rfl rfl rfl rfl rfl rfl rfl rfl rfl rfl rfl))
theorem mR_44 {K : Option Nat → hX α} : (b_getR m 1 44 K).1 (ov M m s) = (K (some (m + 28))).1 (ov M m s) := r_getR (r := some (m + 28)) ov_0 rfl
theorem mA_28 {i : Int32} {K : Int32 → hX α} (hi : ¬ (i < 0 ∨ 60000 ≤ i.toNatClampNeg)) : (b_ald (m + 28) 6 i K).1 (ov M m s) = (K (s.2.2.1 28 i.toNatClampNeg)).1 (ov M m s) := r_ald (ov_at (j := 28) (by decide)) hi
theorem mS_28 {i x : Int32} {K : hX α} (hi : ¬ (i < 0 ∨ 60000 ≤ i.toNatClampNeg)) : (b_ast (m + 28) 6 i x K).1 (ov M m s) = K.1 (ov M m (s.1, s.2.1, va_up s.2.2.1 28 (va_up (s.2.2.1 28) i.toNatClampNeg x), s.2.2.2)) := by
  refine (r_ast (ov_at (j := 28) (by decide)) hi).trans ?_
  exact congrArg K.1 (show hm_up (ov M m s) (m + 28) _ = ov M m (s.1, s.2.1, va_up s.2.2.1 28 (va_up (s.2.2.1 28) i.toNatClampNeg x), s.2.2.2) from ov_ext (by decide) (lt29 rfl rfl rfl rfl rfl rfl rfl rfl rfl rfl rfl rfl rfl rfl rfl rfl rfl rfl rfl rfl rfl rfl rfl rfl rfl rfl rfl rfl rfl))
end MDM
