/-! LAYER 2: the class's Scan: ranges -/
/-- the least version and the first one behind, once a BOUND c (itself too: b) of version x is kept as well -/
def nlo (c b : Int32) (x lo : Nat) : Nat := if c = 60 then lo else max lo (if b = 0 then x + 1 else x)
def nhi (c b : Int32) (x hi : Nat) : Nat := if c = 62 then hi else min hi (if b = 0 then x else x + 1)
theorem l_max {x y : Nat} (hx : x < 2 ^ 63) (hy : y < 2 ^ 63) : (if lN x < lN y then lN y else lN x) = lN (max y x) := by
  by_cases h : x < y
  · rw [if_pos ((pk_lLT hx hy).mpr h), Nat.max_eq_left (by omega)]
  · rw [if_neg (fun z => h ((pk_lLT hx hy).mp z)), Nat.max_eq_right (by omega)]
theorem l_min {x y : Nat} (hx : x < 2 ^ 63) (hy : y < 2 ^ 63) : (if lN x < lN y then lN x else lN y) = lN (min y x) := by
  by_cases h : x < y
  · rw [if_pos ((pk_lLT hx hy).mpr h), Nat.min_eq_right (by omega)]
  · rw [if_neg (fun z => h ((pk_lLT hx hy).mp z)), Nat.min_eq_left (by omega)]
section
variable {N : Nat} {M : hM} {a p : Nat} {v : sV} {f : Nat → Int32} {n k : Nat}
theorem s_narrow {c b : Int32} {x lo hi : Nat} (h : M.1 a = some (scC p v)) (hx : v.2.2.2.2.2.1 = lN x) (hl : v.2.2.2.2.2.2.1 = lN lo) (hh : v.2.2.2.2.2.2.2 = lN hi) (bx : x < 10 ^ 18) (bl : lo ≤ 10 ^ 18) (bh : hi ≤ 10 ^ 18) : (f_Scan_narrow N a c b).1 M = some ((), hm_up M a (scC p (v.1, v.2.1, v.2.2.1, v.2.2.2.1, v.2.2.2.2.1, lN x, lN (nlo c b x lo), lN (nhi c b x hi)))) := by
  have b63 : (10 : Nat) ^ 18 + 1 < 2 ^ 63 := by decide
  have h1 : lN x + 1 = lN (x + 1) := lN_1 x
  rw [e_Scan_narrow]
  refine r_letJ (fun J36 eJ36 => ?_)
  have fin : ∀ (M : hM) (lo' : Int64), M.1 a = some (scC p (v.1, v.2.1, v.2.2.1, v.2.2.2.1, v.2.2.2.2.1, lN x, lo', lN hi)) → (J36 (lN (x + 1))).1 M = some ((), hm_up M a (scC p (v.1, v.2.1, v.2.2.1, v.2.2.2.1, v.2.2.2.2.1, lN x, lo', lN (nhi c b x hi)))) := by
    intro M lo' g
    rw [eJ36, r_let]
    by_cases c62 : c = 62
    · rw [r_if_t c62, nhi, if_pos c62, up_self g]; rfl
    rw [r_if_f c62, nhi, if_neg c62]
    refine (r_getL g rfl).trans ?_
    by_cases b0 : b = 0
    · rw [r_if_t b0, if_pos b0]
      refine (r_getL g rfl).trans ?_
      rw [r_nn]
      refine (r_put g (Nat.le_of_ble_eq_true rfl)).trans ?_
      rw [← l_min (by omega) (by omega)]
      rfl
    · rw [r_if_f b0, if_neg b0, r_nn]
      refine (r_put g (Nat.le_of_ble_eq_true rfl)).trans ?_
      rw [← l_min (by omega) (by omega)]
      rfl
  have hv : v = (v.1, v.2.1, v.2.2.1, v.2.2.2.1, v.2.2.2.2.1, lN x, lN lo, lN hi) := by rw [← hx, ← hl, ← hh]
  rw [hv] at h
  refine r_letJ (fun J30 eJ30 => ?_)
  refine (r_getL h rfl).trans ?_
  by_cases c60 : c = 60
  · rw [r_if_t c60, h1, fin M _ h, nlo, if_pos c60]
  rw [r_if_f c60, nlo, if_neg c60]
  refine (r_getL h rfl).trans ?_
  rw [h1]
  by_cases b0 : b = 0
  · rw [r_if_t b0, if_pos b0, eJ30, r_nn]
    refine (r_put h (Nat.le_of_ble_eq_true rfl)).trans ?_
    refine (fin _ (lN (max lo (x + 1))) (by rw [← l_max (by omega) (by omega)]; exact up_s)).trans ?_
    rw [up_up]
  · rw [r_if_f b0, if_neg b0]
    refine (r_getL h rfl).trans ?_
    rw [eJ30, r_nn]
    refine (r_put h (Nat.le_of_ble_eq_true rfl)).trans ?_
    refine (fin _ (lN (max lo x)) (by rw [← l_max (by omega) (by omega)]; exact up_s)).trans ?_
    rw [up_up]
end
