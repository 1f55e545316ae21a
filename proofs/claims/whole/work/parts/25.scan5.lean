/-! LAYER 2: the class's Scan: versions -/
/-- r more NUMBERS, each behind a dot, from place q, x so far: where it can't stand, or where it ends and what it is -/
def vst (f : Nat → Int32) (n : Nat) : Nat → Nat → Nat → Nat ⊕ (Nat × Nat)
  | 0, q, x => .inr (q, x)
  | r + 1, q, x => if sgn f n q = 46 then (if cD (sgn f n (q + 1)) then (if nuOk f (q + 1) (den f (n - (q + 1)) (q + 1) - (q + 1)) then vst f n r (den f (n - (q + 1)) (q + 1)) (x * 1000000 + nv f (q + 1) (den f (n - (q + 1)) (q + 1) - (q + 1))) else .inl (q + 1)) else .inl (sp f n (q + 1))) else .inl (sp f n q)
/-- a VERSION from place k on -/
def verR (f : Nat → Int32) (n k : Nat) : Nat ⊕ (Nat × Nat) := if nuOk f (sp f n k) (den f (n - sp f n k) (sp f n k) - sp f n k) then vst f n 2 (den f (n - sp f n k) (sp f n k)) (nv f (sp f n k) (den f (n - sp f n k) (sp f n k) - sp f n k)) else .inl (sp f n k)
/-- what a take of a number or a version leaves -/
def vSp (M : hM) (a p : Nat) (v : sV) (X : Option (Int32 × hM)) (res : Nat ⊕ (Nat × Nat)) : Prop := match res with
  | .inl r => ∃ w : sV, w.1 = v.1 ∧ w.2.2.1 = nI r ∧ X = some (0, hm_up M a (scC p w))
  | .inr (q, x) => X = some (1, hm_up M a (scC p (v.1, nI q, v.2.2.1, v.2.2.2.1, v.2.2.2.2.1, lN x, v.2.2.2.2.2.2)))
theorem vSp.eq {M : hM} {a p : Nat} {v : sV} {X Y : Option (Int32 × hM)} {res : Nat ⊕ (Nat × Nat)} (e : X = Y) (h : vSp M a p v Y res) : vSp M a p v X res := by rw [e]; exact h
theorem vSp.mono {M : hM} {a p : Nat} {v w : sV} {X : Option (Int32 × hM)} {res : Nat ⊕ (Nat × Nat)} (h : vSp (hm_up M a (scC p w)) a p w X res) (h1 : w.1 = v.1) (h3 : w.2.2.1 = v.2.2.1) (h4 : w.2.2.2.1 = v.2.2.2.1) (h5 : w.2.2.2.2.1 = v.2.2.2.2.1) (h7 : w.2.2.2.2.2.2 = v.2.2.2.2.2.2) : vSp M a p v X res := by
  cases res with
  | inl r =>
    obtain ⟨u, e1, e2, e3⟩ := h
    exact ⟨u, e1.trans h1, e2, by rw [e3, up_up]⟩
  | inr qx =>
    obtain ⟨q, x⟩ := qx
    have h : X = _ := h
    show X = _
    rw [h, up_up, h1, h3, h4, h5, h7]
section
variable {N : Nat} {M : hM} {a p : Nat} {v : sV} {f : Nat → Int32} {n k : Nat}
theorem sgn_at {q : Nat} (h : q < n) : sgn f n q = f q := if_pos h
theorem cD_in {q : Nat} (h : cD (sgn f n q)) : q < n := by
  unfold sgn at h
  by_cases z : q < n
  · exact z
  · rw [if_neg z] at h; exact absurd h (by decide)
theorem s_ver_loop (hN : 2001 ≤ N) : ∀ (r fu q x : Nat) (M : hM) (v : sV), r ≤ 2 → r < fu → sOk M a p v f n q → vSp M a p v ((f_Scan_takeVersion_20 N a fu (lN x) (nI (3 - r))).1 M) (vst f n r q x) := by
  intro r
  induction r with
  | zero =>
    intro fu q x M v _ hfu h
    obtain ⟨fu, rfl⟩ : ∃ z, fu = z + 1 := ⟨fu - 1, by omega⟩
    rw [e_Scan_takeVersion_20, r_let, r_if_t (show (3 : Int32) ≤ nI (3 - 0) by decide)]
    refine (r_put h.1.1 (Nat.le_of_ble_eq_true rfl)).trans ?_
    rw [← h.2.2.2.1]
    exact rZ1
  | succ r ih =>
    intro fu q x M v hr hfu h
    obtain ⟨fu, rfl⟩ : ∃ z, fu = z + 1 := ⟨fu - 1, by omega⟩
    have stop : ∀ (M : hM) (v : sV) (q : Nat), sOk M a p v f n q → (b_is a 8 (b_call (f_Scan_skipBlanks N a) fun _ => b_getI a 8 2 fun v5 => b_is a 8 (b_call (f_Scan_refuse N a v5) fun v6 => b_retN .boolean v6))).1 M = some (0, hm_up M a (scC p (v.1, nI (sp f n q), nI (sp f n q), v.2.2.2))) := by
      intro M v q h
      refine (r_is h.1.1).trans ?_
      refine (r_call (s_sp hN h)).trans ?_
      refine (r_getI up_s rfl).trans ?_
      refine (r_is up_s).trans ?_
      refine (r_call (s_refuse up_s)).trans ?_
      rw [up_up]; exact rZ0
    have hx3 : ¬ (3 : Int32) ≤ nI (3 - (r + 1)) := nI_ge (b := 3) (by omega) (by omega)
    rw [e_Scan_takeVersion_20, r_let, r_if_f hx3]
    rw [vst]
    refine vSp.eq (r_is h.1.1) ?_
    refine vSp.eq (r_call (s_sg h)) ?_
    by_cases hc : sgn f n q = 46
    case neg =>
      rw [r_if_f hc, if_neg hc]
      dsimp only
      rw [r_let, r_if_t rfl]
      dsimp only
      rw [r_let, r_if_t rfl]
      exact ⟨(v.1, nI (sp f n q), nI (sp f n q), v.2.2.2), rfl, rfl, stop M v q h⟩
    have hq : q < n := sgn_0 (by decide) hc
    have h2 : n ≤ 2000 := h.2.2.2.2.1
    have h1 := h.up (w := (v.1, v.2.1 + 1, v.2.2)) (k' := q + 1) h.2.2.1 (by show v.2.1 + 1 = _; rw [h.2.2.2.1]; exact nI_1 q) (by omega)
    rw [r_if_t hc, if_pos hc]
    dsimp only
    rw [r_let, r_if_f (by decide)]
    dsimp only
    refine vSp.eq (r_getI h.1.1 rfl) ?_
    refine vSp.eq (r_put h.1.1 (Nat.le_of_ble_eq_true rfl)) ?_
    rw [r_let, r_if_f (by decide)]
    refine vSp.mono (w := (v.1, v.2.1 + 1, v.2.2)) ?_ rfl rfl rfl rfl rfl
    refine vSp.eq (r_is h1.1.1) ?_
    refine vSp.eq (r_call (s_sg h1)) ?_
    refine vSp.eq (r_call s_isDigit) ?_
    by_cases hd : cD (sgn f n (q + 1))
    case neg =>
      rw [if_neg hd, bI_f hd, r_if_t rfl]
      exact ⟨(v.1, nI (sp f n (q + 1)), nI (sp f n (q + 1)), v.2.2.2), rfl, rfl, stop (hm_up M a (scC p (v.1, v.2.1 + 1, v.2.2))) (v.1, v.2.1 + 1, v.2.2) (q + 1) h1⟩
    rw [if_pos hd, bI_t hd, r_if_f (by decide)]
    have hq1 := cD_in hd
    refine vSp.eq (r_is h1.1.1) ?_
    have en := s_takeNumber hN h1
    have hde := den_le (f := f) (n - (q + 1)) (q + 1)
    by_cases hu : nuOk f (q + 1) (den f (n - (q + 1)) (q + 1) - (q + 1))
    case neg =>
      rw [if_neg hu] at en ⊢
      refine vSp.eq (r_call en) ?_
      rw [r_if_t rfl]
      exact ⟨(v.1, nI (den f (n - (q + 1)) (q + 1)), nI (q + 1), v.2.2.2.1, v.2.2.2.2.1, lN (nv f (q + 1) (min (den f (n - (q + 1)) (q + 1) - (q + 1)) 6)), v.2.2.2.2.2.2), rfl, rfl, rZ0⟩
    rw [if_pos hu] at en ⊢
    refine vSp.eq (r_call en) ?_
    rw [r_if_f (by decide)]
    refine vSp.eq (r_getL up_s rfl) ?_
    refine vSp.mono (w := (v.1, nI (den f (n - (q + 1)) (q + 1)), v.2.2.1, v.2.2.2.1, v.2.2.2.2.1, lN (nv f (q + 1) (min (den f (n - (q + 1)) (q + 1) - (q + 1)) 6)), v.2.2.2.2.2.2)) ?_ rfl rfl rfl rfl rfl
    have h3 := h1.up (w := (v.1, nI (den f (n - (q + 1)) (q + 1)), v.2.2.1, v.2.2.2.1, v.2.2.2.2.1, lN (nv f (q + 1) (min (den f (n - (q + 1)) (q + 1) - (q + 1)) 6)), v.2.2.2.2.2.2)) (k' := den f (n - (q + 1)) (q + 1)) h.2.2.1 rfl (by omega)
    have e6 : min (den f (n - (q + 1)) (q + 1) - (q + 1)) 6 = den f (n - (q + 1)) (q + 1) - (q + 1) := Nat.min_eq_left hu.2.1
    have e1 : lN x * 1000000 + lN (nv f (q + 1) (min (den f (n - (q + 1)) (q + 1) - (q + 1)) 6)) = lN (x * 1000000 + nv f (q + 1) (den f (n - (q + 1)) (q + 1) - (q + 1))) := by
      rw [e6]
      show lN x * lN 1000000 + _ = _
      rw [lN_mul, lN_add]
    have e2 : nI (3 - (r + 1)) + 1 = nI (3 - r) := by rw [nI_1, show 3 - (r + 1) + 1 = 3 - r by omega]
    have g := ih fu (den f (n - (q + 1)) (q + 1)) (x * 1000000 + nv f (q + 1) (den f (n - (q + 1)) (q + 1) - (q + 1))) _ _ (by omega) (by omega) h3
    rw [← e1, ← e2] at g
    exact g
theorem s_takeVersion (hN : 2001 ≤ N) (h : sOk M a p v f n k) : vSp M a p v ((f_Scan_takeVersion N a).1 M) (verR f n k) := by
  rw [e_Scan_takeVersion]
  have hsn := sp_le (f := f) h.2.2.2.2.2
  have h1 := h.up (w := (v.1, nI (sp f n k), v.2.2)) h.2.2.1 rfl hsn
  refine vSp.eq (r_is h.1.1) ?_
  refine vSp.eq (r_call (s_sp hN h)) ?_
  refine vSp.mono (w := (v.1, nI (sp f n k), v.2.2)) ?_ rfl rfl rfl rfl rfl
  refine vSp.eq (r_is h1.1.1) ?_
  have en := s_takeNumber hN h1
  have hde := den_le (f := f) (n - sp f n k) (sp f n k)
  unfold verR
  by_cases hu : nuOk f (sp f n k) (den f (n - sp f n k) (sp f n k) - sp f n k)
  case neg =>
    rw [if_neg hu] at en ⊢
    refine vSp.eq (r_call en) ?_
    rw [r_if_t rfl]
    exact ⟨(v.1, nI (den f (n - sp f n k) (sp f n k)), nI (sp f n k), v.2.2.2.1, v.2.2.2.2.1, lN (nv f (sp f n k) (min (den f (n - sp f n k) (sp f n k) - sp f n k) 6)), v.2.2.2.2.2.2), rfl, rfl, rZ0⟩
  rw [if_pos hu] at en ⊢
  refine vSp.eq (r_call en) ?_
  rw [r_if_f (by decide)]
  refine vSp.eq (r_getL up_s rfl) ?_
  have e6 : min (den f (n - sp f n k) (sp f n k) - sp f n k) 6 = den f (n - sp f n k) (sp f n k) - sp f n k := Nat.min_eq_left hu.2.1
  rw [e6]
  refine vSp.mono (w := (v.1, nI (den f (n - sp f n k) (sp f n k)), v.2.2.1, v.2.2.2.1, v.2.2.2.2.1, lN (nv f (sp f n k) (den f (n - sp f n k) (sp f n k) - sp f n k)), v.2.2.2.2.2.2)) ?_ rfl rfl rfl rfl rfl
  have h3 := h1.up (w := (v.1, nI (den f (n - sp f n k) (sp f n k)), v.2.2.1, v.2.2.2.1, v.2.2.2.2.1, lN (nv f (sp f n k) (den f (n - sp f n k) (sp f n k) - sp f n k)), v.2.2.2.2.2.2)) (k' := den f (n - sp f n k) (sp f n k)) h.2.2.1 rfl (by omega)
  exact s_ver_loop hN 2 N _ _ _ _ (by omega) (by omega) h3
end
