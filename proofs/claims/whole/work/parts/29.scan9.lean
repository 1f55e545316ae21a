/-! LAYER 2: the class's Scan: takeRange's loop -/
theorem r_letP {α σ : Type} {M : hM} {J : σ} {body : σ → hX α} {P : Option (α × hM) → Prop} (h : ∀ j, j = J → P ((body j).1 M)) : P ((b_let J body).1 M) := h J rfl
section
variable {N : Nat} {M : hM} {a p : Nat} {v : sV} {f : Nat → Int32} {n k : Nat}
theorem s_range_loop (hN : 2001 ≤ N) : ∀ (r fu q lo hi : Nat) (M : hM) (v : sV), r ≤ 2 → r < fu → sOk M a p v f n q → v.2.2.2.2.2.2.1 = lN lo → v.2.2.2.2.2.2.2 = lN hi → lo ≤ 10 ^ 18 → hi ≤ 10 ^ 18 → rSp M a p v ((f_Scan_takeRange_25 N a fu (nI (2 - r))).1 M) (rst f n r q lo hi) := by
  intro r
  induction r with
  | zero =>
    intro fu q lo hi M v _ hfu h hl hh bl bh
    obtain ⟨fu, rfl⟩ : ∃ z, fu = z + 1 := ⟨fu - 1, by omega⟩
    rw [e_Scan_takeRange_25]
    refine rSp.eq (r_let) ?_
    refine rSp.eq (r_let) ?_
    rw [r_if_t (show (2 : Int32) ≤ nI (2 - 0) by decide), rst]
    exact ⟨_, s_close h.1.1 h.2.2.2.1 hl hh bl bh⟩
  | succ r ih =>
    intro fu q lo hi M v hr hfu h hl hh bl bh
    obtain ⟨fu, rfl⟩ : ∃ z, fu = z + 1 := ⟨fu - 1, by omega⟩
    have h8 := h.2.1
    have hn2 : n ≤ 2000 := h.2.2.2.2.1
    have e2 : nI (2 - (r + 1)) + 1 = nI (2 - r) := by rw [nI_1, show 2 - (r + 1) + 1 = 2 - r by omega]
    have fin : ∀ (M : hM) (v : sV) (q : Nat) (c b : Int32), sOk M a p v f n q → v.2.2.2.2.2.2.1 = lN lo → v.2.2.2.2.2.2.2 = lN hi → rSp M a p v ((b_is a 8 (b_call (f_Scan_takeVersion N a) fun v3 => if v3 = 0 then b_retN .boolean 0 else b_is a 8 (b_call (f_Scan_narrow N a c b) fun _ => f_Scan_takeRange_25 N a fu (nI (2 - (r + 1)) + 1)))).1 M) (match verR f n q with
        | .inl w => .inl w
        | .inr (q', x) => rst f n r q' (nlo c b x lo) (nhi c b x hi)) := by
      intro M v q c b h hl hh
      refine rSp.eq (r_is h.1.1) ?_
      have ev := s_takeVersion hN h
      cases hv : verR f n q with
      | inl w =>
        rw [hv] at ev
        obtain ⟨u, e1, e3, e4⟩ := ev
        refine rSp.eq (r_call e4) ?_
        rw [r_if_t rfl]
        exact ⟨u, e1, e3, rZ0⟩
      | inr qx =>
        obtain ⟨q', x⟩ := qx
        rw [hv] at ev
        obtain ⟨g1, g2⟩ := verR_lt h8 h.2.2.2.2.2 hv
        have ev : _ = _ := ev
        refine rSp.eq (r_call ev) ?_
        rw [r_if_f (by decide)]
        refine rSp.eq (r_is up_s) ?_
        refine rSp.eq (r_call (s_narrow (lo := lo) (hi := hi) up_s rfl hl hh g2 bl bh)) ?_
        rw [up_up, e2]
        refine rSp.mono (w := (v.1, nI q', v.2.2.1, v.2.2.2.1, v.2.2.2.2.1, lN x, lN (nlo c b x lo), lN (nhi c b x hi))) ?_ rfl rfl rfl rfl
        exact ih fu q' _ _ _ _ (by omega) (by omega) (h.up h.2.2.1 rfl g1) rfl rfl (nlo_le g2 bl) (nhi_le bh)
    have hx1 : ¬ (2 : Int32) ≤ nI (2 - (r + 1)) := nI_ge (b := 2) (by omega) (by omega)
    rw [e_Scan_takeRange_25]
    refine r_letP (P := fun X => rSp M a p v X _) (fun J138 eJ138 => ?_)
    refine r_letP (P := fun X => rSp M a p v X _) (fun J70 eJ70 => ?_)
    show rSp M a p v _ _
    rw [r_if_f hx1]
    have hsn := sp_le (f := f) h.2.2.2.2.2
    have h1 := h.up (w := (v.1, nI (sp f n q), v.2.2)) h.2.2.1 rfl hsn
    refine rSp.eq (r_is h.1.1) ?_
    refine rSp.eq (r_call (s_sp hN h)) ?_
    refine rSp.mono (w := (v.1, nI (sp f n q), v.2.2)) ?_ rfl rfl rfl rfl
    refine rSp.eq (r_is h1.1.1) ?_
    refine rSp.eq (r_call (s_sg h1)) ?_
    have go : (sgn f n (sp f n q) = 61 ∨ sgn f n (sp f n q) = 60 ∨ sgn f n (sp f n q) = 62) → rSp (hm_up M a (scC p (v.1, nI (sp f n q), v.2.2))) a p (v.1, nI (sp f n q), v.2.2) ((J70 (nI (2 - (r + 1))) (sgn f n (sp f n q))).1 (hm_up M a (scC p (v.1, nI (sp f n q), v.2.2)))) (match verR f n (bq f n (sp f n q)) with
        | .inl w => .inl w
        | .inr (q', x) => rst f n r q' (nlo (sgn f n (sp f n q)) (bb f n (sp f n q)) x lo) (nhi (sgn f n (sp f n q)) (bb f n (sp f n q)) x hi)) := by
      intro hc
      have hs : sp f n q < n := by rcases hc with z | z | z <;> exact sgn_0 (by decide) z
      have h2 := h1.up (w := (v.1, nI (sp f n q) + 1, v.2.2)) (k' := sp f n q + 1) h.2.2.1 (nI_1 _) (by omega)
      rw [eJ70]
      refine r_letP (P := fun X => rSp _ a p _ X _) (fun J91 eJ91 => ?_)
      refine rSp.eq (r_getI up_s rfl) ?_
      refine rSp.eq (r_put up_s (Nat.le_of_ble_eq_true rfl)) ?_
      refine rSp.mono (w := (v.1, nI (sp f n q) + 1, v.2.2)) ?_ rfl rfl rfl rfl
      by_cases c61 : sgn f n (sp f n q) = 61
      · have eb : bb f n (sp f n q) = 1 := if_pos c61
        have eq : bq f n (sp f n q) = sp f n q + 1 := if_pos c61
        rw [r_if_t c61, eJ91, r_let, r_if_f (by decide), eb, eq]
        exact fin _ _ (sp f n q + 1) _ 1 h2 hl hh
      rw [r_if_f c61, eJ91, r_let, r_if_t rfl]
      refine rSp.eq (r_is h2.1.1) ?_
      refine rSp.eq (r_call (s_sg h2)) ?_
      by_cases d61 : sgn f n (sp f n q + 1) = 61
      · have eb : bb f n (sp f n q) = 1 := (if_neg c61).trans (if_pos d61)
        have eq : bq f n (sp f n q) = sp f n q + 2 := (if_neg c61).trans (if_pos d61)
        have hs2 : sp f n q + 1 < n := sgn_0 (by decide) d61
        have h3 := h2.up (w := (v.1, nI (sp f n q) + 1 + 1, v.2.2)) (k' := sp f n q + 2) h.2.2.1 (by show nI (sp f n q) + 1 + 1 = _; rw [nI_1, nI_1]) (by omega)
        rw [r_if_t d61, eb, eq]
        refine rSp.eq (r_getI up_s rfl) ?_
        refine rSp.eq (r_put up_s (Nat.le_of_ble_eq_true rfl)) ?_
        refine rSp.mono (w := (v.1, nI (sp f n q) + 1 + 1, v.2.2)) ?_ rfl rfl rfl rfl
        exact fin _ _ (sp f n q + 2) _ 1 h3 hl hh
      · have eb : bb f n (sp f n q) = 0 := (if_neg c61).trans (if_neg d61)
        have eq : bq f n (sp f n q) = sp f n q + 1 := (if_neg c61).trans (if_neg d61)
        rw [r_if_f d61, eb, eq]
        exact fin _ _ (sp f n q + 1) _ 0 h2 hl hh
    rw [rst]
    by_cases c1 : sgn f n (sp f n q) = 61
    · rw [r_if_t c1, if_pos (Or.inl c1)]; exact go (Or.inl c1)
    rw [r_if_f c1]
    by_cases c2 : sgn f n (sp f n q) = 60
    · rw [r_if_t c2, if_pos (Or.inr (Or.inl c2))]; exact go (Or.inr (Or.inl c2))
    rw [r_if_f c2]
    by_cases c3 : sgn f n (sp f n q) = 62
    · rw [r_if_t c3, if_pos (Or.inr (Or.inr c3))]; exact go (Or.inr (Or.inr c3))
    have hne : ¬ (sgn f n (sp f n q) = 61 ∨ sgn f n (sp f n q) = 60 ∨ sgn f n (sp f n q) = 62) := fun z => z.elim c1 (fun z => z.elim c2 c3)
    rw [r_if_f c3]
    by_cases r1 : r = 1
    · subst r1
      rw [r_if_t (show nI (2 - (1 + 1)) = 0 by decide), if_neg hne, if_pos rfl]
      refine ⟨(v.1, nI (sp f n q), nI (sp f n q), v.2.2.2), rfl, rfl, ?_⟩
      refine (r_getI up_s rfl).trans ?_
      refine (r_is up_s).trans ?_
      refine (r_call (s_refuse up_s)).trans ?_
      exact rZ0
    · obtain rfl : r = 0 := by omega
      rw [r_if_f (show ¬ nI (2 - (0 + 1)) = 0 by decide), if_neg hne, if_neg r1, eJ138]
      exact ⟨_, s_close h1.1.1 rfl hl hh bl bh⟩
end
