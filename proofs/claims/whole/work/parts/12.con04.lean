set_option maxHeartbeats 4000000 in
set_option maxRecDepth 100000 in
theorem c_Pack_hasFeature (l : Launch) {D : va_G} {dA : Nat → ClassId} {aK aV : Nat → Nat} {z : Nat} {N : Nat} {h0 : Nat} {p0 : Option Nat} {M : hM} {Z : Int32 × hM} (hf : (f_Pack_hasFeature N h0 p0).1 M = some Z) : Met l y_Pack_hasFeature w_Pack_hasFeature ({ frames := 3, cells := Z.2.2.1 - M.2.1, slots := Z.2.2.2 - M.2.2, locals := 70 }) (va_Pc [.ref h0, va_rf p0] (hm_B D dA hCl (hTy dA) sT aK aV z M)) (hm_Q D dA hCl (hTy dA) sT aK aV z (some (.int Z.1)) Z.2) (Z.2.2.1 - M.2.1) (Z.2.2.2 - M.2.2) (fun q => z ≤ q) := by
  refine Met.ofW (cc := b_Pack_hasFeature) (maxL := 2) (ret := (some .boolean)) (by decide) rfl ?_
  intro p e s m args below meth c s₁ B hml hv
  obtain ⟨hav, hB⟩ := hv
  have S : CallFix p m c b_Pack_hasFeature 2 s args w_Pack_hasFeature R_Pack := ⟨B.exec, B.bytes, hml, findClass_of_methodNamed B.named, atoms_spec (ws := w_Pack_hasFeature) B.pre⟩
  have hr : meth.sig.returnType = (some .boolean) := B.returns
  have hlocks := B.notSynchronized
  have hK := hB.2.2.1
  have hG := hB.2.2.2.2.2
  have hI := hm_I.start hB
  rw [← hB.2.1]
  generalize M.2.2 = k1 at hI ⊢
  refine W.eq (g2 := F0 m 0 ((lg_sl ([.ref h0, va_rf p0]) ++ List.replicate (2 - (lg_sl ([.ref h0, va_rf p0])).length) Slot.unset).toArray) []) (by rw [hav]; exact lg_entry_eq m ([.ref h0, va_rf p0]) 2) ?_
  have hl := lv_entry ([.ref h0, va_rf p0]) (n := 2) (by cases p0 <;> exact Nat.le_of_ble_eq_true rfl)
  generalize (lg_sl ([.ref h0, va_rf p0]) ++ List.replicate (2 - (lg_sl ([.ref h0, va_rf p0])).length) Slot.unset).toArray = ls at hl ⊢
  simp only [lvA_nil, lvA_i, lvA_l, lvA_a, lvA_r, Nat.zero_add, Nat.reduceAdd] at hl
  have hret : ∀ (v : Int32) (M : hM) (H : Heap) (locs : List Loc) (cells slots : Nat) (ls : Array Slot) (pc : Nat), decode b_Pack_hasFeature pc = .ok (.ireturn, 1) → (b_retN .boolean v).1 M = some Z → hm_I D dA hCl z k1 s M H locs cells slots → W p l e (headSpec w_Pack_hasFeature { frames := 3, cells := Z.2.2.1 - s.heap.size, slots := Z.2.2.2 - k1, locals := 70 }).room s m args below meth c H locs cells slots (MQ below (hm_Q D dA hCl (hTy dA) sT aK aV z (some (.int Z.1)) Z.2) args s (Z.2.2.1 - s.heap.size) (Z.2.2.2 - k1) (fun q => z ≤ q)) (F0 m pc ls [.int v]) := fun v M H locs cells slots ls pc hdg hf hI => x_retn S hK hG hI hr hlocks hdg hf
  have hR : Z.2.2.1 - s.heap.size ≤ (headSpec w_Pack_hasFeature { frames := 3, cells := Z.2.2.1 - s.heap.size, slots := Z.2.2.2 - k1, locals := 70 }).room.cells ∧ Z.2.2.2 - k1 ≤ (headSpec w_Pack_hasFeature { frames := 3, cells := Z.2.2.1 - s.heap.size, slots := Z.2.2.2 - k1, locals := 70 }).room.slots := ⟨Nat.le_refl _, Nat.le_refl _⟩
  have hRf : 3 ≤ (headSpec w_Pack_hasFeature { frames := 3, cells := Z.2.2.1 - s.heap.size, slots := Z.2.2.2 - k1, locals := 70 }).room.frames ∧ 70 ≤ (headSpec w_Pack_hasFeature { frames := 3, cells := Z.2.2.1 - s.heap.size, slots := Z.2.2.2 - k1, locals := 70 }).room.locals := ⟨Nat.le_refl _, Nat.le_refl _⟩
  generalize (headSpec w_Pack_hasFeature { frames := 3, cells := Z.2.2.1 - s.heap.size, slots := Z.2.2.2 - k1, locals := 70 }).room = R at hret hR hRf ⊢
  generalize (MQ below (hm_Q D dA hCl (hTy dA) sT aK aV z (some (.int Z.1)) Z.2) args s (Z.2.2.1 - s.heap.size) (Z.2.2.2 - k1) (fun q => z ≤ q)) = Q at hret ⊢
  rw [e_Pack_hasFeature] at hf
  refine x_aload_n (r := p0) S d_Pack_hasFeature_0 rfl (lv_at hl 1 rfl) ?_
  refine lv_aload_n S.1 S.2.1 d_Pack_hasFeature_1 rfl (lv_at hl 0 rfl) ?_
  refine x_getR (ci := 3) (k := 2) S hK hI (fun w h => List.mem_cons_of_mem _ (i_Pack w h)) rfl (by decide) (List.mem_cons_of_mem _ wd_277) rfl d_Pack_hasFeature_2 hf (fun r1 hf => ?_)
  refine lv_aload_n S.1 S.2.1 d_Pack_hasFeature_5 rfl (lv_at hl 0 rfl) ?_
  refine x_getR (ci := 3) (k := 2) S hK hI (fun w h => List.mem_cons_of_mem _ (i_Pack w h)) rfl (by decide) (List.mem_cons_of_mem _ wd_277) rfl d_Pack_hasFeature_6 hf (fun r2 hf => ?_)
  obtain ⟨a3, ea3, hg⟩ := b_nn_inv hf
  have hI0 := hI
  have hl0 := hl
  clear hf hI hl
  subst ea3
  have hf := hg
  have hI := hI0
  have hl := hl0
  clear hg hI0 hl0
  refine x_len (t := 3) S hK hI rfl d_Pack_hasFeature_9 hf (fun v4 hf => ?_)
  obtain ⟨a5, ea5, hg⟩ := b_nn_inv hf
  have hI0 := hI
  have hl0 := hl
  clear hf hI hl
  subst ea5
  have hf := hg
  have hI := hI0
  have hl := hl0
  clear hg hI0 hl0
  obtain ⟨⟨fs9, hefs9⟩, hf⟩ := b_is_inv hf
  obtain ⟨v6, N7, hg8, hf⟩ := b_call_inv hf
  refine x_call hI (hm_mo hg8) (va_runV (As := [va_rf r1, .int v4]) (rest := []) S (c_Name_foldsLikeOneOf l hg8) (cwV 2 S.2.2.2.2 (gi_V wd_292 wd_78 wd_79 wd_75 wd_80) rfl rfl rfl (by decide +kernel) ⟨Nat.le_trans (Nat.le_of_ble_eq_true rfl) hRf.1, Nat.le_trans (Nat.le_of_ble_eq_true rfl) hRf.2⟩) ⟨hm_B.blind, va_recv hK (hI.1.one hefs9) (ci := 2) (q0 := 0) rfl rfl, fun U hU hW => ⟨rfl, hm_B.of hK hG hI hU hW⟩⟩ rfl rfl hl.1 rfl (lv_room (Nat.le_of_ble_eq_true rfl)) d_Pack_hasFeature_10 (hx_fit hI hR (hm_mo hg8) (hm_mo hf))) (fun H locs cells slots hI => ?_)
  refine W.eq (g2 := F0 m 13 ls [.int v6]) rfl ?_
  exact hret _ _ _ _ _ _ _ _ d_Pack_hasFeature_13 hf hI
set_option maxHeartbeats 4000000 in
set_option maxRecDepth 100000 in
theorem c_Name_foldsLike (l : Launch) {D : va_G} {dA : Nat → ClassId} {aK aV : Nat → Nat} {z : Nat} {N : Nat} {h0 : Nat} {p0 : Option Nat} {M : hM} {Z : Int32 × hM} (hf : (f_Name_foldsLike N h0 p0).1 M = some Z) : Met l y_Name_foldsLike w_Name_foldsLike ({ frames := 2, cells := Z.2.2.1 - M.2.1, slots := Z.2.2.2 - M.2.2, locals := 47 }) (va_Pc [.ref h0, va_rf p0] (hm_B D dA hCl (hTy dA) sT aK aV z M)) (hm_Q D dA hCl (hTy dA) sT aK aV z (some (.int Z.1)) Z.2) (Z.2.2.1 - M.2.1) (Z.2.2.2 - M.2.2) (fun q => z ≤ q) := by
  refine Met.ofW (cc := b_Name_foldsLike) (maxL := 2) (ret := (some .boolean)) (by decide) rfl ?_
  intro p e s m args below meth c s₁ B hml hv
  obtain ⟨hav, hB⟩ := hv
  have S : CallFix p m c b_Name_foldsLike 2 s args w_Name_foldsLike R_Name := ⟨B.exec, B.bytes, hml, findClass_of_methodNamed B.named, atoms_spec (ws := w_Name_foldsLike) B.pre⟩
  have hr : meth.sig.returnType = (some .boolean) := B.returns
  have hlocks := B.notSynchronized
  have hK := hB.2.2.1
  have hG := hB.2.2.2.2.2
  have hI := hm_I.start hB
  rw [← hB.2.1]
  generalize M.2.2 = k1 at hI ⊢
  refine W.eq (g2 := F0 m 0 ((lg_sl ([.ref h0, va_rf p0]) ++ List.replicate (2 - (lg_sl ([.ref h0, va_rf p0])).length) Slot.unset).toArray) []) (by rw [hav]; exact lg_entry_eq m ([.ref h0, va_rf p0]) 2) ?_
  have hl := lv_entry ([.ref h0, va_rf p0]) (n := 2) (by cases p0 <;> exact Nat.le_of_ble_eq_true rfl)
  generalize (lg_sl ([.ref h0, va_rf p0]) ++ List.replicate (2 - (lg_sl ([.ref h0, va_rf p0])).length) Slot.unset).toArray = ls at hl ⊢
  simp only [lvA_nil, lvA_i, lvA_l, lvA_a, lvA_r, Nat.zero_add, Nat.reduceAdd] at hl
  have hret : ∀ (v : Int32) (M : hM) (H : Heap) (locs : List Loc) (cells slots : Nat) (ls : Array Slot) (pc : Nat), decode b_Name_foldsLike pc = .ok (.ireturn, 1) → (b_retN .boolean v).1 M = some Z → hm_I D dA hCl z k1 s M H locs cells slots → W p l e (headSpec w_Name_foldsLike { frames := 2, cells := Z.2.2.1 - s.heap.size, slots := Z.2.2.2 - k1, locals := 47 }).room s m args below meth c H locs cells slots (MQ below (hm_Q D dA hCl (hTy dA) sT aK aV z (some (.int Z.1)) Z.2) args s (Z.2.2.1 - s.heap.size) (Z.2.2.2 - k1) (fun q => z ≤ q)) (F0 m pc ls [.int v]) := fun v M H locs cells slots ls pc hdg hf hI => x_retn S hK hG hI hr hlocks hdg hf
  have hR : Z.2.2.1 - s.heap.size ≤ (headSpec w_Name_foldsLike { frames := 2, cells := Z.2.2.1 - s.heap.size, slots := Z.2.2.2 - k1, locals := 47 }).room.cells ∧ Z.2.2.2 - k1 ≤ (headSpec w_Name_foldsLike { frames := 2, cells := Z.2.2.1 - s.heap.size, slots := Z.2.2.2 - k1, locals := 47 }).room.slots := ⟨Nat.le_refl _, Nat.le_refl _⟩
  have hRf : 2 ≤ (headSpec w_Name_foldsLike { frames := 2, cells := Z.2.2.1 - s.heap.size, slots := Z.2.2.2 - k1, locals := 47 }).room.frames ∧ 47 ≤ (headSpec w_Name_foldsLike { frames := 2, cells := Z.2.2.1 - s.heap.size, slots := Z.2.2.2 - k1, locals := 47 }).room.locals := ⟨Nat.le_refl _, Nat.le_refl _⟩
  generalize (headSpec w_Name_foldsLike { frames := 2, cells := Z.2.2.1 - s.heap.size, slots := Z.2.2.2 - k1, locals := 47 }).room = R at hret hR hRf ⊢
  generalize (MQ below (hm_Q D dA hCl (hTy dA) sT aK aV z (some (.int Z.1)) Z.2) args s (Z.2.2.1 - s.heap.size) (Z.2.2.2 - k1) (fun q => z ≤ q)) = Q at hret ⊢
  rw [e_Name_foldsLike] at hf
  obtain ⟨J13, eJ13, hf⟩ := b_let_inv hf
  have w13 : ∀ (y0 : Int32) (M : hM) (H : Heap) (locs : List Loc) (ls : Array Slot) (cells slots : Nat), (J13 y0).1 M = some Z → hm_I D dA hCl z k1 s M H locs cells slots → lv_has ls 2 [] → W p l e R s m args below meth c H locs cells slots Q (F0 m 13 ls [.int y0]) := by
    intro y0 M H locs ls cells slots hf hI hl
    rw [eJ13] at hf
    exact hret _ _ _ _ _ _ _ _ d_Name_foldsLike_13 hf hI
  refine lv_aload_n S.1 S.2.1 d_Name_foldsLike_0 rfl (lv_at hl 0 rfl) ?_
  refine x_aload_n (r := p0) S d_Name_foldsLike_1 rfl (lv_at hl 1 rfl) ?_
  obtain ⟨⟨fs4, hefs4⟩, hf⟩ := b_is_inv hf
  obtain ⟨v1, N2, hg3, hf⟩ := b_call_inv hf
  refine x_call hI (hm_mo hg3) (va_runV (As := [va_rf p0]) (rest := []) S (c_Name_order l hg3) (cwV 1 S.2.2.2.2 (gi_V wd_72 wd_73 wd_74 wd_75 wd_76) rfl rfl rfl (by decide +kernel) ⟨Nat.le_trans (Nat.le_of_ble_eq_true rfl) hRf.1, Nat.le_trans (Nat.le_of_ble_eq_true rfl) hRf.2⟩) ⟨hm_B.blind, va_recv hK (hI.1.one hefs4) (ci := 2) (q0 := 0) rfl rfl, fun U hU hW => ⟨rfl, hm_B.of hK hG hI hU hW⟩⟩ rfl rfl hl.1 rfl (lv_room (Nat.le_of_ble_eq_true rfl)) d_Name_foldsLike_2 (hx_fit hI hR (hm_mo hg3) (hm_mo hf))) (fun H locs cells slots hI => ?_)
  refine W.eq (g2 := F0 m 5 ls [.int v1]) rfl ?_
  refine lv_if_ne (tgt := 12) S.1 S.2.1 d_Name_foldsLike_5 (by decide) (fun hc => ?_) (fun hc => ?_)
  · have hf := b_if_f hc hf
    refine lv_iconst (v := 0) S.1 S.2.1 d_Name_foldsLike_12 (by decide) ?_
    exact w13 0 _ _ _ _ _ _ hf hI (lv_sub hl [] rfl)
  · have hf := b_if_t hc hf
    refine lv_iconst (v := 1) S.1 S.2.1 d_Name_foldsLike_8 (by decide) ?_
    refine lv_goto (tgt := 13) S.1 S.2.1 d_Name_foldsLike_9 (by decide) ?_
    exact w13 1 _ _ _ _ _ _ hf hI (lv_sub hl [] rfl)
set_option maxHeartbeats 4000000 in
set_option maxRecDepth 100000 in
theorem c_Pack_hasOptionalNeed (l : Launch) {D : va_G} {dA : Nat → ClassId} {aK aV : Nat → Nat} {z : Nat} {N : Nat} {h0 : Nat} {p0 : Option Nat} {M : hM} {Z : Int32 × hM} (hf : (f_Pack_hasOptionalNeed N h0 p0).1 M = some Z) : Met l y_Pack_hasOptionalNeed w_Pack_hasOptionalNeed ({ frames := 3, cells := Z.2.2.1 - M.2.1, slots := Z.2.2.2 - M.2.2, locals := 68 }) (va_Pc [.ref h0, va_rf p0] (hm_B D dA hCl (hTy dA) sT aK aV z M)) (hm_Q D dA hCl (hTy dA) sT aK aV z (some (.int Z.1)) Z.2) (Z.2.2.1 - M.2.1) (Z.2.2.2 - M.2.2) (fun q => z ≤ q) := by
  refine Met.ofW (cc := b_Pack_hasOptionalNeed) (maxL := 3) (ret := (some .boolean)) (by decide) rfl ?_
  intro p e s m args below meth c s₁ B hml hv
  obtain ⟨hav, hB⟩ := hv
  have S : CallFix p m c b_Pack_hasOptionalNeed 3 s args w_Pack_hasOptionalNeed R_Pack := ⟨B.exec, B.bytes, hml, findClass_of_methodNamed B.named, atoms_spec (ws := w_Pack_hasOptionalNeed) B.pre⟩
  have hr : meth.sig.returnType = (some .boolean) := B.returns
  have hlocks := B.notSynchronized
  have hK := hB.2.2.1
  have hG := hB.2.2.2.2.2
  have hI := hm_I.start hB
  rw [← hB.2.1]
  generalize M.2.2 = k1 at hI ⊢
  refine W.eq (g2 := F0 m 0 ((lg_sl ([.ref h0, va_rf p0]) ++ List.replicate (3 - (lg_sl ([.ref h0, va_rf p0])).length) Slot.unset).toArray) []) (by rw [hav]; exact lg_entry_eq m ([.ref h0, va_rf p0]) 3) ?_
  have hl := lv_entry ([.ref h0, va_rf p0]) (n := 3) (by cases p0 <;> exact Nat.le_of_ble_eq_true rfl)
  generalize (lg_sl ([.ref h0, va_rf p0]) ++ List.replicate (3 - (lg_sl ([.ref h0, va_rf p0])).length) Slot.unset).toArray = ls at hl ⊢
  simp only [lvA_nil, lvA_i, lvA_l, lvA_a, lvA_r, Nat.zero_add, Nat.reduceAdd] at hl
  have hret : ∀ (v : Int32) (M : hM) (H : Heap) (locs : List Loc) (cells slots : Nat) (ls : Array Slot) (pc : Nat), decode b_Pack_hasOptionalNeed pc = .ok (.ireturn, 1) → (b_retN .boolean v).1 M = some Z → hm_I D dA hCl z k1 s M H locs cells slots → W p l e (headSpec w_Pack_hasOptionalNeed { frames := 3, cells := Z.2.2.1 - s.heap.size, slots := Z.2.2.2 - k1, locals := 68 }).room s m args below meth c H locs cells slots (MQ below (hm_Q D dA hCl (hTy dA) sT aK aV z (some (.int Z.1)) Z.2) args s (Z.2.2.1 - s.heap.size) (Z.2.2.2 - k1) (fun q => z ≤ q)) (F0 m pc ls [.int v]) := fun v M H locs cells slots ls pc hdg hf hI => x_retn S hK hG hI hr hlocks hdg hf
  have hR : Z.2.2.1 - s.heap.size ≤ (headSpec w_Pack_hasOptionalNeed { frames := 3, cells := Z.2.2.1 - s.heap.size, slots := Z.2.2.2 - k1, locals := 68 }).room.cells ∧ Z.2.2.2 - k1 ≤ (headSpec w_Pack_hasOptionalNeed { frames := 3, cells := Z.2.2.1 - s.heap.size, slots := Z.2.2.2 - k1, locals := 68 }).room.slots := ⟨Nat.le_refl _, Nat.le_refl _⟩
  have hRf : 3 ≤ (headSpec w_Pack_hasOptionalNeed { frames := 3, cells := Z.2.2.1 - s.heap.size, slots := Z.2.2.2 - k1, locals := 68 }).room.frames ∧ 68 ≤ (headSpec w_Pack_hasOptionalNeed { frames := 3, cells := Z.2.2.1 - s.heap.size, slots := Z.2.2.2 - k1, locals := 68 }).room.locals := ⟨Nat.le_refl _, Nat.le_refl _⟩
  generalize (headSpec w_Pack_hasOptionalNeed { frames := 3, cells := Z.2.2.1 - s.heap.size, slots := Z.2.2.2 - k1, locals := 68 }).room = R at hret hR hRf ⊢
  generalize (MQ below (hm_Q D dA hCl (hTy dA) sT aK aV z (some (.int Z.1)) Z.2) args s (Z.2.2.1 - s.heap.size) (Z.2.2.2 - k1) (fun q => z ≤ q)) = Q at hret ⊢
  rw [e_Pack_hasOptionalNeed] at hf
  have w2 : ∀ (n : Nat) (x2 : Int32) (M : hM) (H : Heap) (locs : List Loc) (ls : Array Slot) (cells slots : Nat), (f_Pack_hasOptionalNeed_2 N h0 p0  n x2).1 M = some Z → hm_I D dA hCl z k1 s M H locs cells slots → lv_has ls 3 [(0, .ref h0), (1, va_rf p0), (2, .int x2)] → W p l e R s m args below meth c H locs cells slots Q (F0 m 2 ls []) := by
    intro n
    induction n with
    | zero => intro x2 M H locs ls cells slots hf hI hl; cases hf
    | succ n2 ih2 =>
      intro x2 M H locs ls cells slots hf hI hl
      rw [e_Pack_hasOptionalNeed_2] at hf
      obtain ⟨J42, eJ42, hf⟩ := b_let_inv hf
      have w42 : ∀ (x2 : Int32) (M : hM) (H : Heap) (locs : List Loc) (ls : Array Slot) (cells slots : Nat), (J42 x2).1 M = some Z → hm_I D dA hCl z k1 s M H locs cells slots → lv_has ls 3 [(0, .ref h0), (1, va_rf p0), (2, .int x2)] → W p l e R s m args below meth c H locs cells slots Q (F0 m 42 ls []) := by
        intro x2 M H locs ls cells slots hf hI hl
        rw [eJ42] at hf
        refine x_iinc (v := 1) (lv2 := [(0, .ref h0), (1, va_rf p0)]) S d_Pack_hasOptionalNeed_42 hl 2 rfl (by decide) (by decide) [0, 1] rfl ⟨⟨(by decide : (0 : Nat) ≠ 2), fun h => absurd (show (0 : Nat) + 1 = 2 from h) (by decide)⟩, ⟨⟨(by decide : (1 : Nat) ≠ 2), fun _ => rf_cat _⟩, trivial⟩⟩ (fun ls hl => ?_)
        refine lv_goto (tgt := 2) S.1 S.2.1 d_Pack_hasOptionalNeed_45 (by decide) ?_
        exact ih2 (x2 + 1) _ _ _ _ _ _ hf hI (lv_sub hl [1, 2, 0] rfl)
      refine lv_iload_n S.1 S.2.1 d_Pack_hasOptionalNeed_2 rfl (lv_at hl 2 rfl) ?_
      refine lv_aload_n S.1 S.2.1 d_Pack_hasOptionalNeed_3 rfl (lv_at hl 0 rfl) ?_
      refine x_getR (ci := 3) (k := 3) S hK hI (fun w h => List.mem_cons_of_mem _ (i_Pack w h)) rfl (by decide) (List.mem_cons_of_mem _ wd_278) rfl d_Pack_hasOptionalNeed_4 hf (fun r1 hf => ?_)
      obtain ⟨a2, ea2, hg⟩ := b_nn_inv hf
      have hI0 := hI
      have hl0 := hl
      clear hf hI hl
      subst ea2
      have hf := hg
      have hI := hI0
      have hl := hl0
      clear hg hI0 hl0
      refine x_len (t := 1) S hK hI rfl d_Pack_hasOptionalNeed_7 hf (fun v3 hf => ?_)
      refine lv_icmp_ge (tgt := 48) S.1 S.2.1 d_Pack_hasOptionalNeed_8 (by decide) (fun hc => ?_) (fun hc => ?_)
      · have hf := b_if_t hc hf
        refine lv_iconst (v := 0) S.1 S.2.1 d_Pack_hasOptionalNeed_48 (by decide) ?_
        exact hret _ _ _ _ _ _ _ _ d_Pack_hasOptionalNeed_49 hf hI
      · have hf := b_if_f hc hf
        refine lv_aload_n S.1 S.2.1 d_Pack_hasOptionalNeed_11 rfl (lv_at hl 0 rfl) ?_
        refine x_getR (ci := 3) (k := 3) S hK hI (fun w h => List.mem_cons_of_mem _ (i_Pack w h)) rfl (by decide) (List.mem_cons_of_mem _ wd_278) rfl d_Pack_hasOptionalNeed_12 hf (fun r4 hf => ?_)
        refine lv_iload_n S.1 S.2.1 d_Pack_hasOptionalNeed_15 rfl (lv_at hl 2 rfl) ?_
        obtain ⟨a5, ea5, hg⟩ := b_nn_inv hf
        have hI0 := hI
        have hl0 := hl
        clear hf hI hl
        subst ea5
        have hf := hg
        have hI := hI0
        have hl := hl0
        clear hg hI0 hl0
        refine x_aald (t := 1) S hK hI rfl d_Pack_hasOptionalNeed_16 hf (fun r6 hf => ?_)
        obtain ⟨a7, ea7, hg⟩ := b_nn_inv hf
        have hI0 := hI
        have hl0 := hl
        clear hf hI hl
        subst ea7
        have hf := hg
        have hI := hI0
        have hl := hl0
        clear hg hI0 hl0
        refine x_getI (ci := 7) (k := 0) S hK hI (fun w h => List.mem_cons_of_mem _ (i_Row w h)) rfl (by decide) (List.mem_cons_of_mem _ wd_290) rfl d_Pack_hasOptionalNeed_17 hf (fun v8 hf => ?_)
        refine lv_iconst (v := 3) S.1 S.2.1 d_Pack_hasOptionalNeed_20 (by decide) ?_
        refine lv_icmp_ne (tgt := 42) S.1 S.2.1 d_Pack_hasOptionalNeed_21 (by decide) (fun hc => ?_) (fun hc => ?_)
        · have hf := b_if_f hc hf
          exact w42 x2 _ _ _ _ _ _ hf hI (lv_sub hl [0, 1, 2] rfl)
        · have hf := b_if_t hc hf
          refine lv_aload_n S.1 S.2.1 d_Pack_hasOptionalNeed_24 rfl (lv_at hl 0 rfl) ?_
          refine x_getR (ci := 3) (k := 3) S hK hI (fun w h => List.mem_cons_of_mem _ (i_Pack w h)) rfl (by decide) (List.mem_cons_of_mem _ wd_278) rfl d_Pack_hasOptionalNeed_25 hf (fun r9 hf => ?_)
          refine lv_iload_n S.1 S.2.1 d_Pack_hasOptionalNeed_28 rfl (lv_at hl 2 rfl) ?_
          obtain ⟨a10, ea10, hg⟩ := b_nn_inv hf
          have hI0 := hI
          have hl0 := hl
          clear hf hI hl
          subst ea10
          have hf := hg
          have hI := hI0
          have hl := hl0
          clear hg hI0 hl0
          refine x_aald (t := 1) S hK hI rfl d_Pack_hasOptionalNeed_29 hf (fun r11 hf => ?_)
          obtain ⟨a12, ea12, hg⟩ := b_nn_inv hf
          have hI0 := hI
          have hl0 := hl
          clear hf hI hl
          subst ea12
          have hf := hg
          have hI := hI0
          have hl := hl0
          clear hg hI0 hl0
          refine x_getR (ci := 7) (k := 2) S hK hI (fun w h => List.mem_cons_of_mem _ (i_Row w h)) rfl (by decide) (List.mem_cons_of_mem _ wd_291) rfl d_Pack_hasOptionalNeed_30 hf (fun r13 hf => ?_)
          refine x_aload_n (r := p0) S d_Pack_hasOptionalNeed_33 rfl (lv_at hl 1 rfl) ?_
          obtain ⟨a14, ea14, hg⟩ := b_nn_inv hf
          have hI0 := hI
          have hl0 := hl
          clear hf hI hl
          subst ea14
          have hf := hg
          have hI := hI0
          have hl := hl0
          clear hg hI0 hl0
          obtain ⟨⟨fs18, hefs18⟩, hf⟩ := b_is_inv hf
          obtain ⟨v15, N16, hg17, hf⟩ := b_call_inv hf
          refine x_call hI (hm_mo hg17) (va_runV (As := [va_rf p0]) (rest := []) S (c_Name_foldsLike l hg17) (cwV 1 S.2.2.2.2 (gi_V wd_297 wd_298 wd_299 wd_75 wd_300) rfl rfl rfl (by decide +kernel) ⟨Nat.le_trans (Nat.le_of_ble_eq_true rfl) hRf.1, Nat.le_trans (Nat.le_of_ble_eq_true rfl) hRf.2⟩) ⟨hm_B.blind, va_recv hK (hI.1.one hefs18) (ci := 2) (q0 := 0) rfl rfl, fun U hU hW => ⟨rfl, hm_B.of hK hG hI hU hW⟩⟩ rfl rfl hl.1 rfl (lv_room (Nat.le_of_ble_eq_true rfl)) d_Pack_hasOptionalNeed_34 (hx_fit hI hR (hm_mo hg17) (hm_mo hf))) (fun H locs cells slots hI => ?_)
          refine W.eq (g2 := F0 m 37 ls [.int v15]) rfl ?_
          refine lv_if_eq (tgt := 42) S.1 S.2.1 d_Pack_hasOptionalNeed_37 (by decide) (fun hc => ?_) (fun hc => ?_)
          · have hf := b_if_t hc hf
            exact w42 x2 _ _ _ _ _ _ hf hI (lv_sub hl [0, 1, 2] rfl)
          · have hf := b_if_f hc hf
            refine lv_iconst (v := 1) S.1 S.2.1 d_Pack_hasOptionalNeed_40 (by decide) ?_
            exact hret _ _ _ _ _ _ _ _ d_Pack_hasOptionalNeed_41 hf hI
  refine lv_iconst (v := 0) S.1 S.2.1 d_Pack_hasOptionalNeed_0 (by decide) ?_
  refine x_istore_n (lv2 := [(0, .ref h0), (1, va_rf p0)]) S d_Pack_hasOptionalNeed_1 rfl hl (by decide) [0, 1] rfl ⟨⟨(by decide : (0 : Nat) ≠ 2), fun h => absurd (show (0 : Nat) + 1 = 2 from h) (by decide)⟩, ⟨⟨(by decide : (1 : Nat) ≠ 2), fun _ => rf_cat _⟩, trivial⟩⟩ (fun ls hl => ?_)
  exact w2 N 0 _ _ _ _ _ _ hf hI (lv_sub hl [1, 2, 0] rfl)
set_option maxHeartbeats 4000000 in
set_option maxRecDepth 100000 in
theorem c_Kind_isNeed (l : Launch) {D : va_G} {dA : Nat → ClassId} {aK aV : Nat → Nat} {z : Nat} {N : Nat} {p0 : Int32} {M : hM} {Z : Int32 × hM} (hf : (f_Kind_isNeed N p0).1 M = some Z) : Met l y_Kind_isNeed w_Kind_isNeed ({ frames := 0, cells := Z.2.2.1 - M.2.1, slots := Z.2.2.2 - M.2.2, locals := 0 }) (va_Pc [.int p0] (hm_B D dA hCl (hTy dA) sT aK aV z M)) (hm_Q D dA hCl (hTy dA) sT aK aV z (some (.int Z.1)) Z.2) (Z.2.2.1 - M.2.1) (Z.2.2.2 - M.2.2) (fun q => z ≤ q) := by
  refine Met.ofW (cc := b_Kind_isNeed) (maxL := 1) (ret := (some .boolean)) (by decide) rfl ?_
  intro p e s m args below meth c s₁ B hml hv
  obtain ⟨hav, hB⟩ := hv
  have S : CallFix p m c b_Kind_isNeed 1 s args w_Kind_isNeed R_Kind := ⟨B.exec, B.bytes, hml, findClass_of_methodNamed B.named, atoms_spec (ws := w_Kind_isNeed) B.pre⟩
  have hr : meth.sig.returnType = (some .boolean) := B.returns
  have hlocks := B.notSynchronized
  have hK := hB.2.2.1
  have hG := hB.2.2.2.2.2
  have hI := hm_I.start hB
  rw [← hB.2.1]
  generalize M.2.2 = k1 at hI ⊢
  refine W.eq (g2 := F0 m 0 ((lg_sl ([.int p0]) ++ List.replicate (1 - (lg_sl ([.int p0])).length) Slot.unset).toArray) []) (by rw [hav]; exact lg_entry_eq m ([.int p0]) 1) ?_
  have hl := lv_entry ([.int p0]) (n := 1) (Nat.le_of_ble_eq_true rfl)
  generalize (lg_sl ([.int p0]) ++ List.replicate (1 - (lg_sl ([.int p0])).length) Slot.unset).toArray = ls at hl ⊢
  simp only [lvA_nil, lvA_i, lvA_l, lvA_a, lvA_r, Nat.zero_add, Nat.reduceAdd] at hl
  have hret : ∀ (v : Int32) (M : hM) (H : Heap) (locs : List Loc) (cells slots : Nat) (ls : Array Slot) (pc : Nat), decode b_Kind_isNeed pc = .ok (.ireturn, 1) → (b_retN .boolean v).1 M = some Z → hm_I D dA hCl z k1 s M H locs cells slots → W p l e (headSpec w_Kind_isNeed { frames := 0, cells := Z.2.2.1 - s.heap.size, slots := Z.2.2.2 - k1, locals := 0 }).room s m args below meth c H locs cells slots (MQ below (hm_Q D dA hCl (hTy dA) sT aK aV z (some (.int Z.1)) Z.2) args s (Z.2.2.1 - s.heap.size) (Z.2.2.2 - k1) (fun q => z ≤ q)) (F0 m pc ls [.int v]) := fun v M H locs cells slots ls pc hdg hf hI => x_retn S hK hG hI hr hlocks hdg hf
  have hR : Z.2.2.1 - s.heap.size ≤ (headSpec w_Kind_isNeed { frames := 0, cells := Z.2.2.1 - s.heap.size, slots := Z.2.2.2 - k1, locals := 0 }).room.cells ∧ Z.2.2.2 - k1 ≤ (headSpec w_Kind_isNeed { frames := 0, cells := Z.2.2.1 - s.heap.size, slots := Z.2.2.2 - k1, locals := 0 }).room.slots := ⟨Nat.le_refl _, Nat.le_refl _⟩
  have hRf : 0 ≤ (headSpec w_Kind_isNeed { frames := 0, cells := Z.2.2.1 - s.heap.size, slots := Z.2.2.2 - k1, locals := 0 }).room.frames ∧ 0 ≤ (headSpec w_Kind_isNeed { frames := 0, cells := Z.2.2.1 - s.heap.size, slots := Z.2.2.2 - k1, locals := 0 }).room.locals := ⟨Nat.le_refl _, Nat.le_refl _⟩
  generalize (headSpec w_Kind_isNeed { frames := 0, cells := Z.2.2.1 - s.heap.size, slots := Z.2.2.2 - k1, locals := 0 }).room = R at hret hR hRf ⊢
  generalize (MQ below (hm_Q D dA hCl (hTy dA) sT aK aV z (some (.int Z.1)) Z.2) args s (Z.2.2.1 - s.heap.size) (Z.2.2.2 - k1) (fun q => z ≤ q)) = Q at hret ⊢
  rw [e_Kind_isNeed] at hf
  obtain ⟨J10, eJ10, hf⟩ := b_let_inv hf
  have w10 : ∀ (y0 : Int32) (M : hM) (H : Heap) (locs : List Loc) (ls : Array Slot) (cells slots : Nat), (J10 y0).1 M = some Z → hm_I D dA hCl z k1 s M H locs cells slots → lv_has ls 1 [] → W p l e R s m args below meth c H locs cells slots Q (F0 m 10 ls [.int y0]) := by
    intro y0 M H locs ls cells slots hf hI hl
    rw [eJ10] at hf
    exact hret _ _ _ _ _ _ _ _ d_Kind_isNeed_10 hf hI
  refine lv_iload_n S.1 S.2.1 d_Kind_isNeed_0 rfl (lv_at hl 0 rfl) ?_
  refine lv_iconst (v := 4) S.1 S.2.1 d_Kind_isNeed_1 (by decide) ?_
  refine lv_icmp_gt (tgt := 9) S.1 S.2.1 d_Kind_isNeed_2 (by decide) (fun hc => ?_) (fun hc => ?_)
  · have hf := b_if_t hc hf
    refine lv_iconst (v := 0) S.1 S.2.1 d_Kind_isNeed_9 (by decide) ?_
    exact w10 0 _ _ _ _ _ _ hf hI (lv_sub hl [] rfl)
  · have hf := b_if_f hc hf
    refine lv_iconst (v := 1) S.1 S.2.1 d_Kind_isNeed_5 (by decide) ?_
    refine lv_goto (tgt := 10) S.1 S.2.1 d_Kind_isNeed_6 (by decide) ?_
    exact w10 1 _ _ _ _ _ _ hf hI (lv_sub hl [] rfl)
set_option maxHeartbeats 4000000 in
set_option maxRecDepth 100000 in
theorem c_Pack_whyBroken (l : Launch) {D : va_G} {dA : Nat → ClassId} {aK aV : Nat → Nat} {z : Nat} {N : Nat} {h0 : Nat} {p0 : Option Nat} {M : hM} {Z : Int32 × hM} (hf : (f_Pack_whyBroken N h0 p0).1 M = some Z) : Met l y_Pack_whyBroken w_Pack_whyBroken ({ frames := 4, cells := Z.2.2.1 - M.2.1, slots := Z.2.2.2 - M.2.2, locals := 91 }) (va_Pc [.ref h0, va_rf p0] (hm_B D dA hCl (hTy dA) sT aK aV z M)) (hm_Q D dA hCl (hTy dA) sT aK aV z (some (.int Z.1)) Z.2) (Z.2.2.1 - M.2.1) (Z.2.2.2 - M.2.2) (fun q => z ≤ q) := by
  refine Met.ofW (cc := b_Pack_whyBroken) (maxL := 3) (ret := (some .int)) (by decide) rfl ?_
  intro p e s m args below meth c s₁ B hml hv
  obtain ⟨hav, hB⟩ := hv
  have S : CallFix p m c b_Pack_whyBroken 3 s args w_Pack_whyBroken R_Pack := ⟨B.exec, B.bytes, hml, findClass_of_methodNamed B.named, atoms_spec (ws := w_Pack_whyBroken) B.pre⟩
  have hr : meth.sig.returnType = (some .int) := B.returns
  have hlocks := B.notSynchronized
  have hK := hB.2.2.1
  have hG := hB.2.2.2.2.2
  have hI := hm_I.start hB
  rw [← hB.2.1]
  generalize M.2.2 = k1 at hI ⊢
  refine W.eq (g2 := F0 m 0 ((lg_sl ([.ref h0, va_rf p0]) ++ List.replicate (3 - (lg_sl ([.ref h0, va_rf p0])).length) Slot.unset).toArray) []) (by rw [hav]; exact lg_entry_eq m ([.ref h0, va_rf p0]) 3) ?_
  have hl := lv_entry ([.ref h0, va_rf p0]) (n := 3) (by cases p0 <;> exact Nat.le_of_ble_eq_true rfl)
  generalize (lg_sl ([.ref h0, va_rf p0]) ++ List.replicate (3 - (lg_sl ([.ref h0, va_rf p0])).length) Slot.unset).toArray = ls at hl ⊢
  simp only [lvA_nil, lvA_i, lvA_l, lvA_a, lvA_r, Nat.zero_add, Nat.reduceAdd] at hl
  have hret : ∀ (v : Int32) (M : hM) (H : Heap) (locs : List Loc) (cells slots : Nat) (ls : Array Slot) (pc : Nat), decode b_Pack_whyBroken pc = .ok (.ireturn, 1) → (b_ret v).1 M = some Z → hm_I D dA hCl z k1 s M H locs cells slots → W p l e (headSpec w_Pack_whyBroken { frames := 4, cells := Z.2.2.1 - s.heap.size, slots := Z.2.2.2 - k1, locals := 91 }).room s m args below meth c H locs cells slots (MQ below (hm_Q D dA hCl (hTy dA) sT aK aV z (some (.int Z.1)) Z.2) args s (Z.2.2.1 - s.heap.size) (Z.2.2.2 - k1) (fun q => z ≤ q)) (F0 m pc ls [.int v]) := fun v M H locs cells slots ls pc hdg hf hI => x_reti S hK hG hI hr hlocks hdg hf
  have hR : Z.2.2.1 - s.heap.size ≤ (headSpec w_Pack_whyBroken { frames := 4, cells := Z.2.2.1 - s.heap.size, slots := Z.2.2.2 - k1, locals := 91 }).room.cells ∧ Z.2.2.2 - k1 ≤ (headSpec w_Pack_whyBroken { frames := 4, cells := Z.2.2.1 - s.heap.size, slots := Z.2.2.2 - k1, locals := 91 }).room.slots := ⟨Nat.le_refl _, Nat.le_refl _⟩
  have hRf : 4 ≤ (headSpec w_Pack_whyBroken { frames := 4, cells := Z.2.2.1 - s.heap.size, slots := Z.2.2.2 - k1, locals := 91 }).room.frames ∧ 91 ≤ (headSpec w_Pack_whyBroken { frames := 4, cells := Z.2.2.1 - s.heap.size, slots := Z.2.2.2 - k1, locals := 91 }).room.locals := ⟨Nat.le_refl _, Nat.le_refl _⟩
  generalize (headSpec w_Pack_whyBroken { frames := 4, cells := Z.2.2.1 - s.heap.size, slots := Z.2.2.2 - k1, locals := 91 }).room = R at hret hR hRf ⊢
  generalize (MQ below (hm_Q D dA hCl (hTy dA) sT aK aV z (some (.int Z.1)) Z.2) args s (Z.2.2.1 - s.heap.size) (Z.2.2.2 - k1) (fun q => z ≤ q)) = Q at hret ⊢
  rw [e_Pack_whyBroken] at hf
  obtain ⟨J24, eJ24, hf⟩ := b_let_inv hf
  have w24 : ∀ (y0 : Int32) (M : hM) (H : Heap) (locs : List Loc) (ls : Array Slot) (cells slots : Nat), (J24 y0).1 M = some Z → hm_I D dA hCl z k1 s M H locs cells slots → lv_has ls 3 [(0, .ref h0), (1, va_rf p0)] → W p l e R s m args below meth c H locs cells slots Q (F0 m 24 ls [.int y0]) := by
    intro y0 M H locs ls cells slots hf hI hl
    rw [eJ24] at hf
    obtain ⟨J45, eJ45, hf⟩ := b_let_inv hf
    have w45 : ∀  (M : hM) (H : Heap) (locs : List Loc) (ls : Array Slot) (cells slots : Nat), (J45).1 M = some Z → hm_I D dA hCl z k1 s M H locs cells slots → lv_has ls 3 [(0, .ref h0), (1, va_rf p0)] → W p l e R s m args below meth c H locs cells slots Q (F0 m 45 ls []) := by
      intro M H locs ls cells slots hf hI hl
      rw [eJ45] at hf
      obtain ⟨J87, eJ87, hf⟩ := b_let_inv hf
      have w87 : ∀  (M : hM) (H : Heap) (locs : List Loc) (ls : Array Slot) (cells slots : Nat), (J87).1 M = some Z → hm_I D dA hCl z k1 s M H locs cells slots → lv_has ls 3 [(1, va_rf p0)] → W p l e R s m args below meth c H locs cells slots Q (F0 m 87 ls []) := by
        intro M H locs ls cells slots hf hI hl
        rw [eJ87] at hf
        obtain ⟨J99, eJ99, hf⟩ := b_let_inv hf
        have w99 : ∀ (y0 : Int32) (M : hM) (H : Heap) (locs : List Loc) (ls : Array Slot) (cells slots : Nat), (J99 y0).1 M = some Z → hm_I D dA hCl z k1 s M H locs cells slots → lv_has ls 3 [] → W p l e R s m args below meth c H locs cells slots Q (F0 m 99 ls [.int y0]) := by
          intro y0 M H locs ls cells slots hf hI hl
          rw [eJ99] at hf
          exact hret _ _ _ _ _ _ _ _ d_Pack_whyBroken_99 hf hI
        refine x_aload_n (r := p0) S d_Pack_whyBroken_87 rfl (lv_at hl 0 rfl) ?_
        obtain ⟨a1, ea1, hg⟩ := b_nn_inv hf
        have hI0 := hI
        have hl0 := hl
        clear hf hI hl
        subst ea1
        have hf := hg
        have hI := hI0
        have hl := hl0
        clear hg hI0 hl0
        refine x_getI (ci := 7) (k := 6) S hK hI (fun w h => List.mem_cons_of_mem _ (i_Row w h)) rfl (by decide) (List.mem_cons_of_mem _ wd_282) rfl d_Pack_whyBroken_88 hf (fun v2 hf => ?_)
        refine lv_if_eq (tgt := 98) S.1 S.2.1 d_Pack_whyBroken_91 (by decide) (fun hc => ?_) (fun hc => ?_)
        · have hf := b_if_t hc hf
          refine lv_iconst (v := 0) S.1 S.2.1 d_Pack_whyBroken_98 (by decide) ?_
          exact w99 0 _ _ _ _ _ _ hf hI (lv_sub hl [] rfl)
        · have hf := b_if_f hc hf
          refine lv_iconst (v := 4) S.1 S.2.1 d_Pack_whyBroken_94 (by decide) ?_
          refine lv_goto (tgt := 99) S.1 S.2.1 d_Pack_whyBroken_95 (by decide) ?_
          exact w99 4 _ _ _ _ _ _ hf hI (lv_sub hl [] rfl)
      refine x_aload_n (r := p0) S d_Pack_whyBroken_45 rfl (lv_at hl 1 rfl) ?_
      obtain ⟨a3, ea3, hg⟩ := b_nn_inv hf
      have hI0 := hI
      have hl0 := hl
      clear hf hI hl
      subst ea3
      have hf := hg
      have hI := hI0
      have hl := hl0
      clear hg hI0 hl0
      obtain ⟨⟨fs7, hefs7⟩, hf⟩ := b_is_inv hf
      obtain ⟨v4, N5, hg6, hf⟩ := b_call_inv hf
      refine x_call hI (hm_mo hg6) (va_runV (As := []) (rest := []) S (c_Row_hasEmptyRange l hg6) (cwV 0 S.2.2.2.2 (gi_V wd_286 wd_287 wd_288 wd_157 wd_289) rfl rfl rfl (by decide +kernel) ⟨Nat.le_trans (Nat.le_of_ble_eq_true rfl) hRf.1, Nat.le_trans (Nat.le_of_ble_eq_true rfl) hRf.2⟩) ⟨hm_B.blind, va_recv hK (hI.1.one hefs7) (ci := 7) (q0 := 0) rfl rfl, fun U hU hW => ⟨rfl, hm_B.of hK hG hI hU hW⟩⟩ rfl rfl hl.1 rfl (lv_room (Nat.le_of_ble_eq_true rfl)) d_Pack_whyBroken_46 (hx_fit hI hR (hm_mo hg6) (hm_mo hf))) (fun H locs cells slots hI => ?_)
      refine W.eq (g2 := F0 m 49 ls [.int v4]) rfl ?_
      refine lv_if_eq (tgt := 54) S.1 S.2.1 d_Pack_whyBroken_49 (by decide) (fun hc => ?_) (fun hc => ?_)
      · have hf := b_if_t hc hf
        refine lv_aload_n S.1 S.2.1 d_Pack_whyBroken_54 rfl (lv_at hl 1 rfl) ?_
        refine x_getI (ci := 7) (k := 0) S hK hI (fun w h => List.mem_cons_of_mem _ (i_Row w h)) rfl (by decide) (List.mem_cons_of_mem _ wd_290) rfl d_Pack_whyBroken_55 hf (fun v8 hf => ?_)
        refine lv_bipush (v := 9) S.1 S.2.1 d_Pack_whyBroken_58 (by decide) ?_
        refine lv_icmp_ne (tgt := 87) S.1 S.2.1 d_Pack_whyBroken_60 (by decide) (fun hc => ?_) (fun hc => ?_)
        · have hf := b_if_f hc hf
          exact w87  _ _ _ _ _ _ hf hI (lv_sub hl [1] rfl)
        · have hf := b_if_t hc hf
          refine lv_aload_n S.1 S.2.1 d_Pack_whyBroken_63 rfl (lv_at hl 0 rfl) ?_
          refine lv_aload_n S.1 S.2.1 d_Pack_whyBroken_64 rfl (lv_at hl 1 rfl) ?_
          refine x_getR (ci := 7) (k := 2) S hK hI (fun w h => List.mem_cons_of_mem _ (i_Row w h)) rfl (by decide) (List.mem_cons_of_mem _ wd_291) rfl d_Pack_whyBroken_65 hf (fun r9 hf => ?_)
          obtain ⟨⟨fs13, hefs13⟩, hf⟩ := b_is_inv hf
          obtain ⟨v10, N11, hg12, hf⟩ := b_call_inv hf
          refine x_call hI (hm_mo hg12) (va_runV (As := [va_rf r9]) (rest := []) S (c_Pack_hasFeature l hg12) (cwV 1 S.2.2.2.2 (gi_V wd_293 wd_294 wd_295 wd_273 wd_296) rfl rfl rfl (by decide +kernel) ⟨Nat.le_trans (Nat.le_of_ble_eq_true rfl) hRf.1, Nat.le_trans (Nat.le_of_ble_eq_true rfl) hRf.2⟩) ⟨hm_B.blind, va_recv hK (hI.1.one hefs13) (ci := 3) (q0 := 0) rfl rfl, fun U hU hW => ⟨rfl, hm_B.of hK hG hI hU hW⟩⟩ rfl rfl hl.1 rfl (lv_room (Nat.le_of_ble_eq_true rfl)) d_Pack_whyBroken_68 (hx_fit hI hR (hm_mo hg12) (hm_mo hf))) (fun H locs cells slots hI => ?_)
          refine W.eq (g2 := F0 m 71 ls [.int v10]) rfl ?_
          refine lv_if_ne (tgt := 87) S.1 S.2.1 d_Pack_whyBroken_71 (by decide) (fun hc => ?_) (fun hc => ?_)
          · have hf := b_if_f hc hf
            exact w87  _ _ _ _ _ _ hf hI (lv_sub hl [1] rfl)
          · have hf := b_if_t hc hf
            refine lv_aload_n S.1 S.2.1 d_Pack_whyBroken_74 rfl (lv_at hl 0 rfl) ?_
            refine lv_aload_n S.1 S.2.1 d_Pack_whyBroken_75 rfl (lv_at hl 1 rfl) ?_
            refine x_getR (ci := 7) (k := 2) S hK hI (fun w h => List.mem_cons_of_mem _ (i_Row w h)) rfl (by decide) (List.mem_cons_of_mem _ wd_291) rfl d_Pack_whyBroken_76 hf (fun r14 hf => ?_)
            obtain ⟨⟨fs18, hefs18⟩, hf⟩ := b_is_inv hf
            obtain ⟨v15, N16, hg17, hf⟩ := b_call_inv hf
            refine x_call hI (hm_mo hg17) (va_runV (As := [va_rf r14]) (rest := []) S (c_Pack_hasOptionalNeed l hg17) (cwV 1 S.2.2.2.2 (gi_V wd_301 wd_302 wd_303 wd_273 wd_304) rfl rfl rfl (by decide +kernel) ⟨Nat.le_trans (Nat.le_of_ble_eq_true rfl) hRf.1, Nat.le_trans (Nat.le_of_ble_eq_true rfl) hRf.2⟩) ⟨hm_B.blind, va_recv hK (hI.1.one hefs18) (ci := 3) (q0 := 0) rfl rfl, fun U hU hW => ⟨rfl, hm_B.of hK hG hI hU hW⟩⟩ rfl rfl hl.1 rfl (lv_room (Nat.le_of_ble_eq_true rfl)) d_Pack_whyBroken_79 (hx_fit hI hR (hm_mo hg17) (hm_mo hf))) (fun H locs cells slots hI => ?_)
            refine W.eq (g2 := F0 m 82 ls [.int v15]) rfl ?_
            refine lv_if_ne (tgt := 87) S.1 S.2.1 d_Pack_whyBroken_82 (by decide) (fun hc => ?_) (fun hc => ?_)
            · have hf := b_if_f hc hf
              exact w87  _ _ _ _ _ _ hf hI (lv_sub hl [1] rfl)
            · have hf := b_if_t hc hf
              refine lv_iconst (v := 3) S.1 S.2.1 d_Pack_whyBroken_85 (by decide) ?_
              exact hret _ _ _ _ _ _ _ _ d_Pack_whyBroken_86 hf hI
      · have hf := b_if_f hc hf
        refine lv_iconst (v := 2) S.1 S.2.1 d_Pack_whyBroken_52 (by decide) ?_
        exact hret _ _ _ _ _ _ _ _ d_Pack_whyBroken_53 hf hI
    refine x_istore_n (lv2 := [(0, .ref h0), (1, va_rf p0)]) S d_Pack_whyBroken_24 rfl hl (by decide) [0, 1] rfl ⟨⟨(by decide : (0 : Nat) ≠ 2), fun h => absurd (show (0 : Nat) + 1 = 2 from h) (by decide)⟩, ⟨⟨(by decide : (1 : Nat) ≠ 2), fun _ => rf_cat _⟩, trivial⟩⟩ (fun ls hl => ?_)
    refine lv_iload_n S.1 S.2.1 d_Pack_whyBroken_25 rfl (lv_at hl 0 rfl) ?_
    refine lv_if_eq (tgt := 45) S.1 S.2.1 d_Pack_whyBroken_26 (by decide) (fun hc => ?_) (fun hc => ?_)
    · have hf := b_if_t hc hf
      exact w45  _ _ _ _ _ _ hf hI (lv_sub hl [1, 2] rfl)
    · have hf := b_if_f hc hf
      refine x_aload_n (r := p0) S d_Pack_whyBroken_29 rfl (lv_at hl 2 rfl) ?_
      obtain ⟨a19, ea19, hg⟩ := b_nn_inv hf
      have hI0 := hI
      have hl0 := hl
      clear hf hI hl
      subst ea19
      have hf := hg
      have hI := hI0
      have hl := hl0
      clear hg hI0 hl0
      refine x_getR (ci := 7) (k := 2) S hK hI (fun w h => List.mem_cons_of_mem _ (i_Row w h)) rfl (by decide) (List.mem_cons_of_mem _ wd_291) rfl d_Pack_whyBroken_30 hf (fun r20 hf => ?_)
      refine lv_aload_n S.1 S.2.1 d_Pack_whyBroken_33 rfl (lv_at hl 1 rfl) ?_
      refine x_getR (ci := 3) (k := 0) S hK hI (fun w h => List.mem_cons_of_mem _ (i_Pack w h)) rfl (by decide) (List.mem_cons_of_mem _ wd_275) rfl d_Pack_whyBroken_34 hf (fun r21 hf => ?_)
      obtain ⟨a22, ea22, hg⟩ := b_nn_inv hf
      have hI0 := hI
      have hl0 := hl
      clear hf hI hl
      subst ea22
      have hf := hg
      have hI := hI0
      have hl := hl0
      clear hg hI0 hl0
      obtain ⟨⟨fs26, hefs26⟩, hf⟩ := b_is_inv hf
      obtain ⟨v23, N24, hg25, hf⟩ := b_call_inv hf
      refine x_call hI (hm_mo hg25) (va_runV (As := [va_rf r21]) (rest := []) S (c_Name_foldsLike l hg25) (cwV 1 S.2.2.2.2 (gi_V wd_297 wd_298 wd_299 wd_75 wd_300) rfl rfl rfl (by decide +kernel) ⟨Nat.le_trans (Nat.le_of_ble_eq_true rfl) hRf.1, Nat.le_trans (Nat.le_of_ble_eq_true rfl) hRf.2⟩) ⟨hm_B.blind, va_recv hK (hI.1.one hefs26) (ci := 2) (q0 := 0) rfl rfl, fun U hU hW => ⟨rfl, hm_B.of hK hG hI hU hW⟩⟩ rfl rfl hl.1 rfl (lv_room (Nat.le_of_ble_eq_true rfl)) d_Pack_whyBroken_37 (hx_fit hI hR (hm_mo hg25) (hm_mo hf))) (fun H locs cells slots hI => ?_)
      refine W.eq (g2 := F0 m 40 ls [.int v23]) rfl ?_
      refine lv_if_eq (tgt := 45) S.1 S.2.1 d_Pack_whyBroken_40 (by decide) (fun hc => ?_) (fun hc => ?_)
      · have hf := b_if_t hc hf
        exact w45  _ _ _ _ _ _ hf hI (lv_sub hl [1, 2] rfl)
      · have hf := b_if_f hc hf
        refine lv_iconst (v := 1) S.1 S.2.1 d_Pack_whyBroken_43 (by decide) ?_
        exact hret _ _ _ _ _ _ _ _ d_Pack_whyBroken_44 hf hI
  obtain ⟨J19, eJ19, hf⟩ := b_let_inv hf
  have w19 : ∀  (M : hM) (H : Heap) (locs : List Loc) (ls : Array Slot) (cells slots : Nat), (J19).1 M = some Z → hm_I D dA hCl z k1 s M H locs cells slots → lv_has ls 3 [(0, .ref h0), (1, va_rf p0)] → W p l e R s m args below meth c H locs cells slots Q (F0 m 19 ls []) := by
    intro M H locs ls cells slots hf hI hl
    rw [eJ19] at hf
    refine lv_iconst (v := 1) S.1 S.2.1 d_Pack_whyBroken_19 (by decide) ?_
    refine lv_goto (tgt := 24) S.1 S.2.1 d_Pack_whyBroken_20 (by decide) ?_
    exact w24 1 _ _ _ _ _ _ hf hI (lv_sub hl [0, 1] rfl)
  refine x_aload_n (r := p0) S d_Pack_whyBroken_0 rfl (lv_at hl 1 rfl) ?_
  obtain ⟨a27, ea27, hg⟩ := b_nn_inv hf
  have hI0 := hI
  have hl0 := hl
  clear hf hI hl
  subst ea27
  have hf := hg
  have hI := hI0
  have hl := hl0
  clear hg hI0 hl0
  refine x_getI (ci := 7) (k := 0) S hK hI (fun w h => List.mem_cons_of_mem _ (i_Row w h)) rfl (by decide) (List.mem_cons_of_mem _ wd_290) rfl d_Pack_whyBroken_1 hf (fun v28 hf => ?_)
  obtain ⟨v29, N30, hg31, hf⟩ := b_call_inv hf
  refine x_call hI (hm_mo hg31) (va_runS (As := [.int v28]) (rest := []) S (c_Kind_isNeed l hg31) (va_cwS 1 S.2.2.2.2 (gi_S wd_305 wd_306 wd_204 wd_307) rfl rfl rfl (by decide +kernel) ⟨Nat.le_trans (Nat.le_of_ble_eq_true rfl) hRf.1, Nat.le_trans (Nat.le_of_ble_eq_true rfl) hRf.2⟩) ⟨hm_B.blind, fun U hU hW => ⟨rfl, hm_B.of hK hG hI hU hW⟩⟩ rfl rfl hl.1 rfl (lv_room (Nat.le_of_ble_eq_true rfl)) d_Pack_whyBroken_4 (hx_fit hI hR (hm_mo hg31) (hm_mo hf))) (fun H locs cells slots hI => ?_)
  refine W.eq (g2 := F0 m 7 ls [.int v29]) rfl ?_
  refine lv_if_ne (tgt := 19) S.1 S.2.1 d_Pack_whyBroken_7 (by decide) (fun hc => ?_) (fun hc => ?_)
  · have hf := b_if_f hc hf
    exact w19  _ _ _ _ _ _ hf hI (lv_sub hl [0, 1] rfl)
  · have hf := b_if_t hc hf
    refine lv_aload_n S.1 S.2.1 d_Pack_whyBroken_10 rfl (lv_at hl 1 rfl) ?_
    refine x_getI (ci := 7) (k := 0) S hK hI (fun w h => List.mem_cons_of_mem _ (i_Row w h)) rfl (by decide) (List.mem_cons_of_mem _ wd_290) rfl d_Pack_whyBroken_11 hf (fun v32 hf => ?_)
    refine lv_bipush (v := 8) S.1 S.2.1 d_Pack_whyBroken_14 (by decide) ?_
    refine lv_icmp_ne (tgt := 23) S.1 S.2.1 d_Pack_whyBroken_16 (by decide) (fun hc => ?_) (fun hc => ?_)
    · have hf := b_if_f hc hf
      refine lv_iconst (v := 0) S.1 S.2.1 d_Pack_whyBroken_23 (by decide) ?_
      exact w24 0 _ _ _ _ _ _ hf hI (lv_sub hl [0, 1] rfl)
    · have hf := b_if_t hc hf
      exact w19  _ _ _ _ _ _ hf hI (lv_sub hl [0, 1] rfl)
set_option maxHeartbeats 4000000 in
set_option maxRecDepth 100000 in
theorem c_Pack_markBroken (l : Launch) {D : va_G} {dA : Nat → ClassId} {aK aV : Nat → Nat} {z : Nat} {N : Nat} {h0 : Nat} {M : hM} {Z : Unit × hM} (hf : (f_Pack_markBroken N h0 ).1 M = some Z) : Met l y_Pack_markBroken w_Pack_markBroken ({ frames := 5, cells := Z.2.2.1 - M.2.1, slots := Z.2.2.2 - M.2.2, locals := 113 }) (va_Pc [.ref h0] (hm_B D dA hCl (hTy dA) sT aK aV z M)) (hm_Q D dA hCl (hTy dA) sT aK aV z none Z.2) (Z.2.2.1 - M.2.1) (Z.2.2.2 - M.2.2) (fun q => z ≤ q) := by
  refine Met.ofW (cc := b_Pack_markBroken) (maxL := 2) (ret := none) (by decide) rfl ?_
  intro p e s m args below meth c s₁ B hml hv
  obtain ⟨hav, hB⟩ := hv
  have S : CallFix p m c b_Pack_markBroken 2 s args w_Pack_markBroken R_Pack := ⟨B.exec, B.bytes, hml, findClass_of_methodNamed B.named, atoms_spec (ws := w_Pack_markBroken) B.pre⟩
  have hr : meth.sig.returnType = none := B.returns
  have hlocks := B.notSynchronized
  have hK := hB.2.2.1
  have hG := hB.2.2.2.2.2
  have hI := hm_I.start hB
  rw [← hB.2.1]
  generalize M.2.2 = k1 at hI ⊢
  refine W.eq (g2 := F0 m 0 ((lg_sl ([.ref h0]) ++ List.replicate (2 - (lg_sl ([.ref h0])).length) Slot.unset).toArray) []) (by rw [hav]; exact lg_entry_eq m ([.ref h0]) 2) ?_
  have hl := lv_entry ([.ref h0]) (n := 2) (Nat.le_of_ble_eq_true rfl)
  generalize (lg_sl ([.ref h0]) ++ List.replicate (2 - (lg_sl ([.ref h0])).length) Slot.unset).toArray = ls at hl ⊢
  simp only [lvA_nil, lvA_i, lvA_l, lvA_a, lvA_r, Nat.zero_add, Nat.reduceAdd] at hl
  have hret : ∀ (M : hM) (H : Heap) (locs : List Loc) (cells slots : Nat) (ls : Array Slot) (pc : Nat), decode b_Pack_markBroken pc = .ok (.return_, 1) → (b_ret ()).1 M = some Z → hm_I D dA hCl z k1 s M H locs cells slots → W p l e (headSpec w_Pack_markBroken { frames := 5, cells := Z.2.2.1 - s.heap.size, slots := Z.2.2.2 - k1, locals := 113 }).room s m args below meth c H locs cells slots (MQ below (hm_Q D dA hCl (hTy dA) sT aK aV z none Z.2) args s (Z.2.2.1 - s.heap.size) (Z.2.2.2 - k1) (fun q => z ≤ q)) (F0 m pc ls []) := fun M H locs cells slots ls pc hdg hf hI => x_retv S hK hG hI hr hlocks hdg hf
  have hR : Z.2.2.1 - s.heap.size ≤ (headSpec w_Pack_markBroken { frames := 5, cells := Z.2.2.1 - s.heap.size, slots := Z.2.2.2 - k1, locals := 113 }).room.cells ∧ Z.2.2.2 - k1 ≤ (headSpec w_Pack_markBroken { frames := 5, cells := Z.2.2.1 - s.heap.size, slots := Z.2.2.2 - k1, locals := 113 }).room.slots := ⟨Nat.le_refl _, Nat.le_refl _⟩
  have hRf : 5 ≤ (headSpec w_Pack_markBroken { frames := 5, cells := Z.2.2.1 - s.heap.size, slots := Z.2.2.2 - k1, locals := 113 }).room.frames ∧ 113 ≤ (headSpec w_Pack_markBroken { frames := 5, cells := Z.2.2.1 - s.heap.size, slots := Z.2.2.2 - k1, locals := 113 }).room.locals := ⟨Nat.le_refl _, Nat.le_refl _⟩
  generalize (headSpec w_Pack_markBroken { frames := 5, cells := Z.2.2.1 - s.heap.size, slots := Z.2.2.2 - k1, locals := 113 }).room = R at hret hR hRf ⊢
  generalize (MQ below (hm_Q D dA hCl (hTy dA) sT aK aV z none Z.2) args s (Z.2.2.1 - s.heap.size) (Z.2.2.2 - k1) (fun q => z ≤ q)) = Q at hret ⊢
  rw [e_Pack_markBroken] at hf
  have w2 : ∀ (n : Nat) (x1 : Int32) (M : hM) (H : Heap) (locs : List Loc) (ls : Array Slot) (cells slots : Nat), (f_Pack_markBroken_2 N h0  n x1).1 M = some Z → hm_I D dA hCl z k1 s M H locs cells slots → lv_has ls 2 [(0, .ref h0), (1, .int x1)] → W p l e R s m args below meth c H locs cells slots Q (F0 m 2 ls []) := by
    intro n
    induction n with
    | zero => intro x1 M H locs ls cells slots hf hI hl; cases hf
    | succ n2 ih2 =>
      intro x1 M H locs ls cells slots hf hI hl
      rw [e_Pack_markBroken_2] at hf
      refine lv_iload_n S.1 S.2.1 d_Pack_markBroken_2 rfl (lv_at hl 1 rfl) ?_
      refine lv_aload_n S.1 S.2.1 d_Pack_markBroken_3 rfl (lv_at hl 0 rfl) ?_
      refine x_getR (ci := 3) (k := 3) S hK hI (fun w h => List.mem_cons_of_mem _ (i_Pack w h)) rfl (by decide) (List.mem_cons_of_mem _ wd_278) rfl d_Pack_markBroken_4 hf (fun r1 hf => ?_)
      obtain ⟨a2, ea2, hg⟩ := b_nn_inv hf
      have hI0 := hI
      have hl0 := hl
      clear hf hI hl
      subst ea2
      have hf := hg
      have hI := hI0
      have hl := hl0
      clear hg hI0 hl0
      refine x_len (t := 1) S hK hI rfl d_Pack_markBroken_7 hf (fun v3 hf => ?_)
      refine lv_icmp_ge (tgt := 36) S.1 S.2.1 d_Pack_markBroken_8 (by decide) (fun hc => ?_) (fun hc => ?_)
      · have hf := b_if_t hc hf
        exact hret _ _ _ _ _ _ _ d_Pack_markBroken_36 hf hI
      · have hf := b_if_f hc hf
        refine lv_aload_n S.1 S.2.1 d_Pack_markBroken_11 rfl (lv_at hl 0 rfl) ?_
        refine x_getR (ci := 3) (k := 3) S hK hI (fun w h => List.mem_cons_of_mem _ (i_Pack w h)) rfl (by decide) (List.mem_cons_of_mem _ wd_278) rfl d_Pack_markBroken_12 hf (fun r4 hf => ?_)
        refine lv_iload_n S.1 S.2.1 d_Pack_markBroken_15 rfl (lv_at hl 1 rfl) ?_
        obtain ⟨a5, ea5, hg⟩ := b_nn_inv hf
        have hI0 := hI
        have hl0 := hl
        clear hf hI hl
        subst ea5
        have hf := hg
        have hI := hI0
        have hl := hl0
        clear hg hI0 hl0
        refine x_aald (t := 1) S hK hI rfl d_Pack_markBroken_16 hf (fun r6 hf => ?_)
        refine lv_aload_n S.1 S.2.1 d_Pack_markBroken_17 rfl (lv_at hl 0 rfl) ?_
        refine lv_aload_n S.1 S.2.1 d_Pack_markBroken_18 rfl (lv_at hl 0 rfl) ?_
        refine x_getR (ci := 3) (k := 3) S hK hI (fun w h => List.mem_cons_of_mem _ (i_Pack w h)) rfl (by decide) (List.mem_cons_of_mem _ wd_278) rfl d_Pack_markBroken_19 hf (fun r7 hf => ?_)
        refine lv_iload_n S.1 S.2.1 d_Pack_markBroken_22 rfl (lv_at hl 1 rfl) ?_
        obtain ⟨a8, ea8, hg⟩ := b_nn_inv hf
        have hI0 := hI
        have hl0 := hl
        clear hf hI hl
        subst ea8
        have hf := hg
        have hI := hI0
        have hl := hl0
        clear hg hI0 hl0
        refine x_aald (t := 1) S hK hI rfl d_Pack_markBroken_23 hf (fun r9 hf => ?_)
        obtain ⟨⟨fs13, hefs13⟩, hf⟩ := b_is_inv hf
        obtain ⟨v10, N11, hg12, hf⟩ := b_call_inv hf
        refine x_call hI (hm_mo hg12) (va_runV (As := [va_rf r9]) (rest := [va_rf r6]) S (c_Pack_whyBroken l hg12) (cwV 1 S.2.2.2.2 (gi_V wd_308 wd_309 wd_310 wd_273 wd_311) rfl rfl rfl (by decide +kernel) ⟨Nat.le_trans (Nat.le_of_ble_eq_true rfl) hRf.1, Nat.le_trans (Nat.le_of_ble_eq_true rfl) hRf.2⟩) ⟨hm_B.blind, va_recv hK (hI.1.one hefs13) (ci := 3) (q0 := 0) rfl rfl, fun U hU hW => ⟨rfl, hm_B.of hK hG hI hU hW⟩⟩ rfl rfl hl.1 rfl (lv_room (by simp only [List.map_cons, List.map_nil, List.sum_cons, List.sum_nil, rf_cat, cat_i, cat_l, cat_a, cat_n]; exact Nat.le_of_ble_eq_true rfl)) d_Pack_markBroken_24 (hx_fit hI hR (hm_mo hg12) (hm_mo hf))) (fun H locs cells slots hI => ?_)
        refine W.eq (g2 := F0 m 27 ls [.int v10, va_rf r6]) rfl ?_
        obtain ⟨a14, ea14, hg⟩ := b_nn_inv hf
        have hI0 := hI
        have hl0 := hl
        clear hf hI hl
        subst ea14
        have hf := hg
        have hI := hI0
        have hl := hl0
        clear hg hI0 hl0
        refine x_put (ci := 7) (k := 7) S hK hI (fun w h => List.mem_cons_of_mem _ (i_Row w h)) t_Row t_Row_ok n_Row rfl (by decide) (List.mem_cons_of_mem _ wd_312) rfl (Or.inl rfl) (by rfl) rfl d_Pack_markBroken_27 hf (fun M H locs hf hI => ?_)
        refine x_iinc (v := 1) (lv2 := [(0, .ref h0)]) S d_Pack_markBroken_30 hl 1 rfl (by decide) (by decide) [0] rfl ⟨⟨(by decide : (0 : Nat) ≠ 1), fun _ => rfl⟩, trivial⟩ (fun ls hl => ?_)
        refine lv_goto (tgt := 2) S.1 S.2.1 d_Pack_markBroken_33 (by decide) ?_
        exact ih2 (x1 + 1) _ _ _ _ _ _ hf hI (lv_sub hl [1, 0] rfl)
  refine lv_iconst (v := 0) S.1 S.2.1 d_Pack_markBroken_0 (by decide) ?_
  refine x_istore_n (lv2 := [(0, .ref h0)]) S d_Pack_markBroken_1 rfl hl (by decide) [0] rfl ⟨⟨(by decide : (0 : Nat) ≠ 1), fun _ => rfl⟩, trivial⟩ (fun ls hl => ?_)
  exact w2 N 0 _ _ _ _ _ _ hf hI (lv_sub hl [1, 0] rfl)
set_option maxHeartbeats 4000000 in
set_option maxRecDepth 100000 in
theorem c_Row_order (l : Launch) {D : va_G} {dA : Nat → ClassId} {aK aV : Nat → Nat} {z : Nat} {N : Nat} {h0 : Nat} {p0 : Option Nat} {M : hM} {Z : Int32 × hM} (hf : (f_Row_order N h0 p0).1 M = some Z) : Met l y_Row_order w_Row_order ({ frames := 2, cells := Z.2.2.1 - M.2.1, slots := Z.2.2.2 - M.2.2, locals := 47 }) (va_Pc [.ref h0, va_rf p0] (hm_B D dA hCl (hTy dA) sT aK aV z M)) (hm_Q D dA hCl (hTy dA) sT aK aV z (some (.int Z.1)) Z.2) (Z.2.2.1 - M.2.1) (Z.2.2.2 - M.2.2) (fun q => z ≤ q) := by
  refine Met.ofW (cc := b_Row_order) (maxL := 3) (ret := (some .int)) (by decide) rfl ?_
  intro p e s m args below meth c s₁ B hml hv
  obtain ⟨hav, hB⟩ := hv
  have S : CallFix p m c b_Row_order 3 s args w_Row_order R_Row := ⟨B.exec, B.bytes, hml, findClass_of_methodNamed B.named, atoms_spec (ws := w_Row_order) B.pre⟩
  have hr : meth.sig.returnType = (some .int) := B.returns
  have hlocks := B.notSynchronized
  have hK := hB.2.2.1
  have hG := hB.2.2.2.2.2
  have hI := hm_I.start hB
  rw [← hB.2.1]
  generalize M.2.2 = k1 at hI ⊢
  refine W.eq (g2 := F0 m 0 ((lg_sl ([.ref h0, va_rf p0]) ++ List.replicate (3 - (lg_sl ([.ref h0, va_rf p0])).length) Slot.unset).toArray) []) (by rw [hav]; exact lg_entry_eq m ([.ref h0, va_rf p0]) 3) ?_
  have hl := lv_entry ([.ref h0, va_rf p0]) (n := 3) (by cases p0 <;> exact Nat.le_of_ble_eq_true rfl)
  generalize (lg_sl ([.ref h0, va_rf p0]) ++ List.replicate (3 - (lg_sl ([.ref h0, va_rf p0])).length) Slot.unset).toArray = ls at hl ⊢
  simp only [lvA_nil, lvA_i, lvA_l, lvA_a, lvA_r, Nat.zero_add, Nat.reduceAdd] at hl
  have hret : ∀ (v : Int32) (M : hM) (H : Heap) (locs : List Loc) (cells slots : Nat) (ls : Array Slot) (pc : Nat), decode b_Row_order pc = .ok (.ireturn, 1) → (b_ret v).1 M = some Z → hm_I D dA hCl z k1 s M H locs cells slots → W p l e (headSpec w_Row_order { frames := 2, cells := Z.2.2.1 - s.heap.size, slots := Z.2.2.2 - k1, locals := 47 }).room s m args below meth c H locs cells slots (MQ below (hm_Q D dA hCl (hTy dA) sT aK aV z (some (.int Z.1)) Z.2) args s (Z.2.2.1 - s.heap.size) (Z.2.2.2 - k1) (fun q => z ≤ q)) (F0 m pc ls [.int v]) := fun v M H locs cells slots ls pc hdg hf hI => x_reti S hK hG hI hr hlocks hdg hf
  have hR : Z.2.2.1 - s.heap.size ≤ (headSpec w_Row_order { frames := 2, cells := Z.2.2.1 - s.heap.size, slots := Z.2.2.2 - k1, locals := 47 }).room.cells ∧ Z.2.2.2 - k1 ≤ (headSpec w_Row_order { frames := 2, cells := Z.2.2.1 - s.heap.size, slots := Z.2.2.2 - k1, locals := 47 }).room.slots := ⟨Nat.le_refl _, Nat.le_refl _⟩
  have hRf : 2 ≤ (headSpec w_Row_order { frames := 2, cells := Z.2.2.1 - s.heap.size, slots := Z.2.2.2 - k1, locals := 47 }).room.frames ∧ 47 ≤ (headSpec w_Row_order { frames := 2, cells := Z.2.2.1 - s.heap.size, slots := Z.2.2.2 - k1, locals := 47 }).room.locals := ⟨Nat.le_refl _, Nat.le_refl _⟩
  generalize (headSpec w_Row_order { frames := 2, cells := Z.2.2.1 - s.heap.size, slots := Z.2.2.2 - k1, locals := 47 }).room = R at hret hR hRf ⊢
  generalize (MQ below (hm_Q D dA hCl (hTy dA) sT aK aV z (some (.int Z.1)) Z.2) args s (Z.2.2.1 - s.heap.size) (Z.2.2.2 - k1) (fun q => z ≤ q)) = Q at hret ⊢
  rw [e_Row_order] at hf
  obtain ⟨J83, eJ83, hf⟩ := b_let_inv hf
  have w83 : ∀  (M : hM) (H : Heap) (locs : List Loc) (ls : Array Slot) (cells slots : Nat), (J83).1 M = some Z → hm_I D dA hCl z k1 s M H locs cells slots → lv_has ls 3 [(0, .ref h0), (1, va_rf p0)] → W p l e R s m args below meth c H locs cells slots Q (F0 m 83 ls []) := by
    intro M H locs ls cells slots hf hI hl
    rw [eJ83] at hf
    refine lv_aload_n S.1 S.2.1 d_Row_order_83 rfl (lv_at hl 0 rfl) ?_
    refine x_getR (ci := 7) (k := 2) S hK hI (fun w h => List.mem_cons_of_mem _ (i_Row w h)) rfl (by decide) (List.mem_cons_of_mem _ wd_152) rfl d_Row_order_84 hf (fun r1 hf => ?_)
    refine x_aload_n (r := p0) S d_Row_order_87 rfl (lv_at hl 1 rfl) ?_
    obtain ⟨a2, ea2, hg⟩ := b_nn_inv hf
    have hI0 := hI
    have hl0 := hl
    clear hf hI hl
    subst ea2
    have hf := hg
    have hI := hI0
    have hl := hl0
    clear hg hI0 hl0
    refine x_getR (ci := 7) (k := 2) S hK hI (fun w h => List.mem_cons_of_mem _ (i_Row w h)) rfl (by decide) (List.mem_cons_of_mem _ wd_152) rfl d_Row_order_88 hf (fun r3 hf => ?_)
    obtain ⟨a4, ea4, hg⟩ := b_nn_inv hf
    have hI0 := hI
    have hl0 := hl
    clear hf hI hl
    subst ea4
    have hf := hg
    have hI := hI0
    have hl := hl0
    clear hg hI0 hl0
    obtain ⟨⟨fs8, hefs8⟩, hf⟩ := b_is_inv hf
    obtain ⟨v5, N6, hg7, hf⟩ := b_call_inv hf
    refine x_call hI (hm_mo hg7) (va_runV (As := [va_rf r3]) (rest := []) S (c_Name_order l hg7) (cwV 1 S.2.2.2.2 (gi_V wd_317 wd_73 wd_74 wd_75 wd_76) rfl rfl rfl (by decide +kernel) ⟨Nat.le_trans (Nat.le_of_ble_eq_true rfl) hRf.1, Nat.le_trans (Nat.le_of_ble_eq_true rfl) hRf.2⟩) ⟨hm_B.blind, va_recv hK (hI.1.one hefs8) (ci := 2) (q0 := 0) rfl rfl, fun U hU hW => ⟨rfl, hm_B.of hK hG hI hU hW⟩⟩ rfl rfl hl.1 rfl (lv_room (Nat.le_of_ble_eq_true rfl)) d_Row_order_91 (hx_fit hI hR (hm_mo hg7) (hm_mo hf))) (fun H locs cells slots hI => ?_)
    refine W.eq (g2 := F0 m 94 ls [.int v5]) rfl ?_
    exact hret _ _ _ _ _ _ _ _ d_Row_order_94 hf hI
  refine lv_aload_n S.1 S.2.1 d_Row_order_0 rfl (lv_at hl 0 rfl) ?_
  refine x_getI (ci := 7) (k := 0) S hK hI (fun w h => List.mem_cons_of_mem _ (i_Row w h)) rfl (by decide) (List.mem_cons_of_mem _ wd_150) rfl d_Row_order_1 hf (fun v9 hf => ?_)
  refine x_aload_n (r := p0) S d_Row_order_4 rfl (lv_at hl 1 rfl) ?_
  obtain ⟨a10, ea10, hg⟩ := b_nn_inv hf
  have hI0 := hI
  have hl0 := hl
  clear hf hI hl
  subst ea10
  have hf := hg
  have hI := hI0
  have hl := hl0
  clear hg hI0 hl0
  refine x_getI (ci := 7) (k := 0) S hK hI (fun w h => List.mem_cons_of_mem _ (i_Row w h)) rfl (by decide) (List.mem_cons_of_mem _ wd_150) rfl d_Row_order_5 hf (fun v11 hf => ?_)
  refine lv_icmp_eq (tgt := 21) S.1 S.2.1 d_Row_order_8 (by decide) (fun hc => ?_) (fun hc => ?_)
  · have hf := b_if_t hc hf
    refine lv_aload_n S.1 S.2.1 d_Row_order_21 rfl (lv_at hl 0 rfl) ?_
    refine x_getI (ci := 7) (k := 1) S hK hI (fun w h => List.mem_cons_of_mem _ (i_Row w h)) rfl (by decide) (List.mem_cons_of_mem _ wd_151) rfl d_Row_order_22 hf (fun v12 hf => ?_)
    refine lv_aload_n S.1 S.2.1 d_Row_order_25 rfl (lv_at hl 1 rfl) ?_
    refine x_getI (ci := 7) (k := 1) S hK hI (fun w h => List.mem_cons_of_mem _ (i_Row w h)) rfl (by decide) (List.mem_cons_of_mem _ wd_151) rfl d_Row_order_26 hf (fun v13 hf => ?_)
    refine lv_icmp_eq (tgt := 42) S.1 S.2.1 d_Row_order_29 (by decide) (fun hc => ?_) (fun hc => ?_)
    · have hf := b_if_t hc hf
      refine lv_aload_n S.1 S.2.1 d_Row_order_42 rfl (lv_at hl 0 rfl) ?_
      refine x_getI (ci := 7) (k := 0) S hK hI (fun w h => List.mem_cons_of_mem _ (i_Row w h)) rfl (by decide) (List.mem_cons_of_mem _ wd_150) rfl d_Row_order_43 hf (fun v14 hf => ?_)
      refine lv_bipush (v := 9) S.1 S.2.1 d_Row_order_46 (by decide) ?_
      refine lv_icmp_ne (tgt := 83) S.1 S.2.1 d_Row_order_48 (by decide) (fun hc => ?_) (fun hc => ?_)
      · have hf := b_if_f hc hf
        exact w83  _ _ _ _ _ _ hf hI (lv_sub hl [0, 1] rfl)
      · have hf := b_if_t hc hf
        refine lv_aload_n S.1 S.2.1 d_Row_order_51 rfl (lv_at hl 0 rfl) ?_
        refine x_getR (ci := 7) (k := 3) S hK hI (fun w h => List.mem_cons_of_mem _ (i_Row w h)) rfl (by decide) (List.mem_cons_of_mem _ wd_153) rfl d_Row_order_52 hf (fun r15 hf => ?_)
        refine x_ifnull (r := r15) (tgt := 83) S d_Row_order_55 (by decide) (fun hc => ?_) (fun hc => ?_)
        · have hf := b_if_t hc hf
          exact w83  _ _ _ _ _ _ hf hI (lv_sub hl [0, 1] rfl)
        · have hf := b_if_f hc hf
          refine lv_aload_n S.1 S.2.1 d_Row_order_58 rfl (lv_at hl 1 rfl) ?_
          refine x_getR (ci := 7) (k := 3) S hK hI (fun w h => List.mem_cons_of_mem _ (i_Row w h)) rfl (by decide) (List.mem_cons_of_mem _ wd_153) rfl d_Row_order_59 hf (fun r16 hf => ?_)
          refine x_ifnull (r := r16) (tgt := 83) S d_Row_order_62 (by decide) (fun hc => ?_) (fun hc => ?_)
          · have hf := b_if_t hc hf
            exact w83  _ _ _ _ _ _ hf hI (lv_sub hl [0, 1] rfl)
          · have hf := b_if_f hc hf
            refine lv_aload_n S.1 S.2.1 d_Row_order_65 rfl (lv_at hl 0 rfl) ?_
            refine x_getR (ci := 7) (k := 3) S hK hI (fun w h => List.mem_cons_of_mem _ (i_Row w h)) rfl (by decide) (List.mem_cons_of_mem _ wd_153) rfl d_Row_order_66 hf (fun r17 hf => ?_)
            refine lv_aload_n S.1 S.2.1 d_Row_order_69 rfl (lv_at hl 1 rfl) ?_
            refine x_getR (ci := 7) (k := 3) S hK hI (fun w h => List.mem_cons_of_mem _ (i_Row w h)) rfl (by decide) (List.mem_cons_of_mem _ wd_153) rfl d_Row_order_70 hf (fun r18 hf => ?_)
            obtain ⟨a19, ea19, hg⟩ := b_nn_inv hf
            have hI0 := hI
            have hl0 := hl
            clear hf hI hl
            subst ea19
            have hf := hg
            have hI := hI0
            have hl := hl0
            clear hg hI0 hl0
            obtain ⟨⟨fs23, hefs23⟩, hf⟩ := b_is_inv hf
            obtain ⟨v20, N21, hg22, hf⟩ := b_call_inv hf
            refine x_call hI (hm_mo hg22) (va_runV (As := [va_rf r18]) (rest := []) S (c_Name_order l hg22) (cwV 1 S.2.2.2.2 (gi_V wd_317 wd_73 wd_74 wd_75 wd_76) rfl rfl rfl (by decide +kernel) ⟨Nat.le_trans (Nat.le_of_ble_eq_true rfl) hRf.1, Nat.le_trans (Nat.le_of_ble_eq_true rfl) hRf.2⟩) ⟨hm_B.blind, va_recv hK (hI.1.one hefs23) (ci := 2) (q0 := 0) rfl rfl, fun U hU hW => ⟨rfl, hm_B.of hK hG hI hU hW⟩⟩ rfl rfl hl.1 rfl (lv_room (Nat.le_of_ble_eq_true rfl)) d_Row_order_73 (hx_fit hI hR (hm_mo hg22) (hm_mo hf))) (fun H locs cells slots hI => ?_)
            refine W.eq (g2 := F0 m 76 ls [.int v20]) rfl ?_
            refine x_istore_n (lv2 := [(0, .ref h0), (1, .ref a10)]) S d_Row_order_76 rfl hl (by decide) [0, 1] rfl ⟨⟨(by decide : (0 : Nat) ≠ 2), fun h => absurd (show (0 : Nat) + 1 = 2 from h) (by decide)⟩, ⟨⟨(by decide : (1 : Nat) ≠ 2), fun _ => rfl⟩, trivial⟩⟩ (fun ls hl => ?_)
            refine lv_iload_n S.1 S.2.1 d_Row_order_77 rfl (lv_at hl 0 rfl) ?_
            refine lv_if_eq (tgt := 83) S.1 S.2.1 d_Row_order_78 (by decide) (fun hc => ?_) (fun hc => ?_)
            · have hf := b_if_t hc hf
              exact w83  _ _ _ _ _ _ hf hI (lv_sub hl [1, 2] rfl)
            · have hf := b_if_f hc hf
              refine lv_iload_n S.1 S.2.1 d_Row_order_81 rfl (lv_at hl 0 rfl) ?_
              exact hret _ _ _ _ _ _ _ _ d_Row_order_82 hf hI
    · have hf := b_if_f hc hf
      refine lv_aload_n S.1 S.2.1 d_Row_order_32 rfl (lv_at hl 0 rfl) ?_
      refine x_getI (ci := 7) (k := 1) S hK hI (fun w h => List.mem_cons_of_mem _ (i_Row w h)) rfl (by decide) (List.mem_cons_of_mem _ wd_151) rfl d_Row_order_33 hf (fun v24 hf => ?_)
      refine lv_aload_n S.1 S.2.1 d_Row_order_36 rfl (lv_at hl 1 rfl) ?_
      refine x_getI (ci := 7) (k := 1) S hK hI (fun w h => List.mem_cons_of_mem _ (i_Row w h)) rfl (by decide) (List.mem_cons_of_mem _ wd_151) rfl d_Row_order_37 hf (fun v25 hf => ?_)
      refine lv_isub S.1 S.2.1 d_Row_order_40 ?_
      exact hret _ _ _ _ _ _ _ _ d_Row_order_41 hf hI
  · have hf := b_if_f hc hf
    refine lv_aload_n S.1 S.2.1 d_Row_order_11 rfl (lv_at hl 0 rfl) ?_
    refine x_getI (ci := 7) (k := 0) S hK hI (fun w h => List.mem_cons_of_mem _ (i_Row w h)) rfl (by decide) (List.mem_cons_of_mem _ wd_150) rfl d_Row_order_12 hf (fun v26 hf => ?_)
    refine lv_aload_n S.1 S.2.1 d_Row_order_15 rfl (lv_at hl 1 rfl) ?_
    refine x_getI (ci := 7) (k := 0) S hK hI (fun w h => List.mem_cons_of_mem _ (i_Row w h)) rfl (by decide) (List.mem_cons_of_mem _ wd_150) rfl d_Row_order_16 hf (fun v27 hf => ?_)
    refine lv_isub S.1 S.2.1 d_Row_order_19 ?_
    exact hret _ _ _ _ _ _ _ _ d_Row_order_20 hf hI
set_option maxHeartbeats 4000000 in
set_option maxRecDepth 100000 in
theorem c_Reader_sortRows (l : Launch) {D : va_G} {dA : Nat → ClassId} {aK aV : Nat → Nat} {z : Nat} {N : Nat} {h0 : Nat} {M : hM} {Z : Unit × hM} (hf : (f_Reader_sortRows N h0 ).1 M = some Z) : Met l y_Reader_sortRows w_Reader_sortRows ({ frames := 3, cells := Z.2.2.1 - M.2.1, slots := Z.2.2.2 - M.2.2, locals := 69 }) (va_Pc [.ref h0] (hm_B D dA hCl (hTy dA) sT aK aV z M)) (hm_Q D dA hCl (hTy dA) sT aK aV z none Z.2) (Z.2.2.1 - M.2.1) (Z.2.2.2 - M.2.2) (fun q => z ≤ q) := by
  refine Met.ofW (cc := b_Reader_sortRows) (maxL := 4) (ret := none) (by decide) rfl ?_
  intro p e s m args below meth c s₁ B hml hv
  obtain ⟨hav, hB⟩ := hv
  have S : CallFix p m c b_Reader_sortRows 4 s args w_Reader_sortRows R_Reader := ⟨B.exec, B.bytes, hml, findClass_of_methodNamed B.named, atoms_spec (ws := w_Reader_sortRows) B.pre⟩
  have hr : meth.sig.returnType = none := B.returns
  have hlocks := B.notSynchronized
  have hK := hB.2.2.1
  have hG := hB.2.2.2.2.2
  have hI := hm_I.start hB
  rw [← hB.2.1]
  generalize M.2.2 = k1 at hI ⊢
  refine W.eq (g2 := F0 m 0 ((lg_sl ([.ref h0]) ++ List.replicate (4 - (lg_sl ([.ref h0])).length) Slot.unset).toArray) []) (by rw [hav]; exact lg_entry_eq m ([.ref h0]) 4) ?_
  have hl := lv_entry ([.ref h0]) (n := 4) (Nat.le_of_ble_eq_true rfl)
  generalize (lg_sl ([.ref h0]) ++ List.replicate (4 - (lg_sl ([.ref h0])).length) Slot.unset).toArray = ls at hl ⊢
  simp only [lvA_nil, lvA_i, lvA_l, lvA_a, lvA_r, Nat.zero_add, Nat.reduceAdd] at hl
  have hret : ∀ (M : hM) (H : Heap) (locs : List Loc) (cells slots : Nat) (ls : Array Slot) (pc : Nat), decode b_Reader_sortRows pc = .ok (.return_, 1) → (b_ret ()).1 M = some Z → hm_I D dA hCl z k1 s M H locs cells slots → W p l e (headSpec w_Reader_sortRows { frames := 3, cells := Z.2.2.1 - s.heap.size, slots := Z.2.2.2 - k1, locals := 69 }).room s m args below meth c H locs cells slots (MQ below (hm_Q D dA hCl (hTy dA) sT aK aV z none Z.2) args s (Z.2.2.1 - s.heap.size) (Z.2.2.2 - k1) (fun q => z ≤ q)) (F0 m pc ls []) := fun M H locs cells slots ls pc hdg hf hI => x_retv S hK hG hI hr hlocks hdg hf
  have hR : Z.2.2.1 - s.heap.size ≤ (headSpec w_Reader_sortRows { frames := 3, cells := Z.2.2.1 - s.heap.size, slots := Z.2.2.2 - k1, locals := 69 }).room.cells ∧ Z.2.2.2 - k1 ≤ (headSpec w_Reader_sortRows { frames := 3, cells := Z.2.2.1 - s.heap.size, slots := Z.2.2.2 - k1, locals := 69 }).room.slots := ⟨Nat.le_refl _, Nat.le_refl _⟩
  have hRf : 3 ≤ (headSpec w_Reader_sortRows { frames := 3, cells := Z.2.2.1 - s.heap.size, slots := Z.2.2.2 - k1, locals := 69 }).room.frames ∧ 69 ≤ (headSpec w_Reader_sortRows { frames := 3, cells := Z.2.2.1 - s.heap.size, slots := Z.2.2.2 - k1, locals := 69 }).room.locals := ⟨Nat.le_refl _, Nat.le_refl _⟩
  generalize (headSpec w_Reader_sortRows { frames := 3, cells := Z.2.2.1 - s.heap.size, slots := Z.2.2.2 - k1, locals := 69 }).room = R at hret hR hRf ⊢
  generalize (MQ below (hm_Q D dA hCl (hTy dA) sT aK aV z none Z.2) args s (Z.2.2.1 - s.heap.size) (Z.2.2.2 - k1) (fun q => z ≤ q)) = Q at hret ⊢
  rw [e_Reader_sortRows] at hf
  have w2 : ∀ (n : Nat) (x1 : Int32) (M : hM) (H : Heap) (locs : List Loc) (ls : Array Slot) (cells slots : Nat), (f_Reader_sortRows_2 N h0  n x1).1 M = some Z → hm_I D dA hCl z k1 s M H locs cells slots → lv_has ls 4 [(0, .ref h0), (1, .int x1)] → W p l e R s m args below meth c H locs cells slots Q (F0 m 2 ls []) := by
    intro n
    induction n with
    | zero => intro x1 M H locs ls cells slots hf hI hl; cases hf
    | succ n2 ih2 =>
      intro x1 M H locs ls cells slots hf hI hl
      rw [e_Reader_sortRows_2] at hf
      have w19 : ∀ (n : Nat) (x1 : Int32) (x2 : Option Nat) (x3 : Int32) (M : hM) (H : Heap) (locs : List Loc) (ls : Array Slot) (cells slots : Nat), (f_Reader_sortRows_19 N h0  ((f_Reader_sortRows_2 N h0 n2)) n x1 x2 x3).1 M = some Z → hm_I D dA hCl z k1 s M H locs cells slots → lv_has ls 4 [(0, .ref h0), (1, .int x1), (2, va_rf x2), (3, .int x3)] → W p l e R s m args below meth c H locs cells slots Q (F0 m 19 ls []) := by
        intro n
        induction n with
        | zero => intro x1 x2 x3 M H locs ls cells slots hf hI hl; cases hf
        | succ n19 ih19 =>
          intro x1 x2 x3 M H locs ls cells slots hf hI hl
          rw [e_Reader_sortRows_19] at hf
          obtain ⟨J58, eJ58, hf⟩ := b_let_inv hf
          have w58 : ∀ (x1 : Int32) (x2 : Option Nat) (x3 : Int32) (M : hM) (H : Heap) (locs : List Loc) (ls : Array Slot) (cells slots : Nat), (J58 x1 x2 x3).1 M = some Z → hm_I D dA hCl z k1 s M H locs cells slots → lv_has ls 4 [(0, .ref h0), (1, .int x1), (2, va_rf x2), (3, .int x3)] → W p l e R s m args below meth c H locs cells slots Q (F0 m 58 ls []) := by
            intro x1 x2 x3 M H locs ls cells slots hf hI hl
            rw [eJ58] at hf
            refine lv_aload_n S.1 S.2.1 d_Reader_sortRows_58 rfl (lv_at hl 0 rfl) ?_
            refine x_getR (ci := 6) (k := 1) S hK hI (fun w h => List.mem_cons_of_mem _ (i_Reader w h)) rfl (by decide) (List.mem_cons_of_mem _ wd_17) rfl d_Reader_sortRows_59 hf (fun r1 hf => ?_)
            refine lv_iload_n S.1 S.2.1 d_Reader_sortRows_62 rfl (lv_at hl 3 rfl) ?_
            refine x_aload_n (r := x2) S d_Reader_sortRows_63 rfl (lv_at hl 2 rfl) ?_
            obtain ⟨a2, ea2, hg⟩ := b_nn_inv hf
            have hI0 := hI
            have hl0 := hl
            clear hf hI hl
            subst ea2
            have hf := hg
            have hI := hI0
            have hl := hl0
            clear hg hI0 hl0
            refine x_aast (t := 1) (r := x2) S hK hI rfl rfl d_Reader_sortRows_64 hf (fun M H locs hf hI => ?_)
            refine x_iinc (v := 1) (lv2 := [(0, .ref h0), (2, va_rf x2), (3, .int x3)]) S d_Reader_sortRows_65 hl 1 rfl (by decide) (by decide) [0, 2, 3] rfl ⟨⟨(by decide : (0 : Nat) ≠ 1), fun _ => rfl⟩, ⟨⟨(by decide : (2 : Nat) ≠ 1), fun h => absurd (show (2 : Nat) + 1 = 1 from h) (by decide)⟩, ⟨⟨(by decide : (3 : Nat) ≠ 1), fun h => absurd (show (3 : Nat) + 1 = 1 from h) (by decide)⟩, trivial⟩⟩⟩ (fun ls hl => ?_)
            refine lv_goto (tgt := 2) S.1 S.2.1 d_Reader_sortRows_68 (by decide) ?_
            exact ih2 (x1 + 1) _ _ _ _ _ _ hf hI (lv_sub hl [1, 0] rfl)
          refine lv_iload_n S.1 S.2.1 d_Reader_sortRows_19 rfl (lv_at hl 3 rfl) ?_
          refine lv_if_le (tgt := 58) S.1 S.2.1 d_Reader_sortRows_20 (by decide) (fun hc => ?_) (fun hc => ?_)
          · have hf := b_if_t hc hf
            exact w58 x1 x2 x3 _ _ _ _ _ _ hf hI (lv_sub hl [0, 1, 2, 3] rfl)
          · have hf := b_if_f hc hf
            refine lv_aload_n S.1 S.2.1 d_Reader_sortRows_23 rfl (lv_at hl 0 rfl) ?_
            refine x_getR (ci := 6) (k := 1) S hK hI (fun w h => List.mem_cons_of_mem _ (i_Reader w h)) rfl (by decide) (List.mem_cons_of_mem _ wd_17) rfl d_Reader_sortRows_24 hf (fun r3 hf => ?_)
            refine lv_iload_n S.1 S.2.1 d_Reader_sortRows_27 rfl (lv_at hl 3 rfl) ?_
            refine lv_iconst (v := 1) S.1 S.2.1 d_Reader_sortRows_28 (by decide) ?_
            refine lv_isub S.1 S.2.1 d_Reader_sortRows_29 ?_
            obtain ⟨a4, ea4, hg⟩ := b_nn_inv hf
            have hI0 := hI
            have hl0 := hl
            clear hf hI hl
            subst ea4
            have hf := hg
            have hI := hI0
            have hl := hl0
            clear hg hI0 hl0
            refine x_aald (t := 1) S hK hI rfl d_Reader_sortRows_30 hf (fun r5 hf => ?_)
            refine x_aload_n (r := x2) S d_Reader_sortRows_31 rfl (lv_at hl 2 rfl) ?_
            obtain ⟨a6, ea6, hg⟩ := b_nn_inv hf
            have hI0 := hI
            have hl0 := hl
            clear hf hI hl
            subst ea6
            have hf := hg
            have hI := hI0
            have hl := hl0
            clear hg hI0 hl0
            obtain ⟨⟨fs10, hefs10⟩, hf⟩ := b_is_inv hf
            obtain ⟨v7, N8, hg9, hf⟩ := b_call_inv hf
            refine x_call hI (hm_mo hg9) (va_runV (As := [va_rf x2]) (rest := []) S (c_Row_order l hg9) (cwV 1 S.2.2.2.2 (gi_V wd_318 wd_319 wd_320 wd_157 wd_321) rfl rfl rfl (by decide +kernel) ⟨Nat.le_trans (Nat.le_of_ble_eq_true rfl) hRf.1, Nat.le_trans (Nat.le_of_ble_eq_true rfl) hRf.2⟩) ⟨hm_B.blind, va_recv hK (hI.1.one hefs10) (ci := 7) (q0 := 0) rfl rfl, fun U hU hW => ⟨rfl, hm_B.of hK hG hI hU hW⟩⟩ rfl rfl hl.1 rfl (lv_room (Nat.le_of_ble_eq_true rfl)) d_Reader_sortRows_32 (hx_fit hI hR (hm_mo hg9) (hm_mo hf))) (fun H locs cells slots hI => ?_)
            refine W.eq (g2 := F0 m 35 ls [.int v7]) rfl ?_
            refine lv_if_le (tgt := 58) S.1 S.2.1 d_Reader_sortRows_35 (by decide) (fun hc => ?_) (fun hc => ?_)
            · have hf := b_if_t hc hf
              exact w58 x1 x2 x3 _ _ _ _ _ _ hf hI (lv_sub hl [0, 1, 2, 3] rfl)
            · have hf := b_if_f hc hf
              refine lv_aload_n S.1 S.2.1 d_Reader_sortRows_38 rfl (lv_at hl 0 rfl) ?_
              refine x_getR (ci := 6) (k := 1) S hK hI (fun w h => List.mem_cons_of_mem _ (i_Reader w h)) rfl (by decide) (List.mem_cons_of_mem _ wd_17) rfl d_Reader_sortRows_39 hf (fun r11 hf => ?_)
              refine lv_iload_n S.1 S.2.1 d_Reader_sortRows_42 rfl (lv_at hl 3 rfl) ?_
              refine lv_aload_n S.1 S.2.1 d_Reader_sortRows_43 rfl (lv_at hl 0 rfl) ?_
              refine x_getR (ci := 6) (k := 1) S hK hI (fun w h => List.mem_cons_of_mem _ (i_Reader w h)) rfl (by decide) (List.mem_cons_of_mem _ wd_17) rfl d_Reader_sortRows_44 hf (fun r12 hf => ?_)
              refine lv_iload_n S.1 S.2.1 d_Reader_sortRows_47 rfl (lv_at hl 3 rfl) ?_
              refine lv_iconst (v := 1) S.1 S.2.1 d_Reader_sortRows_48 (by decide) ?_
              refine lv_isub S.1 S.2.1 d_Reader_sortRows_49 ?_
              obtain ⟨a13, ea13, hg⟩ := b_nn_inv hf
              have hI0 := hI
              have hl0 := hl
              clear hf hI hl
              subst ea13
              have hf := hg
              have hI := hI0
              have hl := hl0
              clear hg hI0 hl0
              refine x_aald (t := 1) S hK hI rfl d_Reader_sortRows_50 hf (fun r14 hf => ?_)
              obtain ⟨a15, ea15, hg⟩ := b_nn_inv hf
              have hI0 := hI
              have hl0 := hl
              clear hf hI hl
              subst ea15
              have hf := hg
              have hI := hI0
              have hl := hl0
              clear hg hI0 hl0
              refine x_aast (t := 1) (r := r14) S hK hI rfl rfl d_Reader_sortRows_51 hf (fun M H locs hf hI => ?_)
              refine x_iinc (v := (-1)) (lv2 := [(0, .ref h0), (1, .int x1), (2, va_rf x2)]) S d_Reader_sortRows_52 hl 3 rfl (by decide) (by decide) [0, 1, 2] rfl ⟨⟨(by decide : (0 : Nat) ≠ 3), fun h => absurd (show (0 : Nat) + 1 = 3 from h) (by decide)⟩, ⟨⟨(by decide : (1 : Nat) ≠ 3), fun h => absurd (show (1 : Nat) + 1 = 3 from h) (by decide)⟩, ⟨⟨(by decide : (2 : Nat) ≠ 3), fun _ => rf_cat _⟩, trivial⟩⟩⟩ (fun ls hl => ?_)
              refine lv_goto (tgt := 19) S.1 S.2.1 d_Reader_sortRows_55 (by decide) ?_
              exact ih19 x1 x2 (x3 + (-1)) _ _ _ _ _ _ hf hI (lv_sub hl [1, 2, 3, 0] rfl)
      refine lv_iload_n S.1 S.2.1 d_Reader_sortRows_2 rfl (lv_at hl 1 rfl) ?_
      refine lv_aload_n S.1 S.2.1 d_Reader_sortRows_3 rfl (lv_at hl 0 rfl) ?_
      refine x_getI (ci := 6) (k := 3) S hK hI (fun w h => List.mem_cons_of_mem _ (i_Reader w h)) rfl (by decide) (List.mem_cons_of_mem _ wd_62) rfl d_Reader_sortRows_4 hf (fun v16 hf => ?_)
      refine lv_icmp_ge (tgt := 71) S.1 S.2.1 d_Reader_sortRows_7 (by decide) (fun hc => ?_) (fun hc => ?_)
      · have hf := b_if_t hc hf
        exact hret _ _ _ _ _ _ _ d_Reader_sortRows_71 hf hI
      · have hf := b_if_f hc hf
        refine lv_aload_n S.1 S.2.1 d_Reader_sortRows_10 rfl (lv_at hl 0 rfl) ?_
        refine x_getR (ci := 6) (k := 1) S hK hI (fun w h => List.mem_cons_of_mem _ (i_Reader w h)) rfl (by decide) (List.mem_cons_of_mem _ wd_17) rfl d_Reader_sortRows_11 hf (fun r17 hf => ?_)
        refine lv_iload_n S.1 S.2.1 d_Reader_sortRows_14 rfl (lv_at hl 1 rfl) ?_
        obtain ⟨a18, ea18, hg⟩ := b_nn_inv hf
        have hI0 := hI
        have hl0 := hl
        clear hf hI hl
        subst ea18
        have hf := hg
        have hI := hI0
        have hl := hl0
        clear hg hI0 hl0
        refine x_aald (t := 1) S hK hI rfl d_Reader_sortRows_15 hf (fun r19 hf => ?_)
        refine x_astore_n (r := r19) (lv2 := [(0, .ref h0), (1, .int x1)]) S d_Reader_sortRows_16 rfl hl (by decide) [0, 1] rfl ⟨⟨(by decide : (0 : Nat) ≠ 2), fun h => absurd (show (0 : Nat) + 1 = 2 from h) (by decide)⟩, ⟨⟨(by decide : (1 : Nat) ≠ 2), fun _ => rfl⟩, trivial⟩⟩ (fun ls hl => ?_)
        refine lv_iload_n S.1 S.2.1 d_Reader_sortRows_17 rfl (lv_at hl 2 rfl) ?_
        refine x_istore_n (lv2 := [(2, va_rf r19), (0, .ref h0), (1, .int x1)]) S d_Reader_sortRows_18 rfl hl (by decide) [0, 1, 2] rfl ⟨⟨(by decide : (2 : Nat) ≠ 3), fun _ => rf_cat _⟩, ⟨⟨(by decide : (0 : Nat) ≠ 3), fun h => absurd (show (0 : Nat) + 1 = 3 from h) (by decide)⟩, ⟨⟨(by decide : (1 : Nat) ≠ 3), fun h => absurd (show (1 : Nat) + 1 = 3 from h) (by decide)⟩, trivial⟩⟩⟩ (fun ls hl => ?_)
        exact w19 N x1 r19 x1 _ _ _ _ _ _ hf hI (lv_sub hl [2, 3, 1, 0] rfl)
  refine lv_iconst (v := 1) S.1 S.2.1 d_Reader_sortRows_0 (by decide) ?_
  refine x_istore_n (lv2 := [(0, .ref h0)]) S d_Reader_sortRows_1 rfl hl (by decide) [0] rfl ⟨⟨(by decide : (0 : Nat) ≠ 1), fun _ => rfl⟩, trivial⟩ (fun ls hl => ?_)
  exact w2 N 1 _ _ _ _ _ _ hf hI (lv_sub hl [1, 0] rfl)
set_option maxHeartbeats 4000000 in
set_option maxRecDepth 100000 in
theorem c_Kind_joins (l : Launch) {D : va_G} {dA : Nat → ClassId} {aK aV : Nat → Nat} {z : Nat} {N : Nat} {p0 : Int32} {M : hM} {Z : Int32 × hM} (hf : (f_Kind_joins N p0).1 M = some Z) : Met l y_Kind_joins w_Kind_joins ({ frames := 1, cells := Z.2.2.1 - M.2.1, slots := Z.2.2.2 - M.2.2, locals := 20 }) (va_Pc [.int p0] (hm_B D dA hCl (hTy dA) sT aK aV z M)) (hm_Q D dA hCl (hTy dA) sT aK aV z (some (.int Z.1)) Z.2) (Z.2.2.1 - M.2.1) (Z.2.2.2 - M.2.2) (fun q => z ≤ q) := by
  refine Met.ofW (cc := b_Kind_joins) (maxL := 1) (ret := (some .boolean)) (by decide) rfl ?_
  intro p e s m args below meth c s₁ B hml hv
  obtain ⟨hav, hB⟩ := hv
  have S : CallFix p m c b_Kind_joins 1 s args w_Kind_joins R_Kind := ⟨B.exec, B.bytes, hml, findClass_of_methodNamed B.named, atoms_spec (ws := w_Kind_joins) B.pre⟩
  have hr : meth.sig.returnType = (some .boolean) := B.returns
  have hlocks := B.notSynchronized
  have hK := hB.2.2.1
  have hG := hB.2.2.2.2.2
  have hI := hm_I.start hB
  rw [← hB.2.1]
  generalize M.2.2 = k1 at hI ⊢
  refine W.eq (g2 := F0 m 0 ((lg_sl ([.int p0]) ++ List.replicate (1 - (lg_sl ([.int p0])).length) Slot.unset).toArray) []) (by rw [hav]; exact lg_entry_eq m ([.int p0]) 1) ?_
  have hl := lv_entry ([.int p0]) (n := 1) (Nat.le_of_ble_eq_true rfl)
  generalize (lg_sl ([.int p0]) ++ List.replicate (1 - (lg_sl ([.int p0])).length) Slot.unset).toArray = ls at hl ⊢
  simp only [lvA_nil, lvA_i, lvA_l, lvA_a, lvA_r, Nat.zero_add, Nat.reduceAdd] at hl
  have hret : ∀ (v : Int32) (M : hM) (H : Heap) (locs : List Loc) (cells slots : Nat) (ls : Array Slot) (pc : Nat), decode b_Kind_joins pc = .ok (.ireturn, 1) → (b_retN .boolean v).1 M = some Z → hm_I D dA hCl z k1 s M H locs cells slots → W p l e (headSpec w_Kind_joins { frames := 1, cells := Z.2.2.1 - s.heap.size, slots := Z.2.2.2 - k1, locals := 20 }).room s m args below meth c H locs cells slots (MQ below (hm_Q D dA hCl (hTy dA) sT aK aV z (some (.int Z.1)) Z.2) args s (Z.2.2.1 - s.heap.size) (Z.2.2.2 - k1) (fun q => z ≤ q)) (F0 m pc ls [.int v]) := fun v M H locs cells slots ls pc hdg hf hI => x_retn S hK hG hI hr hlocks hdg hf
  have hR : Z.2.2.1 - s.heap.size ≤ (headSpec w_Kind_joins { frames := 1, cells := Z.2.2.1 - s.heap.size, slots := Z.2.2.2 - k1, locals := 20 }).room.cells ∧ Z.2.2.2 - k1 ≤ (headSpec w_Kind_joins { frames := 1, cells := Z.2.2.1 - s.heap.size, slots := Z.2.2.2 - k1, locals := 20 }).room.slots := ⟨Nat.le_refl _, Nat.le_refl _⟩
  have hRf : 1 ≤ (headSpec w_Kind_joins { frames := 1, cells := Z.2.2.1 - s.heap.size, slots := Z.2.2.2 - k1, locals := 20 }).room.frames ∧ 20 ≤ (headSpec w_Kind_joins { frames := 1, cells := Z.2.2.1 - s.heap.size, slots := Z.2.2.2 - k1, locals := 20 }).room.locals := ⟨Nat.le_refl _, Nat.le_refl _⟩
  generalize (headSpec w_Kind_joins { frames := 1, cells := Z.2.2.1 - s.heap.size, slots := Z.2.2.2 - k1, locals := 20 }).room = R at hret hR hRf ⊢
  generalize (MQ below (hm_Q D dA hCl (hTy dA) sT aK aV z (some (.int Z.1)) Z.2) args s (Z.2.2.1 - s.heap.size) (Z.2.2.2 - k1) (fun q => z ≤ q)) = Q at hret ⊢
  rw [e_Kind_joins] at hf
  obtain ⟨J18, eJ18, hf⟩ := b_let_inv hf
  have w18 : ∀ (y0 : Int32) (M : hM) (H : Heap) (locs : List Loc) (ls : Array Slot) (cells slots : Nat), (J18 y0).1 M = some Z → hm_I D dA hCl z k1 s M H locs cells slots → lv_has ls 1 [] → W p l e R s m args below meth c H locs cells slots Q (F0 m 18 ls [.int y0]) := by
    intro y0 M H locs ls cells slots hf hI hl
    rw [eJ18] at hf
    exact hret _ _ _ _ _ _ _ _ d_Kind_joins_18 hf hI
  obtain ⟨J13, eJ13, hf⟩ := b_let_inv hf
  have w13 : ∀  (M : hM) (H : Heap) (locs : List Loc) (ls : Array Slot) (cells slots : Nat), (J13).1 M = some Z → hm_I D dA hCl z k1 s M H locs cells slots → lv_has ls 1 [] → W p l e R s m args below meth c H locs cells slots Q (F0 m 13 ls []) := by
    intro M H locs ls cells slots hf hI hl
    rw [eJ13] at hf
    refine lv_iconst (v := 1) S.1 S.2.1 d_Kind_joins_13 (by decide) ?_
    refine lv_goto (tgt := 18) S.1 S.2.1 d_Kind_joins_14 (by decide) ?_
    exact w18 1 _ _ _ _ _ _ hf hI (lv_sub hl [] rfl)
  refine lv_iload_n S.1 S.2.1 d_Kind_joins_0 rfl (lv_at hl 0 rfl) ?_
  refine lv_bipush (v := 6) S.1 S.2.1 d_Kind_joins_1 (by decide) ?_
  refine lv_icmp_le (tgt := 13) S.1 S.2.1 d_Kind_joins_3 (by decide) (fun hc => ?_) (fun hc => ?_)
  · have hf := b_if_t hc hf
    exact w13  _ _ _ _ _ _ hf hI (lv_sub hl [] rfl)
  · have hf := b_if_f hc hf
    refine lv_iload_n S.1 S.2.1 d_Kind_joins_6 rfl (lv_at hl 0 rfl) ?_
    obtain ⟨v1, N2, hg3, hf⟩ := b_call_inv hf
    refine x_call hI (hm_mo hg3) (va_runS (As := [.int p0]) (rest := []) S (c_Kind_isList l hg3) (va_cwS 1 S.2.2.2.2 (gi_S wd_326 wd_203 wd_204 wd_205) rfl rfl rfl (by decide +kernel) ⟨Nat.le_trans (Nat.le_of_ble_eq_true rfl) hRf.1, Nat.le_trans (Nat.le_of_ble_eq_true rfl) hRf.2⟩) ⟨hm_B.blind, fun U hU hW => ⟨rfl, hm_B.of hK hG hI hU hW⟩⟩ rfl rfl hl.1 rfl (lv_room (Nat.le_of_ble_eq_true rfl)) d_Kind_joins_7 (hx_fit hI hR (hm_mo hg3) (hm_mo hf))) (fun H locs cells slots hI => ?_)
    refine W.eq (g2 := F0 m 10 ls [.int v1]) rfl ?_
    refine lv_if_eq (tgt := 17) S.1 S.2.1 d_Kind_joins_10 (by decide) (fun hc => ?_) (fun hc => ?_)
    · have hf := b_if_t hc hf
      refine lv_iconst (v := 0) S.1 S.2.1 d_Kind_joins_17 (by decide) ?_
      exact w18 0 _ _ _ _ _ _ hf hI (lv_sub hl [] rfl)
    · have hf := b_if_f hc hf
      exact w13  _ _ _ _ _ _ hf hI (lv_sub hl [] rfl)
set_option maxHeartbeats 4000000 in
set_option maxRecDepth 100000 in
theorem c_Row_joins (l : Launch) {D : va_G} {dA : Nat → ClassId} {aK aV : Nat → Nat} {z : Nat} {N : Nat} {h0 : Nat} {p0 : Option Nat} {M : hM} {Z : Int32 × hM} (hf : (f_Row_joins N h0 p0).1 M = some Z) : Met l y_Row_joins w_Row_joins ({ frames := 3, cells := Z.2.2.1 - M.2.1, slots := Z.2.2.2 - M.2.2, locals := 69 }) (va_Pc [.ref h0, va_rf p0] (hm_B D dA hCl (hTy dA) sT aK aV z M)) (hm_Q D dA hCl (hTy dA) sT aK aV z (some (.int Z.1)) Z.2) (Z.2.2.1 - M.2.1) (Z.2.2.2 - M.2.2) (fun q => z ≤ q) := by
  refine Met.ofW (cc := b_Row_joins) (maxL := 2) (ret := (some .boolean)) (by decide) rfl ?_
  intro p e s m args below meth c s₁ B hml hv
  obtain ⟨hav, hB⟩ := hv
  have S : CallFix p m c b_Row_joins 2 s args w_Row_joins R_Row := ⟨B.exec, B.bytes, hml, findClass_of_methodNamed B.named, atoms_spec (ws := w_Row_joins) B.pre⟩
  have hr : meth.sig.returnType = (some .boolean) := B.returns
  have hlocks := B.notSynchronized
  have hK := hB.2.2.1
  have hG := hB.2.2.2.2.2
  have hI := hm_I.start hB
  rw [← hB.2.1]
  generalize M.2.2 = k1 at hI ⊢
  refine W.eq (g2 := F0 m 0 ((lg_sl ([.ref h0, va_rf p0]) ++ List.replicate (2 - (lg_sl ([.ref h0, va_rf p0])).length) Slot.unset).toArray) []) (by rw [hav]; exact lg_entry_eq m ([.ref h0, va_rf p0]) 2) ?_
  have hl := lv_entry ([.ref h0, va_rf p0]) (n := 2) (by cases p0 <;> exact Nat.le_of_ble_eq_true rfl)
  generalize (lg_sl ([.ref h0, va_rf p0]) ++ List.replicate (2 - (lg_sl ([.ref h0, va_rf p0])).length) Slot.unset).toArray = ls at hl ⊢
  simp only [lvA_nil, lvA_i, lvA_l, lvA_a, lvA_r, Nat.zero_add, Nat.reduceAdd] at hl
  have hret : ∀ (v : Int32) (M : hM) (H : Heap) (locs : List Loc) (cells slots : Nat) (ls : Array Slot) (pc : Nat), decode b_Row_joins pc = .ok (.ireturn, 1) → (b_retN .boolean v).1 M = some Z → hm_I D dA hCl z k1 s M H locs cells slots → W p l e (headSpec w_Row_joins { frames := 3, cells := Z.2.2.1 - s.heap.size, slots := Z.2.2.2 - k1, locals := 69 }).room s m args below meth c H locs cells slots (MQ below (hm_Q D dA hCl (hTy dA) sT aK aV z (some (.int Z.1)) Z.2) args s (Z.2.2.1 - s.heap.size) (Z.2.2.2 - k1) (fun q => z ≤ q)) (F0 m pc ls [.int v]) := fun v M H locs cells slots ls pc hdg hf hI => x_retn S hK hG hI hr hlocks hdg hf
  have hR : Z.2.2.1 - s.heap.size ≤ (headSpec w_Row_joins { frames := 3, cells := Z.2.2.1 - s.heap.size, slots := Z.2.2.2 - k1, locals := 69 }).room.cells ∧ Z.2.2.2 - k1 ≤ (headSpec w_Row_joins { frames := 3, cells := Z.2.2.1 - s.heap.size, slots := Z.2.2.2 - k1, locals := 69 }).room.slots := ⟨Nat.le_refl _, Nat.le_refl _⟩
  have hRf : 3 ≤ (headSpec w_Row_joins { frames := 3, cells := Z.2.2.1 - s.heap.size, slots := Z.2.2.2 - k1, locals := 69 }).room.frames ∧ 69 ≤ (headSpec w_Row_joins { frames := 3, cells := Z.2.2.1 - s.heap.size, slots := Z.2.2.2 - k1, locals := 69 }).room.locals := ⟨Nat.le_refl _, Nat.le_refl _⟩
  generalize (headSpec w_Row_joins { frames := 3, cells := Z.2.2.1 - s.heap.size, slots := Z.2.2.2 - k1, locals := 69 }).room = R at hret hR hRf ⊢
  generalize (MQ below (hm_Q D dA hCl (hTy dA) sT aK aV z (some (.int Z.1)) Z.2) args s (Z.2.2.1 - s.heap.size) (Z.2.2.2 - k1) (fun q => z ≤ q)) = Q at hret ⊢
  rw [e_Row_joins] at hf
  obtain ⟨J23, eJ23, hf⟩ := b_let_inv hf
  have w23 : ∀ (y0 : Int32) (M : hM) (H : Heap) (locs : List Loc) (ls : Array Slot) (cells slots : Nat), (J23 y0).1 M = some Z → hm_I D dA hCl z k1 s M H locs cells slots → lv_has ls 2 [] → W p l e R s m args below meth c H locs cells slots Q (F0 m 23 ls [.int y0]) := by
    intro y0 M H locs ls cells slots hf hI hl
    rw [eJ23] at hf
    exact hret _ _ _ _ _ _ _ _ d_Row_joins_23 hf hI
  obtain ⟨J22, eJ22, hf⟩ := b_let_inv hf
  have w22 : ∀  (M : hM) (H : Heap) (locs : List Loc) (ls : Array Slot) (cells slots : Nat), (J22).1 M = some Z → hm_I D dA hCl z k1 s M H locs cells slots → lv_has ls 2 [] → W p l e R s m args below meth c H locs cells slots Q (F0 m 22 ls []) := by
    intro M H locs ls cells slots hf hI hl
    rw [eJ22] at hf
    refine lv_iconst (v := 0) S.1 S.2.1 d_Row_joins_22 (by decide) ?_
    exact w23 0 _ _ _ _ _ _ hf hI (lv_sub hl [] rfl)
  refine lv_aload_n S.1 S.2.1 d_Row_joins_0 rfl (lv_at hl 0 rfl) ?_
  refine x_getI (ci := 7) (k := 0) S hK hI (fun w h => List.mem_cons_of_mem _ (i_Row w h)) rfl (by decide) (List.mem_cons_of_mem _ wd_150) rfl d_Row_joins_1 hf (fun v1 hf => ?_)
  obtain ⟨v2, N3, hg4, hf⟩ := b_call_inv hf
  refine x_call hI (hm_mo hg4) (va_runS (As := [.int v1]) (rest := []) S (c_Kind_joins l hg4) (va_cwS 1 S.2.2.2.2 (gi_S wd_327 wd_328 wd_204 wd_329) rfl rfl rfl (by decide +kernel) ⟨Nat.le_trans (Nat.le_of_ble_eq_true rfl) hRf.1, Nat.le_trans (Nat.le_of_ble_eq_true rfl) hRf.2⟩) ⟨hm_B.blind, fun U hU hW => ⟨rfl, hm_B.of hK hG hI hU hW⟩⟩ rfl rfl hl.1 rfl (lv_room (Nat.le_of_ble_eq_true rfl)) d_Row_joins_4 (hx_fit hI hR (hm_mo hg4) (hm_mo hf))) (fun H locs cells slots hI => ?_)
  refine W.eq (g2 := F0 m 7 ls [.int v2]) rfl ?_
  refine lv_if_eq (tgt := 22) S.1 S.2.1 d_Row_joins_7 (by decide) (fun hc => ?_) (fun hc => ?_)
  · have hf := b_if_t hc hf
    exact w22  _ _ _ _ _ _ hf hI (lv_sub hl [] rfl)
  · have hf := b_if_f hc hf
    refine lv_aload_n S.1 S.2.1 d_Row_joins_10 rfl (lv_at hl 0 rfl) ?_
    refine x_aload_n (r := p0) S d_Row_joins_11 rfl (lv_at hl 1 rfl) ?_
    obtain ⟨⟨fs8, hefs8⟩, hf⟩ := b_is_inv hf
    obtain ⟨v5, N6, hg7, hf⟩ := b_call_inv hf
    refine x_call hI (hm_mo hg7) (va_runV (As := [va_rf p0]) (rest := []) S (c_Row_order l hg7) (cwV 1 S.2.2.2.2 (gi_V wd_330 wd_319 wd_320 wd_157 wd_321) rfl rfl rfl (by decide +kernel) ⟨Nat.le_trans (Nat.le_of_ble_eq_true rfl) hRf.1, Nat.le_trans (Nat.le_of_ble_eq_true rfl) hRf.2⟩) ⟨hm_B.blind, va_recv hK (hI.1.one hefs8) (ci := 7) (q0 := 0) rfl rfl, fun U hU hW => ⟨rfl, hm_B.of hK hG hI hU hW⟩⟩ rfl rfl hl.1 rfl (lv_room (Nat.le_of_ble_eq_true rfl)) d_Row_joins_12 (hx_fit hI hR (hm_mo hg7) (hm_mo hf))) (fun H locs cells slots hI => ?_)
    refine W.eq (g2 := F0 m 15 ls [.int v5]) rfl ?_
    refine lv_if_ne (tgt := 22) S.1 S.2.1 d_Row_joins_15 (by decide) (fun hc => ?_) (fun hc => ?_)
    · have hf := b_if_f hc hf
      exact w22  _ _ _ _ _ _ hf hI (lv_sub hl [] rfl)
    · have hf := b_if_t hc hf
      refine lv_iconst (v := 1) S.1 S.2.1 d_Row_joins_18 (by decide) ?_
      refine lv_goto (tgt := 23) S.1 S.2.1 d_Row_joins_19 (by decide) ?_
      exact w23 1 _ _ _ _ _ _ hf hI (lv_sub hl [] rfl)
set_option maxHeartbeats 4000000 in
set_option maxRecDepth 100000 in
theorem c_Name_isWrittenLike (l : Launch) {D : va_G} {dA : Nat → ClassId} {aK aV : Nat → Nat} {z : Nat} {N : Nat} {h0 : Nat} {p0 : Option Nat} {M : hM} {Z : Int32 × hM} (hf : (f_Name_isWrittenLike N h0 p0).1 M = some Z) : Met l y_Name_isWrittenLike w_Name_isWrittenLike ({ frames := 0, cells := Z.2.2.1 - M.2.1, slots := Z.2.2.2 - M.2.2, locals := 0 }) (va_Pc [.ref h0, va_rf p0] (hm_B D dA hCl (hTy dA) sT aK aV z M)) (hm_Q D dA hCl (hTy dA) sT aK aV z (some (.int Z.1)) Z.2) (Z.2.2.1 - M.2.1) (Z.2.2.2 - M.2.2) (fun q => z ≤ q) := by
  refine Met.ofW (cc := b_Name_isWrittenLike) (maxL := 3) (ret := (some .boolean)) (by decide) rfl ?_
  intro p e s m args below meth c s₁ B hml hv
  obtain ⟨hav, hB⟩ := hv
  have S : CallFix p m c b_Name_isWrittenLike 3 s args w_Name_isWrittenLike R_Name := ⟨B.exec, B.bytes, hml, findClass_of_methodNamed B.named, atoms_spec (ws := w_Name_isWrittenLike) B.pre⟩
  have hr : meth.sig.returnType = (some .boolean) := B.returns
  have hlocks := B.notSynchronized
  have hK := hB.2.2.1
  have hG := hB.2.2.2.2.2
  have hI := hm_I.start hB
  rw [← hB.2.1]
  generalize M.2.2 = k1 at hI ⊢
  refine W.eq (g2 := F0 m 0 ((lg_sl ([.ref h0, va_rf p0]) ++ List.replicate (3 - (lg_sl ([.ref h0, va_rf p0])).length) Slot.unset).toArray) []) (by rw [hav]; exact lg_entry_eq m ([.ref h0, va_rf p0]) 3) ?_
  have hl := lv_entry ([.ref h0, va_rf p0]) (n := 3) (by cases p0 <;> exact Nat.le_of_ble_eq_true rfl)
  generalize (lg_sl ([.ref h0, va_rf p0]) ++ List.replicate (3 - (lg_sl ([.ref h0, va_rf p0])).length) Slot.unset).toArray = ls at hl ⊢
  simp only [lvA_nil, lvA_i, lvA_l, lvA_a, lvA_r, Nat.zero_add, Nat.reduceAdd] at hl
  have hret : ∀ (v : Int32) (M : hM) (H : Heap) (locs : List Loc) (cells slots : Nat) (ls : Array Slot) (pc : Nat), decode b_Name_isWrittenLike pc = .ok (.ireturn, 1) → (b_retN .boolean v).1 M = some Z → hm_I D dA hCl z k1 s M H locs cells slots → W p l e (headSpec w_Name_isWrittenLike { frames := 0, cells := Z.2.2.1 - s.heap.size, slots := Z.2.2.2 - k1, locals := 0 }).room s m args below meth c H locs cells slots (MQ below (hm_Q D dA hCl (hTy dA) sT aK aV z (some (.int Z.1)) Z.2) args s (Z.2.2.1 - s.heap.size) (Z.2.2.2 - k1) (fun q => z ≤ q)) (F0 m pc ls [.int v]) := fun v M H locs cells slots ls pc hdg hf hI => x_retn S hK hG hI hr hlocks hdg hf
  have hR : Z.2.2.1 - s.heap.size ≤ (headSpec w_Name_isWrittenLike { frames := 0, cells := Z.2.2.1 - s.heap.size, slots := Z.2.2.2 - k1, locals := 0 }).room.cells ∧ Z.2.2.2 - k1 ≤ (headSpec w_Name_isWrittenLike { frames := 0, cells := Z.2.2.1 - s.heap.size, slots := Z.2.2.2 - k1, locals := 0 }).room.slots := ⟨Nat.le_refl _, Nat.le_refl _⟩
  have hRf : 0 ≤ (headSpec w_Name_isWrittenLike { frames := 0, cells := Z.2.2.1 - s.heap.size, slots := Z.2.2.2 - k1, locals := 0 }).room.frames ∧ 0 ≤ (headSpec w_Name_isWrittenLike { frames := 0, cells := Z.2.2.1 - s.heap.size, slots := Z.2.2.2 - k1, locals := 0 }).room.locals := ⟨Nat.le_refl _, Nat.le_refl _⟩
  generalize (headSpec w_Name_isWrittenLike { frames := 0, cells := Z.2.2.1 - s.heap.size, slots := Z.2.2.2 - k1, locals := 0 }).room = R at hret hR hRf ⊢
  generalize (MQ below (hm_Q D dA hCl (hTy dA) sT aK aV z (some (.int Z.1)) Z.2) args s (Z.2.2.1 - s.heap.size) (Z.2.2.2 - k1) (fun q => z ≤ q)) = Q at hret ⊢
  rw [e_Name_isWrittenLike] at hf
  have w17 : ∀ (n : Nat) (x2 : Int32) (M : hM) (H : Heap) (locs : List Loc) (ls : Array Slot) (cells slots : Nat), (f_Name_isWrittenLike_17 N h0 p0  n x2).1 M = some Z → hm_I D dA hCl z k1 s M H locs cells slots → lv_has ls 3 [(0, .ref h0), (1, va_rf p0), (2, .int x2)] → W p l e R s m args below meth c H locs cells slots Q (F0 m 17 ls []) := by
    intro n
    induction n with
    | zero => intro x2 M H locs ls cells slots hf hI hl; cases hf
    | succ n17 ih17 =>
      intro x2 M H locs ls cells slots hf hI hl
      rw [e_Name_isWrittenLike_17] at hf
      refine lv_iload_n S.1 S.2.1 d_Name_isWrittenLike_17 rfl (lv_at hl 2 rfl) ?_
      refine lv_aload_n S.1 S.2.1 d_Name_isWrittenLike_18 rfl (lv_at hl 0 rfl) ?_
      refine x_getR (ci := 2) (k := 0) S hK hI (fun w h => List.mem_cons_of_mem _ (i_Name w h)) rfl (by decide) (List.mem_cons_of_mem _ wd_122) rfl d_Name_isWrittenLike_19 hf (fun r1 hf => ?_)
      obtain ⟨a2, ea2, hg⟩ := b_nn_inv hf
      have hI0 := hI
      have hl0 := hl
      clear hf hI hl
      subst ea2
      have hf := hg
      have hI := hI0
      have hl := hl0
      clear hg hI0 hl0
      refine x_len (t := 0) S hK hI rfl d_Name_isWrittenLike_22 hf (fun v3 hf => ?_)
      refine lv_icmp_ge (tgt := 49) S.1 S.2.1 d_Name_isWrittenLike_23 (by decide) (fun hc => ?_) (fun hc => ?_)
      · have hf := b_if_t hc hf
        refine lv_iconst (v := 1) S.1 S.2.1 d_Name_isWrittenLike_49 (by decide) ?_
        exact hret _ _ _ _ _ _ _ _ d_Name_isWrittenLike_50 hf hI
      · have hf := b_if_f hc hf
        refine lv_aload_n S.1 S.2.1 d_Name_isWrittenLike_26 rfl (lv_at hl 0 rfl) ?_
        refine x_getR (ci := 2) (k := 0) S hK hI (fun w h => List.mem_cons_of_mem _ (i_Name w h)) rfl (by decide) (List.mem_cons_of_mem _ wd_122) rfl d_Name_isWrittenLike_27 hf (fun r4 hf => ?_)
        refine lv_iload_n S.1 S.2.1 d_Name_isWrittenLike_30 rfl (lv_at hl 2 rfl) ?_
        obtain ⟨a5, ea5, hg⟩ := b_nn_inv hf
        have hI0 := hI
        have hl0 := hl
        clear hf hI hl
        subst ea5
        have hf := hg
        have hI := hI0
        have hl := hl0
        clear hg hI0 hl0
        refine x_cald (t := 0) S hK hI rfl d_Name_isWrittenLike_31 hf (fun v6 hf => ?_)
        refine x_aload_n (r := p0) S d_Name_isWrittenLike_32 rfl (lv_at hl 1 rfl) ?_
        obtain ⟨a7, ea7, hg⟩ := b_nn_inv hf
        have hI0 := hI
        have hl0 := hl
        clear hf hI hl
        subst ea7
        have hf := hg
        have hI := hI0
        have hl := hl0
        clear hg hI0 hl0
        refine x_getR (ci := 2) (k := 0) S hK hI (fun w h => List.mem_cons_of_mem _ (i_Name w h)) rfl (by decide) (List.mem_cons_of_mem _ wd_122) rfl d_Name_isWrittenLike_33 hf (fun r8 hf => ?_)
        refine lv_iload_n S.1 S.2.1 d_Name_isWrittenLike_36 rfl (lv_at hl 2 rfl) ?_
        obtain ⟨a9, ea9, hg⟩ := b_nn_inv hf
        have hI0 := hI
        have hl0 := hl
        clear hf hI hl
        subst ea9
        have hf := hg
        have hI := hI0
        have hl := hl0
        clear hg hI0 hl0
        refine x_cald (t := 0) S hK hI rfl d_Name_isWrittenLike_37 hf (fun v10 hf => ?_)
        refine lv_icmp_eq (tgt := 43) S.1 S.2.1 d_Name_isWrittenLike_38 (by decide) (fun hc => ?_) (fun hc => ?_)
        · have hf := b_if_t hc hf
          refine x_iinc (v := 1) (lv2 := [(0, .ref h0), (1, .ref a7)]) S d_Name_isWrittenLike_43 hl 2 rfl (by decide) (by decide) [0, 1] rfl ⟨⟨(by decide : (0 : Nat) ≠ 2), fun h => absurd (show (0 : Nat) + 1 = 2 from h) (by decide)⟩, ⟨⟨(by decide : (1 : Nat) ≠ 2), fun _ => rfl⟩, trivial⟩⟩ (fun ls hl => ?_)
          refine lv_goto (tgt := 17) S.1 S.2.1 d_Name_isWrittenLike_46 (by decide) ?_
          exact ih17 (x2 + 1) _ _ _ _ _ _ hf hI (lv_sub hl [1, 2, 0] rfl)
        · have hf := b_if_f hc hf
          refine lv_iconst (v := 0) S.1 S.2.1 d_Name_isWrittenLike_41 (by decide) ?_
          exact hret _ _ _ _ _ _ _ _ d_Name_isWrittenLike_42 hf hI
  refine lv_aload_n S.1 S.2.1 d_Name_isWrittenLike_0 rfl (lv_at hl 0 rfl) ?_
  refine x_getR (ci := 2) (k := 0) S hK hI (fun w h => List.mem_cons_of_mem _ (i_Name w h)) rfl (by decide) (List.mem_cons_of_mem _ wd_122) rfl d_Name_isWrittenLike_1 hf (fun r11 hf => ?_)
  obtain ⟨a12, ea12, hg⟩ := b_nn_inv hf
  have hI0 := hI
  have hl0 := hl
  clear hf hI hl
  subst ea12
  have hf := hg
  have hI := hI0
  have hl := hl0
  clear hg hI0 hl0
  refine x_len (t := 0) S hK hI rfl d_Name_isWrittenLike_4 hf (fun v13 hf => ?_)
  refine x_aload_n (r := p0) S d_Name_isWrittenLike_5 rfl (lv_at hl 1 rfl) ?_
  obtain ⟨a14, ea14, hg⟩ := b_nn_inv hf
  have hI0 := hI
  have hl0 := hl
  clear hf hI hl
  subst ea14
  have hf := hg
  have hI := hI0
  have hl := hl0
  clear hg hI0 hl0
  refine x_getR (ci := 2) (k := 0) S hK hI (fun w h => List.mem_cons_of_mem _ (i_Name w h)) rfl (by decide) (List.mem_cons_of_mem _ wd_122) rfl d_Name_isWrittenLike_6 hf (fun r15 hf => ?_)
  obtain ⟨a16, ea16, hg⟩ := b_nn_inv hf
  have hI0 := hI
  have hl0 := hl
  clear hf hI hl
  subst ea16
  have hf := hg
  have hI := hI0
  have hl := hl0
  clear hg hI0 hl0
  refine x_len (t := 0) S hK hI rfl d_Name_isWrittenLike_9 hf (fun v17 hf => ?_)
  refine lv_icmp_eq (tgt := 15) S.1 S.2.1 d_Name_isWrittenLike_10 (by decide) (fun hc => ?_) (fun hc => ?_)
  · have hf := b_if_t hc hf
    refine lv_iconst (v := 0) S.1 S.2.1 d_Name_isWrittenLike_15 (by decide) ?_
    refine x_istore_n (lv2 := [(0, .ref h0), (1, .ref a14)]) S d_Name_isWrittenLike_16 rfl hl (by decide) [0, 1] rfl ⟨⟨(by decide : (0 : Nat) ≠ 2), fun h => absurd (show (0 : Nat) + 1 = 2 from h) (by decide)⟩, ⟨⟨(by decide : (1 : Nat) ≠ 2), fun _ => rfl⟩, trivial⟩⟩ (fun ls hl => ?_)
    exact w17 N 0 _ _ _ _ _ _ hf hI (lv_sub hl [1, 2, 0] rfl)
  · have hf := b_if_f hc hf
    refine lv_iconst (v := 0) S.1 S.2.1 d_Name_isWrittenLike_13 (by decide) ?_
    exact hret _ _ _ _ _ _ _ _ d_Name_isWrittenLike_14 hf hI
set_option maxHeartbeats 4000000 in
set_option maxRecDepth 100000 in
theorem c_Row_join (l : Launch) {D : va_G} {dA : Nat → ClassId} {aK aV : Nat → Nat} {z : Nat} {N : Nat} {h0 : Nat} {p0 : Option Nat} {M : hM} {Z : Unit × hM} (hf : (f_Row_join N h0 p0).1 M = some Z) : Met l y_Row_join w_Row_join ({ frames := 2, cells := Z.2.2.1 - M.2.1, slots := Z.2.2.2 - M.2.2, locals := 40 }) (va_Pc [.ref h0, va_rf p0] (hm_B D dA hCl (hTy dA) sT aK aV z M)) (hm_Q D dA hCl (hTy dA) sT aK aV z none Z.2) (Z.2.2.1 - M.2.1) (Z.2.2.2 - M.2.2) (fun q => z ≤ q) := by
  refine Met.ofW (cc := b_Row_join) (maxL := 2) (ret := none) (by decide) rfl ?_
  intro p e s m args below meth c s₁ B hml hv
  obtain ⟨hav, hB⟩ := hv
  have S : CallFix p m c b_Row_join 2 s args w_Row_join R_Row := ⟨B.exec, B.bytes, hml, findClass_of_methodNamed B.named, atoms_spec (ws := w_Row_join) B.pre⟩
  have hr : meth.sig.returnType = none := B.returns
  have hlocks := B.notSynchronized
  have hK := hB.2.2.1
  have hG := hB.2.2.2.2.2
  have hI := hm_I.start hB
  rw [← hB.2.1]
  generalize M.2.2 = k1 at hI ⊢
  refine W.eq (g2 := F0 m 0 ((lg_sl ([.ref h0, va_rf p0]) ++ List.replicate (2 - (lg_sl ([.ref h0, va_rf p0])).length) Slot.unset).toArray) []) (by rw [hav]; exact lg_entry_eq m ([.ref h0, va_rf p0]) 2) ?_
  have hl := lv_entry ([.ref h0, va_rf p0]) (n := 2) (by cases p0 <;> exact Nat.le_of_ble_eq_true rfl)
  generalize (lg_sl ([.ref h0, va_rf p0]) ++ List.replicate (2 - (lg_sl ([.ref h0, va_rf p0])).length) Slot.unset).toArray = ls at hl ⊢
  simp only [lvA_nil, lvA_i, lvA_l, lvA_a, lvA_r, Nat.zero_add, Nat.reduceAdd] at hl
  have hret : ∀ (M : hM) (H : Heap) (locs : List Loc) (cells slots : Nat) (ls : Array Slot) (pc : Nat), decode b_Row_join pc = .ok (.return_, 1) → (b_ret ()).1 M = some Z → hm_I D dA hCl z k1 s M H locs cells slots → W p l e (headSpec w_Row_join { frames := 2, cells := Z.2.2.1 - s.heap.size, slots := Z.2.2.2 - k1, locals := 40 }).room s m args below meth c H locs cells slots (MQ below (hm_Q D dA hCl (hTy dA) sT aK aV z none Z.2) args s (Z.2.2.1 - s.heap.size) (Z.2.2.2 - k1) (fun q => z ≤ q)) (F0 m pc ls []) := fun M H locs cells slots ls pc hdg hf hI => x_retv S hK hG hI hr hlocks hdg hf
  have hR : Z.2.2.1 - s.heap.size ≤ (headSpec w_Row_join { frames := 2, cells := Z.2.2.1 - s.heap.size, slots := Z.2.2.2 - k1, locals := 40 }).room.cells ∧ Z.2.2.2 - k1 ≤ (headSpec w_Row_join { frames := 2, cells := Z.2.2.1 - s.heap.size, slots := Z.2.2.2 - k1, locals := 40 }).room.slots := ⟨Nat.le_refl _, Nat.le_refl _⟩
  have hRf : 2 ≤ (headSpec w_Row_join { frames := 2, cells := Z.2.2.1 - s.heap.size, slots := Z.2.2.2 - k1, locals := 40 }).room.frames ∧ 40 ≤ (headSpec w_Row_join { frames := 2, cells := Z.2.2.1 - s.heap.size, slots := Z.2.2.2 - k1, locals := 40 }).room.locals := ⟨Nat.le_refl _, Nat.le_refl _⟩
  generalize (headSpec w_Row_join { frames := 2, cells := Z.2.2.1 - s.heap.size, slots := Z.2.2.2 - k1, locals := 40 }).room = R at hret hR hRf ⊢
  generalize (MQ below (hm_Q D dA hCl (hTy dA) sT aK aV z none Z.2) args s (Z.2.2.1 - s.heap.size) (Z.2.2.2 - k1) (fun q => z ≤ q)) = Q at hret ⊢
  rw [e_Row_join] at hf
  obtain ⟨J19, eJ19, hf⟩ := b_let_inv hf
  have w19 : ∀  (M : hM) (H : Heap) (locs : List Loc) (ls : Array Slot) (cells slots : Nat), (J19).1 M = some Z → hm_I D dA hCl z k1 s M H locs cells slots → lv_has ls 2 [(0, .ref h0), (1, va_rf p0)] → W p l e R s m args below meth c H locs cells slots Q (F0 m 19 ls []) := by
    intro M H locs ls cells slots hf hI hl
    rw [eJ19] at hf
    refine lv_aload_n S.1 S.2.1 d_Row_join_19 rfl (lv_at hl 0 rfl) ?_
    refine lv_aload_n S.1 S.2.1 d_Row_join_20 rfl (lv_at hl 0 rfl) ?_
    refine x_getL (ci := 7) (k := 4) S hK hI (fun w h => List.mem_cons_of_mem _ (i_Row w h)) rfl (by decide) (List.mem_cons_of_mem _ wd_154) rfl d_Row_join_21 hf (fun v1 hf => ?_)
    refine x_aload_n (r := p0) S d_Row_join_24 rfl (lv_at hl 1 rfl) ?_
    obtain ⟨a2, ea2, hg⟩ := b_nn_inv hf
    have hI0 := hI
    have hl0 := hl
    clear hf hI hl
    subst ea2
    have hf := hg
    have hI := hI0
    have hl := hl0
    clear hg hI0 hl0
    refine x_getL (ci := 7) (k := 4) S hK hI (fun w h => List.mem_cons_of_mem _ (i_Row w h)) rfl (by decide) (List.mem_cons_of_mem _ wd_154) rfl d_Row_join_25 hf (fun v3 hf => ?_)
    refine va_mmax_long S.1 S.2.1 (by rw [S.2.2.1]; exact hl.1.symm) S.2.2.2.1 (S.2.2.2.2 _ (List.mem_cons_of_mem _ wd_335)) (S.2.2.2.2 _ (List.mem_cons_of_mem _ wd_213)) (S.2.2.2.2 _ (List.mem_cons_of_mem _ wd_70)) (S.2.2.2.2 _ (List.mem_cons_of_mem _ wd_214)) (Nat.le_trans (Nat.le_of_ble_eq_true rfl) hRf.1) (Nat.le_trans (Nat.le_of_ble_eq_true rfl) hRf.2) (hm_cs hI hR (hm_mo hf)).1 (hm_cs hI hR (hm_mo hf)).2 d_Row_join_28 ?_
    refine x_put (ci := 7) (k := 4) S hK hI (fun w h => List.mem_cons_of_mem _ (i_Row w h)) t_Row t_Row_ok n_Row rfl (by decide) (List.mem_cons_of_mem _ wd_154) rfl (Or.inl rfl) (by rfl) rfl d_Row_join_31 hf (fun M H locs hf hI => ?_)
    refine lv_aload_n S.1 S.2.1 d_Row_join_34 rfl (lv_at hl 0 rfl) ?_
    refine lv_aload_n S.1 S.2.1 d_Row_join_35 rfl (lv_at hl 0 rfl) ?_
    refine x_getL (ci := 7) (k := 5) S hK hI (fun w h => List.mem_cons_of_mem _ (i_Row w h)) rfl (by decide) (List.mem_cons_of_mem _ wd_155) rfl d_Row_join_36 hf (fun v4 hf => ?_)
    refine lv_aload_n S.1 S.2.1 d_Row_join_39 rfl (lv_at hl 1 rfl) ?_
    refine x_getL (ci := 7) (k := 5) S hK hI (fun w h => List.mem_cons_of_mem _ (i_Row w h)) rfl (by decide) (List.mem_cons_of_mem _ wd_155) rfl d_Row_join_40 hf (fun v5 hf => ?_)
    refine va_mmin_long S.1 S.2.1 (by rw [S.2.2.1]; exact hl.1.symm) S.2.2.2.1 (S.2.2.2.2 _ (List.mem_cons_of_mem _ wd_336)) (S.2.2.2.2 _ (List.mem_cons_of_mem _ wd_210)) (S.2.2.2.2 _ (List.mem_cons_of_mem _ wd_70)) (S.2.2.2.2 _ (List.mem_cons_of_mem _ wd_211)) (Nat.le_trans (Nat.le_of_ble_eq_true rfl) hRf.1) (Nat.le_trans (Nat.le_of_ble_eq_true rfl) hRf.2) (hm_cs hI hR (hm_mo hf)).1 (hm_cs hI hR (hm_mo hf)).2 d_Row_join_43 ?_
    refine x_put (ci := 7) (k := 5) S hK hI (fun w h => List.mem_cons_of_mem _ (i_Row w h)) t_Row t_Row_ok n_Row rfl (by decide) (List.mem_cons_of_mem _ wd_155) rfl (Or.inl rfl) (by rfl) rfl d_Row_join_46 hf (fun M H locs hf hI => ?_)
    refine lv_aload_n S.1 S.2.1 d_Row_join_49 rfl (lv_at hl 0 rfl) ?_
    obtain ⟨⟨fs9, hefs9⟩, hf⟩ := b_is_inv hf
    obtain ⟨v6, N7, hg8, hf⟩ := b_call_inv hf
    refine x_call hI (hm_mo hg8) (va_runV (As := []) (rest := []) S (c_Row_hasEmptyRange l hg8) (cwV 0 S.2.2.2.2 (gi_V wd_337 wd_287 wd_288 wd_157 wd_289) rfl rfl rfl (by decide +kernel) ⟨Nat.le_trans (Nat.le_of_ble_eq_true rfl) hRf.1, Nat.le_trans (Nat.le_of_ble_eq_true rfl) hRf.2⟩) ⟨hm_B.blind, va_recv hK (hI.1.one hefs9) (ci := 7) (q0 := 0) rfl rfl, fun U hU hW => ⟨rfl, hm_B.of hK hG hI hU hW⟩⟩ rfl rfl hl.1 rfl (lv_room (Nat.le_of_ble_eq_true rfl)) d_Row_join_50 (hx_fit hI hR (hm_mo hg8) (hm_mo hf))) (fun H locs cells slots hI => ?_)
    refine W.eq (g2 := F0 m 53 ls [.int v6]) rfl ?_
    refine lv_if_eq (tgt := 66) S.1 S.2.1 d_Row_join_53 (by decide) (fun hc => ?_) (fun hc => ?_)
    · have hf := b_if_t hc hf
      exact hret _ _ _ _ _ _ _ d_Row_join_66 hf hI
    · have hf := b_if_f hc hf
      refine lv_aload_n S.1 S.2.1 d_Row_join_56 rfl (lv_at hl 0 rfl) ?_
      refine lv_lconst (v := 0) S.1 S.2.1 d_Row_join_57 (by decide) ?_
      refine x_put (ci := 7) (k := 4) S hK hI (fun w h => List.mem_cons_of_mem _ (i_Row w h)) t_Row t_Row_ok n_Row rfl (by decide) (List.mem_cons_of_mem _ wd_154) rfl (Or.inl rfl) (by rfl) rfl d_Row_join_58 hf (fun M H locs hf hI => ?_)
      refine lv_aload_n S.1 S.2.1 d_Row_join_61 rfl (lv_at hl 0 rfl) ?_
      refine lv_lconst (v := 0) S.1 S.2.1 d_Row_join_62 (by decide) ?_
      refine x_put (ci := 7) (k := 5) S hK hI (fun w h => List.mem_cons_of_mem _ (i_Row w h)) t_Row t_Row_ok n_Row rfl (by decide) (List.mem_cons_of_mem _ wd_155) rfl (Or.inl rfl) (by rfl) rfl d_Row_join_63 hf (fun M H locs hf hI => ?_)
      exact hret _ _ _ _ _ _ _ d_Row_join_66 hf hI
  refine lv_aload_n S.1 S.2.1 d_Row_join_0 rfl (lv_at hl 0 rfl) ?_
  refine x_getR (ci := 7) (k := 2) S hK hI (fun w h => List.mem_cons_of_mem _ (i_Row w h)) rfl (by decide) (List.mem_cons_of_mem _ wd_152) rfl d_Row_join_1 hf (fun r10 hf => ?_)
  refine x_aload_n (r := p0) S d_Row_join_4 rfl (lv_at hl 1 rfl) ?_
  obtain ⟨a11, ea11, hg⟩ := b_nn_inv hf
  have hI0 := hI
  have hl0 := hl
  clear hf hI hl
  subst ea11
  have hf := hg
  have hI := hI0
  have hl := hl0
  clear hg hI0 hl0
  refine x_getR (ci := 7) (k := 2) S hK hI (fun w h => List.mem_cons_of_mem _ (i_Row w h)) rfl (by decide) (List.mem_cons_of_mem _ wd_152) rfl d_Row_join_5 hf (fun r12 hf => ?_)
  obtain ⟨a13, ea13, hg⟩ := b_nn_inv hf
  have hI0 := hI
  have hl0 := hl
  clear hf hI hl
  subst ea13
  have hf := hg
  have hI := hI0
  have hl := hl0
  clear hg hI0 hl0
  obtain ⟨⟨fs17, hefs17⟩, hf⟩ := b_is_inv hf
  obtain ⟨v14, N15, hg16, hf⟩ := b_call_inv hf
  refine x_call hI (hm_mo hg16) (va_runV (As := [va_rf r12]) (rest := []) S (c_Name_isWrittenLike l hg16) (cwV 1 S.2.2.2.2 (gi_V wd_338 wd_339 wd_340 wd_75 wd_341) rfl rfl rfl (by decide +kernel) ⟨Nat.le_trans (Nat.le_of_ble_eq_true rfl) hRf.1, Nat.le_trans (Nat.le_of_ble_eq_true rfl) hRf.2⟩) ⟨hm_B.blind, va_recv hK (hI.1.one hefs17) (ci := 2) (q0 := 0) rfl rfl, fun U hU hW => ⟨rfl, hm_B.of hK hG hI hU hW⟩⟩ rfl rfl hl.1 rfl (lv_room (Nat.le_of_ble_eq_true rfl)) d_Row_join_8 (hx_fit hI hR (hm_mo hg16) (hm_mo hf))) (fun H locs cells slots hI => ?_)
  refine W.eq (g2 := F0 m 11 ls [.int v14]) rfl ?_
  refine lv_if_ne (tgt := 19) S.1 S.2.1 d_Row_join_11 (by decide) (fun hc => ?_) (fun hc => ?_)
  · have hf := b_if_f hc hf
    exact w19  _ _ _ _ _ _ hf hI (lv_sub hl [0, 1] rfl)
  · have hf := b_if_t hc hf
    refine lv_aload_n S.1 S.2.1 d_Row_join_14 rfl (lv_at hl 0 rfl) ?_
    refine lv_iconst (v := 1) S.1 S.2.1 d_Row_join_15 (by decide) ?_
    refine x_putN (ci := 7) (k := 6) S hK hI (fun w h => List.mem_cons_of_mem _ (i_Row w h)) t_Row t_Row_ok n_Row rfl (by decide) (List.mem_cons_of_mem _ wd_342) rfl (Or.inl rfl) d_Row_join_16 hf (fun M H locs hf hI => ?_)
    exact w19  _ _ _ _ _ _ hf hI (lv_sub hl [0, 1] rfl)
set_option maxHeartbeats 4000000 in
set_option maxRecDepth 100000 in
theorem c_Reader_joinRows (l : Launch) {D : va_G} {dA : Nat → ClassId} {aK aV : Nat → Nat} {z : Nat} {N : Nat} {h0 : Nat} {M : hM} {Z : Unit × hM} (hf : (f_Reader_joinRows N h0 ).1 M = some Z) : Met l y_Reader_joinRows w_Reader_joinRows ({ frames := 4, cells := Z.2.2.1 - M.2.1, slots := Z.2.2.2 - M.2.2, locals := 90 }) (va_Pc [.ref h0] (hm_B D dA hCl (hTy dA) sT aK aV z M)) (hm_Q D dA hCl (hTy dA) sT aK aV z none Z.2) (Z.2.2.1 - M.2.1) (Z.2.2.2 - M.2.2) (fun q => z ≤ q) := by
  refine Met.ofW (cc := b_Reader_joinRows) (maxL := 3) (ret := none) (by decide) rfl ?_
  intro p e s m args below meth c s₁ B hml hv
  obtain ⟨hav, hB⟩ := hv
  have S : CallFix p m c b_Reader_joinRows 3 s args w_Reader_joinRows R_Reader := ⟨B.exec, B.bytes, hml, findClass_of_methodNamed B.named, atoms_spec (ws := w_Reader_joinRows) B.pre⟩
  have hr : meth.sig.returnType = none := B.returns
  have hlocks := B.notSynchronized
  have hK := hB.2.2.1
  have hG := hB.2.2.2.2.2
  have hI := hm_I.start hB
  rw [← hB.2.1]
  generalize M.2.2 = k1 at hI ⊢
  refine W.eq (g2 := F0 m 0 ((lg_sl ([.ref h0]) ++ List.replicate (3 - (lg_sl ([.ref h0])).length) Slot.unset).toArray) []) (by rw [hav]; exact lg_entry_eq m ([.ref h0]) 3) ?_
  have hl := lv_entry ([.ref h0]) (n := 3) (Nat.le_of_ble_eq_true rfl)
  generalize (lg_sl ([.ref h0]) ++ List.replicate (3 - (lg_sl ([.ref h0])).length) Slot.unset).toArray = ls at hl ⊢
  simp only [lvA_nil, lvA_i, lvA_l, lvA_a, lvA_r, Nat.zero_add, Nat.reduceAdd] at hl
  have hret : ∀ (M : hM) (H : Heap) (locs : List Loc) (cells slots : Nat) (ls : Array Slot) (pc : Nat), decode b_Reader_joinRows pc = .ok (.return_, 1) → (b_ret ()).1 M = some Z → hm_I D dA hCl z k1 s M H locs cells slots → W p l e (headSpec w_Reader_joinRows { frames := 4, cells := Z.2.2.1 - s.heap.size, slots := Z.2.2.2 - k1, locals := 90 }).room s m args below meth c H locs cells slots (MQ below (hm_Q D dA hCl (hTy dA) sT aK aV z none Z.2) args s (Z.2.2.1 - s.heap.size) (Z.2.2.2 - k1) (fun q => z ≤ q)) (F0 m pc ls []) := fun M H locs cells slots ls pc hdg hf hI => x_retv S hK hG hI hr hlocks hdg hf
  have hR : Z.2.2.1 - s.heap.size ≤ (headSpec w_Reader_joinRows { frames := 4, cells := Z.2.2.1 - s.heap.size, slots := Z.2.2.2 - k1, locals := 90 }).room.cells ∧ Z.2.2.2 - k1 ≤ (headSpec w_Reader_joinRows { frames := 4, cells := Z.2.2.1 - s.heap.size, slots := Z.2.2.2 - k1, locals := 90 }).room.slots := ⟨Nat.le_refl _, Nat.le_refl _⟩
  have hRf : 4 ≤ (headSpec w_Reader_joinRows { frames := 4, cells := Z.2.2.1 - s.heap.size, slots := Z.2.2.2 - k1, locals := 90 }).room.frames ∧ 90 ≤ (headSpec w_Reader_joinRows { frames := 4, cells := Z.2.2.1 - s.heap.size, slots := Z.2.2.2 - k1, locals := 90 }).room.locals := ⟨Nat.le_refl _, Nat.le_refl _⟩
  generalize (headSpec w_Reader_joinRows { frames := 4, cells := Z.2.2.1 - s.heap.size, slots := Z.2.2.2 - k1, locals := 90 }).room = R at hret hR hRf ⊢
  generalize (MQ below (hm_Q D dA hCl (hTy dA) sT aK aV z none Z.2) args s (Z.2.2.1 - s.heap.size) (Z.2.2.2 - k1) (fun q => z ≤ q)) = Q at hret ⊢
  rw [e_Reader_joinRows] at hf
  have w4 : ∀ (n : Nat) (x1 : Int32) (x2 : Int32) (M : hM) (H : Heap) (locs : List Loc) (ls : Array Slot) (cells slots : Nat), (f_Reader_joinRows_4 N h0  n x1 x2).1 M = some Z → hm_I D dA hCl z k1 s M H locs cells slots → lv_has ls 3 [(0, .ref h0), (1, .int x1), (2, .int x2)] → W p l e R s m args below meth c H locs cells slots Q (F0 m 4 ls []) := by
    intro n
    induction n with
    | zero => intro x1 x2 M H locs ls cells slots hf hI hl; cases hf
    | succ n4 ih4 =>
      intro x1 x2 M H locs ls cells slots hf hI hl
      rw [e_Reader_joinRows_4] at hf
      obtain ⟨J71, eJ71, hf⟩ := b_let_inv hf
      have w71 : ∀ (x1 : Int32) (x2 : Int32) (M : hM) (H : Heap) (locs : List Loc) (ls : Array Slot) (cells slots : Nat), (J71 x1 x2).1 M = some Z → hm_I D dA hCl z k1 s M H locs cells slots → lv_has ls 3 [(0, .ref h0), (1, .int x1), (2, .int x2)] → W p l e R s m args below meth c H locs cells slots Q (F0 m 71 ls []) := by
        intro x1 x2 M H locs ls cells slots hf hI hl
        rw [eJ71] at hf
        refine x_iinc (v := 1) (lv2 := [(0, .ref h0), (1, .int x1)]) S d_Reader_joinRows_71 hl 2 rfl (by decide) (by decide) [0, 1] rfl ⟨⟨(by decide : (0 : Nat) ≠ 2), fun h => absurd (show (0 : Nat) + 1 = 2 from h) (by decide)⟩, ⟨⟨(by decide : (1 : Nat) ≠ 2), fun _ => rfl⟩, trivial⟩⟩ (fun ls hl => ?_)
        refine lv_goto (tgt := 4) S.1 S.2.1 d_Reader_joinRows_74 (by decide) ?_
        exact ih4 x1 (x2 + 1) _ _ _ _ _ _ hf hI (lv_sub hl [1, 2, 0] rfl)
      obtain ⟨J56, eJ56, hf⟩ := b_let_inv hf
      have w56 : ∀ (x1 : Int32) (x2 : Int32) (M : hM) (H : Heap) (locs : List Loc) (ls : Array Slot) (cells slots : Nat), (J56 x1 x2).1 M = some Z → hm_I D dA hCl z k1 s M H locs cells slots → lv_has ls 3 [(0, .ref h0), (1, .int x1), (2, .int x2)] → W p l e R s m args below meth c H locs cells slots Q (F0 m 56 ls []) := by
        intro x1 x2 M H locs ls cells slots hf hI hl
        rw [eJ56] at hf
        refine lv_aload_n S.1 S.2.1 d_Reader_joinRows_56 rfl (lv_at hl 0 rfl) ?_
        refine x_getR (ci := 6) (k := 1) S hK hI (fun w h => List.mem_cons_of_mem _ (i_Reader w h)) rfl (by decide) (List.mem_cons_of_mem _ wd_17) rfl d_Reader_joinRows_57 hf (fun r1 hf => ?_)
        refine lv_iload_n S.1 S.2.1 d_Reader_joinRows_60 rfl (lv_at hl 1 rfl) ?_
        refine lv_aload_n S.1 S.2.1 d_Reader_joinRows_61 rfl (lv_at hl 0 rfl) ?_
        refine x_getR (ci := 6) (k := 1) S hK hI (fun w h => List.mem_cons_of_mem _ (i_Reader w h)) rfl (by decide) (List.mem_cons_of_mem _ wd_17) rfl d_Reader_joinRows_62 hf (fun r2 hf => ?_)
        refine lv_iload_n S.1 S.2.1 d_Reader_joinRows_65 rfl (lv_at hl 2 rfl) ?_
        obtain ⟨a3, ea3, hg⟩ := b_nn_inv hf
        have hI0 := hI
        have hl0 := hl
        clear hf hI hl
        subst ea3
        have hf := hg
        have hI := hI0
        have hl := hl0
        clear hg hI0 hl0
        refine x_aald (t := 1) S hK hI rfl d_Reader_joinRows_66 hf (fun r4 hf => ?_)
        obtain ⟨a5, ea5, hg⟩ := b_nn_inv hf
        have hI0 := hI
        have hl0 := hl
        clear hf hI hl
        subst ea5
        have hf := hg
        have hI := hI0
        have hl := hl0
        clear hg hI0 hl0
        refine x_aast (t := 1) (r := r4) S hK hI rfl rfl d_Reader_joinRows_67 hf (fun M H locs hf hI => ?_)
        refine x_iinc (v := 1) (lv2 := [(0, .ref h0), (2, .int x2)]) S d_Reader_joinRows_68 hl 1 rfl (by decide) (by decide) [0, 2] rfl ⟨⟨(by decide : (0 : Nat) ≠ 1), fun _ => rfl⟩, ⟨⟨(by decide : (2 : Nat) ≠ 1), fun h => absurd (show (2 : Nat) + 1 = 1 from h) (by decide)⟩, trivial⟩⟩ (fun ls hl => ?_)
        exact w71 (x1 + 1) x2 _ _ _ _ _ _ hf hI (lv_sub hl [1, 0, 2] rfl)
      refine lv_iload_n S.1 S.2.1 d_Reader_joinRows_4 rfl (lv_at hl 2 rfl) ?_
      refine lv_aload_n S.1 S.2.1 d_Reader_joinRows_5 rfl (lv_at hl 0 rfl) ?_
      refine x_getI (ci := 6) (k := 3) S hK hI (fun w h => List.mem_cons_of_mem _ (i_Reader w h)) rfl (by decide) (List.mem_cons_of_mem _ wd_62) rfl d_Reader_joinRows_6 hf (fun v6 hf => ?_)
      refine lv_icmp_ge (tgt := 77) S.1 S.2.1 d_Reader_joinRows_9 (by decide) (fun hc => ?_) (fun hc => ?_)
      · have hf := b_if_t hc hf
        refine lv_aload_n S.1 S.2.1 d_Reader_joinRows_77 rfl (lv_at hl 0 rfl) ?_
        refine lv_iload_n S.1 S.2.1 d_Reader_joinRows_78 rfl (lv_at hl 1 rfl) ?_
        refine x_put (ci := 6) (k := 3) S hK hI (fun w h => List.mem_cons_of_mem _ (i_Reader w h)) t_Reader t_Reader_ok n_Reader rfl (by decide) (List.mem_cons_of_mem _ wd_62) rfl (Or.inl rfl) (by rfl) rfl d_Reader_joinRows_79 hf (fun M H locs hf hI => ?_)
        exact hret _ _ _ _ _ _ _ d_Reader_joinRows_82 hf hI
      · have hf := b_if_f hc hf
        refine lv_iload_n S.1 S.2.1 d_Reader_joinRows_12 rfl (lv_at hl 1 rfl) ?_
        refine lv_if_le (tgt := 56) S.1 S.2.1 d_Reader_joinRows_13 (by decide) (fun hc => ?_) (fun hc => ?_)
        · have hf := b_if_t hc hf
          exact w56 x1 x2 _ _ _ _ _ _ hf hI (lv_sub hl [0, 1, 2] rfl)
        · have hf := b_if_f hc hf
          refine lv_aload_n S.1 S.2.1 d_Reader_joinRows_16 rfl (lv_at hl 0 rfl) ?_
          refine x_getR (ci := 6) (k := 1) S hK hI (fun w h => List.mem_cons_of_mem _ (i_Reader w h)) rfl (by decide) (List.mem_cons_of_mem _ wd_17) rfl d_Reader_joinRows_17 hf (fun r7 hf => ?_)
          refine lv_iload_n S.1 S.2.1 d_Reader_joinRows_20 rfl (lv_at hl 1 rfl) ?_
          refine lv_iconst (v := 1) S.1 S.2.1 d_Reader_joinRows_21 (by decide) ?_
          refine lv_isub S.1 S.2.1 d_Reader_joinRows_22 ?_
          obtain ⟨a8, ea8, hg⟩ := b_nn_inv hf
          have hI0 := hI
          have hl0 := hl
          clear hf hI hl
          subst ea8
          have hf := hg
          have hI := hI0
          have hl := hl0
          clear hg hI0 hl0
          refine x_aald (t := 1) S hK hI rfl d_Reader_joinRows_23 hf (fun r9 hf => ?_)
          refine lv_aload_n S.1 S.2.1 d_Reader_joinRows_24 rfl (lv_at hl 0 rfl) ?_
          refine x_getR (ci := 6) (k := 1) S hK hI (fun w h => List.mem_cons_of_mem _ (i_Reader w h)) rfl (by decide) (List.mem_cons_of_mem _ wd_17) rfl d_Reader_joinRows_25 hf (fun r10 hf => ?_)
          refine lv_iload_n S.1 S.2.1 d_Reader_joinRows_28 rfl (lv_at hl 2 rfl) ?_
          obtain ⟨a11, ea11, hg⟩ := b_nn_inv hf
          have hI0 := hI
          have hl0 := hl
          clear hf hI hl
          subst ea11
          have hf := hg
          have hI := hI0
          have hl := hl0
          clear hg hI0 hl0
          refine x_aald (t := 1) S hK hI rfl d_Reader_joinRows_29 hf (fun r12 hf => ?_)
          obtain ⟨a13, ea13, hg⟩ := b_nn_inv hf
          have hI0 := hI
          have hl0 := hl
          clear hf hI hl
          subst ea13
          have hf := hg
          have hI := hI0
          have hl := hl0
          clear hg hI0 hl0
          obtain ⟨⟨fs17, hefs17⟩, hf⟩ := b_is_inv hf
          obtain ⟨v14, N15, hg16, hf⟩ := b_call_inv hf
          refine x_call hI (hm_mo hg16) (va_runV (As := [va_rf r12]) (rest := []) S (c_Row_joins l hg16) (cwV 1 S.2.2.2.2 (gi_V wd_331 wd_332 wd_333 wd_157 wd_334) rfl rfl rfl (by decide +kernel) ⟨Nat.le_trans (Nat.le_of_ble_eq_true rfl) hRf.1, Nat.le_trans (Nat.le_of_ble_eq_true rfl) hRf.2⟩) ⟨hm_B.blind, va_recv hK (hI.1.one hefs17) (ci := 7) (q0 := 0) rfl rfl, fun U hU hW => ⟨rfl, hm_B.of hK hG hI hU hW⟩⟩ rfl rfl hl.1 rfl (lv_room (Nat.le_of_ble_eq_true rfl)) d_Reader_joinRows_30 (hx_fit hI hR (hm_mo hg16) (hm_mo hf))) (fun H locs cells slots hI => ?_)
          refine W.eq (g2 := F0 m 33 ls [.int v14]) rfl ?_
          refine lv_if_eq (tgt := 56) S.1 S.2.1 d_Reader_joinRows_33 (by decide) (fun hc => ?_) (fun hc => ?_)
          · have hf := b_if_t hc hf
            exact w56 x1 x2 _ _ _ _ _ _ hf hI (lv_sub hl [0, 1, 2] rfl)
          · have hf := b_if_f hc hf
            refine lv_aload_n S.1 S.2.1 d_Reader_joinRows_36 rfl (lv_at hl 0 rfl) ?_
            refine x_getR (ci := 6) (k := 1) S hK hI (fun w h => List.mem_cons_of_mem _ (i_Reader w h)) rfl (by decide) (List.mem_cons_of_mem _ wd_17) rfl d_Reader_joinRows_37 hf (fun r18 hf => ?_)
            refine lv_iload_n S.1 S.2.1 d_Reader_joinRows_40 rfl (lv_at hl 1 rfl) ?_
            refine lv_iconst (v := 1) S.1 S.2.1 d_Reader_joinRows_41 (by decide) ?_
            refine lv_isub S.1 S.2.1 d_Reader_joinRows_42 ?_
            obtain ⟨a19, ea19, hg⟩ := b_nn_inv hf
            have hI0 := hI
            have hl0 := hl
            clear hf hI hl
            subst ea19
            have hf := hg
            have hI := hI0
            have hl := hl0
            clear hg hI0 hl0
            refine x_aald (t := 1) S hK hI rfl d_Reader_joinRows_43 hf (fun r20 hf => ?_)
            refine lv_aload_n S.1 S.2.1 d_Reader_joinRows_44 rfl (lv_at hl 0 rfl) ?_
            refine x_getR (ci := 6) (k := 1) S hK hI (fun w h => List.mem_cons_of_mem _ (i_Reader w h)) rfl (by decide) (List.mem_cons_of_mem _ wd_17) rfl d_Reader_joinRows_45 hf (fun r21 hf => ?_)
            refine lv_iload_n S.1 S.2.1 d_Reader_joinRows_48 rfl (lv_at hl 2 rfl) ?_
            obtain ⟨a22, ea22, hg⟩ := b_nn_inv hf
            have hI0 := hI
            have hl0 := hl
            clear hf hI hl
            subst ea22
            have hf := hg
            have hI := hI0
            have hl := hl0
            clear hg hI0 hl0
            refine x_aald (t := 1) S hK hI rfl d_Reader_joinRows_49 hf (fun r23 hf => ?_)
            obtain ⟨a24, ea24, hg⟩ := b_nn_inv hf
            have hI0 := hI
            have hl0 := hl
            clear hf hI hl
            subst ea24
            have hf := hg
            have hI := hI0
            have hl := hl0
            clear hg hI0 hl0
            obtain ⟨⟨fs28, hefs28⟩, hf⟩ := b_is_inv hf
            obtain ⟨r25, N26, hg27, hf⟩ := b_call_inv hf
            refine x_call hI (hm_mo hg27) (va_runV (As := [va_rf r23]) (rest := []) S (c_Row_join l hg27) (cwV 1 S.2.2.2.2 (gi_V wd_343 wd_344 wd_345 wd_157 wd_346) rfl rfl rfl (by decide +kernel) ⟨Nat.le_trans (Nat.le_of_ble_eq_true rfl) hRf.1, Nat.le_trans (Nat.le_of_ble_eq_true rfl) hRf.2⟩) ⟨hm_B.blind, va_recv hK (hI.1.one hefs28) (ci := 7) (q0 := 0) rfl rfl, fun U hU hW => ⟨rfl, hm_B.of hK hG hI hU hW⟩⟩ rfl rfl hl.1 rfl (lv_room (Nat.le_of_ble_eq_true rfl)) d_Reader_joinRows_50 (hx_fit hI hR (hm_mo hg27) (hm_mo hf))) (fun H locs cells slots hI => ?_)
            refine W.eq (g2 := F0 m 53 ls []) rfl ?_
            refine lv_goto (tgt := 71) S.1 S.2.1 d_Reader_joinRows_53 (by decide) ?_
            exact w71 x1 x2 _ _ _ _ _ _ hf hI (lv_sub hl [0, 1, 2] rfl)
  refine lv_iconst (v := 0) S.1 S.2.1 d_Reader_joinRows_0 (by decide) ?_
  refine x_istore_n (lv2 := [(0, .ref h0)]) S d_Reader_joinRows_1 rfl hl (by decide) [0] rfl ⟨⟨(by decide : (0 : Nat) ≠ 1), fun _ => rfl⟩, trivial⟩ (fun ls hl => ?_)
  refine lv_iconst (v := 0) S.1 S.2.1 d_Reader_joinRows_2 (by decide) ?_
  refine x_istore_n (lv2 := [(1, .int 0), (0, .ref h0)]) S d_Reader_joinRows_3 rfl hl (by decide) [0, 1] rfl ⟨⟨(by decide : (1 : Nat) ≠ 2), fun _ => rfl⟩, ⟨⟨(by decide : (0 : Nat) ≠ 2), fun h => absurd (show (0 : Nat) + 1 = 2 from h) (by decide)⟩, trivial⟩⟩ (fun ls hl => ?_)
  exact w4 N 0 0 _ _ _ _ _ _ hf hI (lv_sub hl [2, 1, 0] rfl)
set_option maxHeartbeats 4000000 in
set_option maxRecDepth 100000 in
theorem c_Reader_makePack (l : Launch) {D : va_G} {dA : Nat → ClassId} {aK aV : Nat → Nat} {z : Nat} {N : Nat} {h0 : Nat} {M : hM} {Z : Option Nat × hM} (hf : (f_Reader_makePack N h0 ).1 M = some Z) : Met l y_Reader_makePack w_Reader_makePack ({ frames := 6, cells := Z.2.2.1 - M.2.1, slots := Z.2.2.2 - M.2.2, locals := 134 }) (va_Pc [.ref h0] (hm_B D dA hCl (hTy dA) sT aK aV z M)) (hm_Q D dA hCl (hTy dA) sT aK aV z (some (va_rf Z.1)) Z.2) (Z.2.2.1 - M.2.1) (Z.2.2.2 - M.2.2) (fun q => z ≤ q) := by
  refine Met.ofW (cc := b_Reader_makePack) (maxL := 4) (ret := (some (.object "PackageRows$Pack"))) (by decide) rfl ?_
  intro p e s m args below meth c s₁ B hml hv
  obtain ⟨hav, hB⟩ := hv
  have S : CallFix p m c b_Reader_makePack 4 s args w_Reader_makePack R_Reader := ⟨B.exec, B.bytes, hml, findClass_of_methodNamed B.named, atoms_spec (ws := w_Reader_makePack) B.pre⟩
  have hr : meth.sig.returnType = (some (.object "PackageRows$Pack")) := B.returns
  have hlocks := B.notSynchronized
  have hK := hB.2.2.1
  have hG := hB.2.2.2.2.2
  have hI := hm_I.start hB
  rw [← hB.2.1]
  generalize M.2.2 = k1 at hI ⊢
  refine W.eq (g2 := F0 m 0 ((lg_sl ([.ref h0]) ++ List.replicate (4 - (lg_sl ([.ref h0])).length) Slot.unset).toArray) []) (by rw [hav]; exact lg_entry_eq m ([.ref h0]) 4) ?_
  have hl := lv_entry ([.ref h0]) (n := 4) (Nat.le_of_ble_eq_true rfl)
  generalize (lg_sl ([.ref h0]) ++ List.replicate (4 - (lg_sl ([.ref h0])).length) Slot.unset).toArray = ls at hl ⊢
  simp only [lvA_nil, lvA_i, lvA_l, lvA_a, lvA_r, Nat.zero_add, Nat.reduceAdd] at hl
  have hret : ∀ (v : Option Nat) (M : hM) (H : Heap) (locs : List Loc) (cells slots : Nat) (ls : Array Slot) (pc : Nat), decode b_Reader_makePack pc = .ok (.areturn, 1) → (b_ret v).1 M = some Z → hm_I D dA hCl z k1 s M H locs cells slots → W p l e (headSpec w_Reader_makePack { frames := 6, cells := Z.2.2.1 - s.heap.size, slots := Z.2.2.2 - k1, locals := 134 }).room s m args below meth c H locs cells slots (MQ below (hm_Q D dA hCl (hTy dA) sT aK aV z (some (va_rf Z.1)) Z.2) args s (Z.2.2.1 - s.heap.size) (Z.2.2.2 - k1) (fun q => z ≤ q)) (F0 m pc ls [va_rf v]) := fun v M H locs cells slots ls pc hdg hf hI => x_retr S hK hG hI hr (Or.inl ⟨_, rfl⟩) hlocks hdg hf
  have hR : Z.2.2.1 - s.heap.size ≤ (headSpec w_Reader_makePack { frames := 6, cells := Z.2.2.1 - s.heap.size, slots := Z.2.2.2 - k1, locals := 134 }).room.cells ∧ Z.2.2.2 - k1 ≤ (headSpec w_Reader_makePack { frames := 6, cells := Z.2.2.1 - s.heap.size, slots := Z.2.2.2 - k1, locals := 134 }).room.slots := ⟨Nat.le_refl _, Nat.le_refl _⟩
  have hRf : 6 ≤ (headSpec w_Reader_makePack { frames := 6, cells := Z.2.2.1 - s.heap.size, slots := Z.2.2.2 - k1, locals := 134 }).room.frames ∧ 134 ≤ (headSpec w_Reader_makePack { frames := 6, cells := Z.2.2.1 - s.heap.size, slots := Z.2.2.2 - k1, locals := 134 }).room.locals := ⟨Nat.le_refl _, Nat.le_refl _⟩
  generalize (headSpec w_Reader_makePack { frames := 6, cells := Z.2.2.1 - s.heap.size, slots := Z.2.2.2 - k1, locals := 134 }).room = R at hret hR hRf ⊢
  generalize (MQ below (hm_Q D dA hCl (hTy dA) sT aK aV z (some (va_rf Z.1)) Z.2) args s (Z.2.2.1 - s.heap.size) (Z.2.2.2 - k1) (fun q => z ≤ q)) = Q at hret ⊢
  rw [e_Reader_makePack] at hf
  have w18 : ∀ (n : Nat) (x1 : Option Nat) (x2 : Int32) (M : hM) (H : Heap) (locs : List Loc) (ls : Array Slot) (cells slots : Nat), (f_Reader_makePack_18 N h0  n x1 x2).1 M = some Z → hm_I D dA hCl z k1 s M H locs cells slots → lv_has ls 4 [(0, .ref h0), (1, va_rf x1), (2, .int x2)] → W p l e R s m args below meth c H locs cells slots Q (F0 m 18 ls []) := by
    intro n
    induction n with
    | zero => intro x1 x2 M H locs ls cells slots hf hI hl; cases hf
    | succ n18 ih18 =>
      intro x1 x2 M H locs ls cells slots hf hI hl
      rw [e_Reader_makePack_18] at hf
      have w51 : ∀ (n : Nat) (x1 : Option Nat) (x2 : Option Nat) (x3 : Int32) (M : hM) (H : Heap) (locs : List Loc) (ls : Array Slot) (cells slots : Nat), (f_Reader_makePack_51 N h0  n x1 x2 x3).1 M = some Z → hm_I D dA hCl z k1 s M H locs cells slots → lv_has ls 4 [(0, .ref h0), (1, va_rf x1), (2, va_rf x2), (3, .int x3)] → W p l e R s m args below meth c H locs cells slots Q (F0 m 51 ls []) := by
        intro n
        induction n with
        | zero => intro x1 x2 x3 M H locs ls cells slots hf hI hl; cases hf
        | succ n51 ih51 =>
          intro x1 x2 x3 M H locs ls cells slots hf hI hl
          rw [e_Reader_makePack_51] at hf
          refine lv_iload_n S.1 S.2.1 d_Reader_makePack_51 rfl (lv_at hl 3 rfl) ?_
          refine lv_aload_n S.1 S.2.1 d_Reader_makePack_52 rfl (lv_at hl 0 rfl) ?_
          refine x_getI (ci := 6) (k := 3) S hK hI (fun w h => List.mem_cons_of_mem _ (i_Reader w h)) rfl (by decide) (List.mem_cons_of_mem _ wd_62) rfl d_Reader_makePack_53 hf (fun v1 hf => ?_)
          refine lv_icmp_ge (tgt := 74) S.1 S.2.1 d_Reader_makePack_56 (by decide) (fun hc => ?_) (fun hc => ?_)
          · have hf := b_if_t hc hf
            refine x_new (ci := 3) S hK hI hR (fun w h => List.mem_cons_of_mem _ (i_Pack w h)) t_Pack t_Pack_ok rfl (List.mem_cons_of_mem _ wd_271) (List.mem_cons_of_mem _ wd_272) (List.mem_cons_of_mem _ wd_273) s_Pack d_Reader_makePack_74 hf (fun q2 M H hf hI => ?_)
            refine lv_dup S.1 S.2.1 d_Reader_makePack_77 rfl ?_
            refine lv_aload_n S.1 S.2.1 d_Reader_makePack_78 rfl (lv_at hl 0 rfl) ?_
            refine x_getR (ci := 6) (k := 6) S hK hI (fun w h => List.mem_cons_of_mem _ (i_Reader w h)) rfl (by decide) (List.mem_cons_of_mem _ wd_256) rfl d_Reader_makePack_79 hf (fun r3 hf => ?_)
            refine lv_aload_n S.1 S.2.1 d_Reader_makePack_82 rfl (lv_at hl 0 rfl) ?_
            refine x_getL (ci := 6) (k := 7) S hK hI (fun w h => List.mem_cons_of_mem _ (i_Reader w h)) rfl (by decide) (List.mem_cons_of_mem _ wd_257) rfl d_Reader_makePack_83 hf (fun v4 hf => ?_)
            refine x_aload_n (r := x1) S d_Reader_makePack_86 rfl (lv_at hl 1 rfl) ?_
            refine x_aload_n (r := x2) S d_Reader_makePack_87 rfl (lv_at hl 2 rfl) ?_
            obtain ⟨r5, N6, hg7, hf⟩ := b_call_inv hf
            refine x_call hI (hm_mo hg7) (va_runI (As := [va_rf r3, .long v4, va_rf x1, va_rf x2]) (rest := [.ref q2]) S (c_Pack_init l hg7) (cwI 4 S.2.2.2.2 (gi_I wd_279) rfl rfl rfl (S.2.2.2.2 _ (List.mem_cons_of_mem _ wd_273)) (S.2.2.2.2 _ (List.mem_cons_of_mem _ wd_280)) (S.2.2.2.2 _ (List.mem_cons_of_mem _ wd_281)) rfl (by decide +kernel) ⟨Nat.le_trans (Nat.le_of_ble_eq_true rfl) hRf.1, Nat.le_trans (Nat.le_of_ble_eq_true rfl) hRf.2⟩) ⟨hm_B.blind, fun U hU hW => ⟨rfl, hm_B.of hK hG hI hU hW⟩⟩ rfl rfl hl.1 rfl (lv_room (Nat.le_of_ble_eq_true rfl)) d_Reader_makePack_88 (hx_fit hI hR (hm_mo hg7) (hm_mo hf))) (fun H locs cells slots hI => ?_)
            refine W.eq (g2 := F0 m 91 ls [.ref q2]) rfl ?_
            refine x_astore_n (r := (some q2)) (lv2 := [(0, .ref h0), (1, va_rf x1), (2, va_rf x2)]) S d_Reader_makePack_91 rfl hl (by decide) [0, 1, 2] rfl ⟨⟨(by decide : (0 : Nat) ≠ 3), fun h => absurd (show (0 : Nat) + 1 = 3 from h) (by decide)⟩, ⟨⟨(by decide : (1 : Nat) ≠ 3), fun h => absurd (show (1 : Nat) + 1 = 3 from h) (by decide)⟩, ⟨⟨(by decide : (2 : Nat) ≠ 3), fun _ => rf_cat _⟩, trivial⟩⟩⟩ (fun ls hl => ?_)
            refine lv_aload_n S.1 S.2.1 d_Reader_makePack_92 rfl (lv_at hl 0 rfl) ?_
            obtain ⟨⟨fs11, hefs11⟩, hf⟩ := b_is_inv hf
            obtain ⟨r8, N9, hg10, hf⟩ := b_call_inv hf
            refine x_call hI (hm_mo hg10) (va_runV (As := []) (rest := []) S (c_Pack_markBroken l hg10) (cwV 0 S.2.2.2.2 (gi_V wd_313 wd_314 wd_315 wd_273 wd_316) rfl rfl rfl (by decide +kernel) ⟨Nat.le_trans (Nat.le_of_ble_eq_true rfl) hRf.1, Nat.le_trans (Nat.le_of_ble_eq_true rfl) hRf.2⟩) ⟨hm_B.blind, va_recv hK (hI.1.one hefs11) (ci := 3) (q0 := 0) rfl rfl, fun U hU hW => ⟨rfl, hm_B.of hK hG hI hU hW⟩⟩ rfl rfl hl.1 rfl (lv_room (Nat.le_of_ble_eq_true rfl)) d_Reader_makePack_93 (hx_fit hI hR (hm_mo hg10) (hm_mo hf))) (fun H locs cells slots hI => ?_)
            refine W.eq (g2 := F0 m 96 ls []) rfl ?_
            refine lv_aload_n S.1 S.2.1 d_Reader_makePack_96 rfl (lv_at hl 0 rfl) ?_
            exact hret (some q2) _ _ _ _ _ _ _ d_Reader_makePack_97 hf hI
          · have hf := b_if_f hc hf
            refine x_aload_n (r := x2) S d_Reader_makePack_59 rfl (lv_at hl 2 rfl) ?_
            refine lv_iload_n S.1 S.2.1 d_Reader_makePack_60 rfl (lv_at hl 3 rfl) ?_
            refine lv_aload_n S.1 S.2.1 d_Reader_makePack_61 rfl (lv_at hl 0 rfl) ?_
            refine x_getR (ci := 6) (k := 1) S hK hI (fun w h => List.mem_cons_of_mem _ (i_Reader w h)) rfl (by decide) (List.mem_cons_of_mem _ wd_17) rfl d_Reader_makePack_62 hf (fun r12 hf => ?_)
            refine lv_iload_n S.1 S.2.1 d_Reader_makePack_65 rfl (lv_at hl 3 rfl) ?_
            obtain ⟨a13, ea13, hg⟩ := b_nn_inv hf
            have hI0 := hI
            have hl0 := hl
            clear hf hI hl
            subst ea13
            have hf := hg
            have hI := hI0
            have hl := hl0
            clear hg hI0 hl0
            refine x_aald (t := 1) S hK hI rfl d_Reader_makePack_66 hf (fun r14 hf => ?_)
            obtain ⟨a15, ea15, hg⟩ := b_nn_inv hf
            have hI0 := hI
            have hl0 := hl
            clear hf hI hl
            subst ea15
            have hf := hg
            have hI := hI0
            have hl := hl0
            clear hg hI0 hl0
            refine x_aast (t := 1) (r := r14) S hK hI rfl rfl d_Reader_makePack_67 hf (fun M H locs hf hI => ?_)
            refine x_iinc (v := 1) (lv2 := [(0, .ref h0), (1, va_rf x1), (2, .ref a15)]) S d_Reader_makePack_68 hl 3 rfl (by decide) (by decide) [0, 1, 2] rfl ⟨⟨(by decide : (0 : Nat) ≠ 3), fun h => absurd (show (0 : Nat) + 1 = 3 from h) (by decide)⟩, ⟨⟨(by decide : (1 : Nat) ≠ 3), fun h => absurd (show (1 : Nat) + 1 = 3 from h) (by decide)⟩, ⟨⟨(by decide : (2 : Nat) ≠ 3), fun _ => rfl⟩, trivial⟩⟩⟩ (fun ls hl => ?_)
            refine lv_goto (tgt := 51) S.1 S.2.1 d_Reader_makePack_71 (by decide) ?_
            exact ih51 x1 (some a15) (x3 + 1) _ _ _ _ _ _ hf hI (lv_sub hl [1, 2, 3, 0] rfl)
      refine lv_iload_n S.1 S.2.1 d_Reader_makePack_18 rfl (lv_at hl 2 rfl) ?_
      refine lv_aload_n S.1 S.2.1 d_Reader_makePack_19 rfl (lv_at hl 0 rfl) ?_
      refine x_getI (ci := 6) (k := 5) S hK hI (fun w h => List.mem_cons_of_mem _ (i_Reader w h)) rfl (by decide) (List.mem_cons_of_mem _ wd_65) rfl d_Reader_makePack_20 hf (fun v16 hf => ?_)
      refine lv_icmp_ge (tgt := 41) S.1 S.2.1 d_Reader_makePack_23 (by decide) (fun hc => ?_) (fun hc => ?_)
      · have hf := b_if_t hc hf
        refine lv_aload_n S.1 S.2.1 d_Reader_makePack_41 rfl (lv_at hl 0 rfl) ?_
        refine x_getI (ci := 6) (k := 3) S hK hI (fun w h => List.mem_cons_of_mem _ (i_Reader w h)) rfl (by decide) (List.mem_cons_of_mem _ wd_62) rfl d_Reader_makePack_42 hf (fun v17 hf => ?_)
        refine x_newq (t := 1) S hK hI hR (List.mem_cons_of_mem _ wd_16) (hG.2.2.2.1 _ (List.mem_of_getElem? (i := 0) rfl)) rfl d_Reader_makePack_45 hf (fun q18 M H hf hI => ?_)
        refine x_astore_n (r := (some q18)) (lv2 := [(0, .ref h0), (1, va_rf x1)]) S d_Reader_makePack_48 rfl hl (by decide) [0, 1] rfl ⟨⟨(by decide : (0 : Nat) ≠ 2), fun h => absurd (show (0 : Nat) + 1 = 2 from h) (by decide)⟩, ⟨⟨(by decide : (1 : Nat) ≠ 2), fun _ => rf_cat _⟩, trivial⟩⟩ (fun ls hl => ?_)
        refine lv_iconst (v := 0) S.1 S.2.1 d_Reader_makePack_49 (by decide) ?_
        refine x_istore_n (lv2 := [(2, .ref q18), (0, .ref h0), (1, va_rf x1)]) S d_Reader_makePack_50 rfl hl (by decide) [0, 1, 2] rfl ⟨⟨(by decide : (2 : Nat) ≠ 3), fun _ => rfl⟩, ⟨⟨(by decide : (0 : Nat) ≠ 3), fun h => absurd (show (0 : Nat) + 1 = 3 from h) (by decide)⟩, ⟨⟨(by decide : (1 : Nat) ≠ 3), fun h => absurd (show (1 : Nat) + 1 = 3 from h) (by decide)⟩, trivial⟩⟩⟩ (fun ls hl => ?_)
        exact w51 N x1 (some q18) 0 _ _ _ _ _ _ hf hI (lv_sub hl [2, 3, 1, 0] rfl)
      · have hf := b_if_f hc hf
        refine x_aload_n (r := x1) S d_Reader_makePack_26 rfl (lv_at hl 1 rfl) ?_
        refine lv_iload_n S.1 S.2.1 d_Reader_makePack_27 rfl (lv_at hl 2 rfl) ?_
        refine lv_aload_n S.1 S.2.1 d_Reader_makePack_28 rfl (lv_at hl 0 rfl) ?_
        refine x_getR (ci := 6) (k := 4) S hK hI (fun w h => List.mem_cons_of_mem _ (i_Reader w h)) rfl (by decide) (List.mem_cons_of_mem _ wd_21) rfl d_Reader_makePack_29 hf (fun r19 hf => ?_)
        refine lv_iload_n S.1 S.2.1 d_Reader_makePack_32 rfl (lv_at hl 2 rfl) ?_
        obtain ⟨a20, ea20, hg⟩ := b_nn_inv hf
        have hI0 := hI
        have hl0 := hl
        clear hf hI hl
        subst ea20
        have hf := hg
        have hI := hI0
        have hl := hl0
        clear hg hI0 hl0
        refine x_aald (t := 3) S hK hI rfl d_Reader_makePack_33 hf (fun r21 hf => ?_)
        obtain ⟨a22, ea22, hg⟩ := b_nn_inv hf
        have hI0 := hI
        have hl0 := hl
        clear hf hI hl
        subst ea22
        have hf := hg
        have hI := hI0
        have hl := hl0
        clear hg hI0 hl0
        refine x_aast (t := 3) (r := r21) S hK hI rfl rfl d_Reader_makePack_34 hf (fun M H locs hf hI => ?_)
        refine x_iinc (v := 1) (lv2 := [(0, .ref h0), (1, .ref a22)]) S d_Reader_makePack_35 hl 2 rfl (by decide) (by decide) [0, 1] rfl ⟨⟨(by decide : (0 : Nat) ≠ 2), fun h => absurd (show (0 : Nat) + 1 = 2 from h) (by decide)⟩, ⟨⟨(by decide : (1 : Nat) ≠ 2), fun _ => rfl⟩, trivial⟩⟩ (fun ls hl => ?_)
        refine lv_goto (tgt := 18) S.1 S.2.1 d_Reader_makePack_38 (by decide) ?_
        exact ih18 (some a22) (x2 + 1) _ _ _ _ _ _ hf hI (lv_sub hl [1, 2, 0] rfl)
  refine lv_aload_n S.1 S.2.1 d_Reader_makePack_0 rfl (lv_at hl 0 rfl) ?_
  obtain ⟨⟨fs26, hefs26⟩, hf⟩ := b_is_inv hf
  obtain ⟨r23, N24, hg25, hf⟩ := b_call_inv hf
  refine x_call hI (hm_mo hg25) (va_runV (As := []) (rest := []) S (c_Reader_sortRows l hg25) (cwV 0 S.2.2.2.2 (gi_V wd_322 wd_323 wd_324 wd_5 wd_325) rfl rfl rfl (by decide +kernel) ⟨Nat.le_trans (Nat.le_of_ble_eq_true rfl) hRf.1, Nat.le_trans (Nat.le_of_ble_eq_true rfl) hRf.2⟩) ⟨hm_B.blind, va_recv hK (hI.1.one hefs26) (ci := 6) (q0 := 0) rfl rfl, fun U hU hW => ⟨rfl, hm_B.of hK hG hI hU hW⟩⟩ rfl rfl hl.1 rfl (lv_room (Nat.le_of_ble_eq_true rfl)) d_Reader_makePack_1 (hx_fit hI hR (hm_mo hg25) (hm_mo hf))) (fun H locs cells slots hI => ?_)
  refine W.eq (g2 := F0 m 4 ls []) rfl ?_
  refine lv_aload_n S.1 S.2.1 d_Reader_makePack_4 rfl (lv_at hl 0 rfl) ?_
  obtain ⟨⟨fs30, hefs30⟩, hf⟩ := b_is_inv hf
  obtain ⟨r27, N28, hg29, hf⟩ := b_call_inv hf
  refine x_call hI (hm_mo hg29) (va_runV (As := []) (rest := []) S (c_Reader_joinRows l hg29) (cwV 0 S.2.2.2.2 (gi_V wd_347 wd_348 wd_349 wd_5 wd_350) rfl rfl rfl (by decide +kernel) ⟨Nat.le_trans (Nat.le_of_ble_eq_true rfl) hRf.1, Nat.le_trans (Nat.le_of_ble_eq_true rfl) hRf.2⟩) ⟨hm_B.blind, va_recv hK (hI.1.one hefs30) (ci := 6) (q0 := 0) rfl rfl, fun U hU hW => ⟨rfl, hm_B.of hK hG hI hU hW⟩⟩ rfl rfl hl.1 rfl (lv_room (Nat.le_of_ble_eq_true rfl)) d_Reader_makePack_5 (hx_fit hI hR (hm_mo hg29) (hm_mo hf))) (fun H locs cells slots hI => ?_)
  refine W.eq (g2 := F0 m 8 ls []) rfl ?_
  refine lv_aload_n S.1 S.2.1 d_Reader_makePack_8 rfl (lv_at hl 0 rfl) ?_
  refine x_getI (ci := 6) (k := 5) S hK hI (fun w h => List.mem_cons_of_mem _ (i_Reader w h)) rfl (by decide) (List.mem_cons_of_mem _ wd_65) rfl d_Reader_makePack_9 hf (fun v31 hf => ?_)
  refine x_newq (t := 3) S hK hI hR (List.mem_cons_of_mem _ wd_20) (hG.2.2.2.1 _ (List.mem_of_getElem? (i := 1) rfl)) rfl d_Reader_makePack_12 hf (fun q32 M H hf hI => ?_)
  refine x_astore_n (r := (some q32)) (lv2 := [(0, .ref h0)]) S d_Reader_makePack_15 rfl hl (by decide) [0] rfl ⟨⟨(by decide : (0 : Nat) ≠ 1), fun _ => rfl⟩, trivial⟩ (fun ls hl => ?_)
  refine lv_iconst (v := 0) S.1 S.2.1 d_Reader_makePack_16 (by decide) ?_
  refine x_istore_n (lv2 := [(1, .ref q32), (0, .ref h0)]) S d_Reader_makePack_17 rfl hl (by decide) [0, 1] rfl ⟨⟨(by decide : (1 : Nat) ≠ 2), fun _ => rfl⟩, ⟨⟨(by decide : (0 : Nat) ≠ 2), fun h => absurd (show (0 : Nat) + 1 = 2 from h) (by decide)⟩, trivial⟩⟩ (fun ls hl => ?_)
  exact w18 N (some q32) 0 _ _ _ _ _ _ hf hI (lv_sub hl [2, 1, 0] rfl)
