set_option maxHeartbeats 4000000 in
set_option maxRecDepth 100000 in
theorem c_MD_fail (l : Launch) {D : va_G} {dA : Nat → ClassId} {aK aV : Nat → Nat} {z : Nat} {N : Nat} {h0 : Nat} {p0 : Int32} {M : hM} {Z : Unit × hM} (hf : (f_MD_fail N h0 p0).1 M = some Z) : Met l y_MD_fail w_MD_fail ({ frames := 0, cells := Z.2.2.1 - M.2.1, slots := Z.2.2.2 - M.2.2, locals := 0 }) (va_Pc [.ref h0, .int p0] (hm_B D dA hCl (hTy dA) sT aK aV z M)) (hm_Q D dA hCl (hTy dA) sT aK aV z none Z.2) (Z.2.2.1 - M.2.1) (Z.2.2.2 - M.2.2) (fun q => z ≤ q) := by
  refine Met.ofW (cc := b_MD_fail) (maxL := 2) (ret := none) (by decide) rfl ?_
  intro p e s m args below meth c s₁ B hml hv
  obtain ⟨hav, hB⟩ := hv
  have S : CallFix p m c b_MD_fail 2 s args w_MD_fail R_MD := ⟨B.exec, B.bytes, hml, findClass_of_methodNamed B.named, atoms_spec (ws := w_MD_fail) B.pre⟩
  have hr : meth.sig.returnType = none := B.returns
  have hlocks := B.notSynchronized
  have hK := hB.2.2.1
  have hG := hB.2.2.2.2.2
  have hI := hm_I.start hB
  rw [← hB.2.1]
  generalize M.2.2 = k1 at hI ⊢
  refine W.eq (g2 := F0 m 0 ((lg_sl ([.ref h0, .int p0]) ++ List.replicate (2 - (lg_sl ([.ref h0, .int p0])).length) Slot.unset).toArray) []) (by rw [hav]; exact lg_entry_eq m ([.ref h0, .int p0]) 2) ?_
  have hl := lv_entry ([.ref h0, .int p0]) (n := 2) (Nat.le_of_ble_eq_true rfl)
  generalize (lg_sl ([.ref h0, .int p0]) ++ List.replicate (2 - (lg_sl ([.ref h0, .int p0])).length) Slot.unset).toArray = ls at hl ⊢
  simp only [lvA_nil, lvA_i, lvA_l, lvA_a, lvA_r, Nat.zero_add, Nat.reduceAdd] at hl
  have hret : ∀ (M : hM) (H : Heap) (locs : List Loc) (cells slots : Nat) (ls : Array Slot) (pc : Nat), decode b_MD_fail pc = .ok (.return_, 1) → (b_ret ()).1 M = some Z → hm_I D dA hCl z k1 s M H locs cells slots → W p l e (headSpec w_MD_fail { frames := 0, cells := Z.2.2.1 - s.heap.size, slots := Z.2.2.2 - k1, locals := 0 }).room s m args below meth c H locs cells slots (MQ below (hm_Q D dA hCl (hTy dA) sT aK aV z none Z.2) args s (Z.2.2.1 - s.heap.size) (Z.2.2.2 - k1) (fun q => z ≤ q)) (F0 m pc ls []) := fun M H locs cells slots ls pc hdg hf hI => x_retv S hK hG hI hr hlocks hdg hf
  have hR : Z.2.2.1 - s.heap.size ≤ (headSpec w_MD_fail { frames := 0, cells := Z.2.2.1 - s.heap.size, slots := Z.2.2.2 - k1, locals := 0 }).room.cells ∧ Z.2.2.2 - k1 ≤ (headSpec w_MD_fail { frames := 0, cells := Z.2.2.1 - s.heap.size, slots := Z.2.2.2 - k1, locals := 0 }).room.slots := ⟨Nat.le_refl _, Nat.le_refl _⟩
  have hRf : 0 ≤ (headSpec w_MD_fail { frames := 0, cells := Z.2.2.1 - s.heap.size, slots := Z.2.2.2 - k1, locals := 0 }).room.frames ∧ 0 ≤ (headSpec w_MD_fail { frames := 0, cells := Z.2.2.1 - s.heap.size, slots := Z.2.2.2 - k1, locals := 0 }).room.locals := ⟨Nat.le_refl _, Nat.le_refl _⟩
  generalize (headSpec w_MD_fail { frames := 0, cells := Z.2.2.1 - s.heap.size, slots := Z.2.2.2 - k1, locals := 0 }).room = R at hret hR hRf ⊢
  generalize (MQ below (hm_Q D dA hCl (hTy dA) sT aK aV z none Z.2) args s (Z.2.2.1 - s.heap.size) (Z.2.2.2 - k1) (fun q => z ≤ q)) = Q at hret ⊢
  rw [e_MD_fail] at hf
  refine lv_aload_n S.1 S.2.1 d_MD_fail_0 rfl (lv_at hl 0 rfl) ?_
  refine x_getI (ci := 1) (k := 7) S hK hI (fun w h => List.mem_cons_of_mem _ (i_MD w h)) rfl (by decide) (List.mem_cons_of_mem _ wd_574) rfl d_MD_fail_1 hf (fun v1 hf => ?_)
  refine lv_if_ne (tgt := 14) S.1 S.2.1 d_MD_fail_4 (by decide) (fun hc => ?_) (fun hc => ?_)
  · have hf := b_if_f hc hf
    exact hret _ _ _ _ _ _ _ d_MD_fail_14 hf hI
  · have hf := b_if_t hc hf
    refine lv_aload_n S.1 S.2.1 d_MD_fail_7 rfl (lv_at hl 0 rfl) ?_
    refine lv_iconst (v := (-1)) S.1 S.2.1 d_MD_fail_8 (by decide) ?_
    refine lv_iload_n S.1 S.2.1 d_MD_fail_9 rfl (lv_at hl 1 rfl) ?_
    refine lv_isub S.1 S.2.1 d_MD_fail_10 ?_
    refine x_put (ci := 1) (k := 7) S hK hI (fun w h => List.mem_cons_of_mem _ (i_MD w h)) t_MD t_MD_ok n_MD rfl (by decide) (List.mem_cons_of_mem _ wd_574) rfl (Or.inl rfl) (by rfl) rfl d_MD_fail_11 hf (fun M H locs hf hI => ?_)
    exact hret _ _ _ _ _ _ _ d_MD_fail_14 hf hI
set_option maxHeartbeats 4000000 in
set_option maxRecDepth 100000 in
theorem c_MD_isWrong (l : Launch) {D : va_G} {dA : Nat → ClassId} {aK aV : Nat → Nat} {z : Nat} {N : Nat} {h0 : Nat} {M : hM} {Z : Int32 × hM} (hf : (f_MD_isWrong N h0 ).1 M = some Z) : Met l y_MD_isWrong w_MD_isWrong ({ frames := 0, cells := Z.2.2.1 - M.2.1, slots := Z.2.2.2 - M.2.2, locals := 0 }) (va_Pc [.ref h0] (hm_B D dA hCl (hTy dA) sT aK aV z M)) (hm_Q D dA hCl (hTy dA) sT aK aV z (some (.int Z.1)) Z.2) (Z.2.2.1 - M.2.1) (Z.2.2.2 - M.2.2) (fun q => z ≤ q) := by
  refine Met.ofW (cc := b_MD_isWrong) (maxL := 1) (ret := (some .boolean)) (by decide) rfl ?_
  intro p e s m args below meth c s₁ B hml hv
  obtain ⟨hav, hB⟩ := hv
  have S : CallFix p m c b_MD_isWrong 1 s args w_MD_isWrong R_MD := ⟨B.exec, B.bytes, hml, findClass_of_methodNamed B.named, atoms_spec (ws := w_MD_isWrong) B.pre⟩
  have hr : meth.sig.returnType = (some .boolean) := B.returns
  have hlocks := B.notSynchronized
  have hK := hB.2.2.1
  have hG := hB.2.2.2.2.2
  have hI := hm_I.start hB
  rw [← hB.2.1]
  generalize M.2.2 = k1 at hI ⊢
  refine W.eq (g2 := F0 m 0 ((lg_sl ([.ref h0]) ++ List.replicate (1 - (lg_sl ([.ref h0])).length) Slot.unset).toArray) []) (by rw [hav]; exact lg_entry_eq m ([.ref h0]) 1) ?_
  have hl := lv_entry ([.ref h0]) (n := 1) (Nat.le_of_ble_eq_true rfl)
  generalize (lg_sl ([.ref h0]) ++ List.replicate (1 - (lg_sl ([.ref h0])).length) Slot.unset).toArray = ls at hl ⊢
  simp only [lvA_nil, lvA_i, lvA_l, lvA_a, lvA_r, Nat.zero_add, Nat.reduceAdd] at hl
  have hret : ∀ (v : Int32) (M : hM) (H : Heap) (locs : List Loc) (cells slots : Nat) (ls : Array Slot) (pc : Nat), decode b_MD_isWrong pc = .ok (.ireturn, 1) → (b_retN .boolean v).1 M = some Z → hm_I D dA hCl z k1 s M H locs cells slots → W p l e (headSpec w_MD_isWrong { frames := 0, cells := Z.2.2.1 - s.heap.size, slots := Z.2.2.2 - k1, locals := 0 }).room s m args below meth c H locs cells slots (MQ below (hm_Q D dA hCl (hTy dA) sT aK aV z (some (.int Z.1)) Z.2) args s (Z.2.2.1 - s.heap.size) (Z.2.2.2 - k1) (fun q => z ≤ q)) (F0 m pc ls [.int v]) := fun v M H locs cells slots ls pc hdg hf hI => x_retn S hK hG hI hr hlocks hdg hf
  have hR : Z.2.2.1 - s.heap.size ≤ (headSpec w_MD_isWrong { frames := 0, cells := Z.2.2.1 - s.heap.size, slots := Z.2.2.2 - k1, locals := 0 }).room.cells ∧ Z.2.2.2 - k1 ≤ (headSpec w_MD_isWrong { frames := 0, cells := Z.2.2.1 - s.heap.size, slots := Z.2.2.2 - k1, locals := 0 }).room.slots := ⟨Nat.le_refl _, Nat.le_refl _⟩
  have hRf : 0 ≤ (headSpec w_MD_isWrong { frames := 0, cells := Z.2.2.1 - s.heap.size, slots := Z.2.2.2 - k1, locals := 0 }).room.frames ∧ 0 ≤ (headSpec w_MD_isWrong { frames := 0, cells := Z.2.2.1 - s.heap.size, slots := Z.2.2.2 - k1, locals := 0 }).room.locals := ⟨Nat.le_refl _, Nat.le_refl _⟩
  generalize (headSpec w_MD_isWrong { frames := 0, cells := Z.2.2.1 - s.heap.size, slots := Z.2.2.2 - k1, locals := 0 }).room = R at hret hR hRf ⊢
  generalize (MQ below (hm_Q D dA hCl (hTy dA) sT aK aV z (some (.int Z.1)) Z.2) args s (Z.2.2.1 - s.heap.size) (Z.2.2.2 - k1) (fun q => z ≤ q)) = Q at hret ⊢
  rw [e_MD_isWrong] at hf
  obtain ⟨J12, eJ12, hf⟩ := b_let_inv hf
  have w12 : ∀ (y0 : Int32) (M : hM) (H : Heap) (locs : List Loc) (ls : Array Slot) (cells slots : Nat), (J12 y0).1 M = some Z → hm_I D dA hCl z k1 s M H locs cells slots → lv_has ls 1 [] → W p l e R s m args below meth c H locs cells slots Q (F0 m 12 ls [.int y0]) := by
    intro y0 M H locs ls cells slots hf hI hl
    rw [eJ12] at hf
    exact hret _ _ _ _ _ _ _ _ d_MD_isWrong_12 hf hI
  refine lv_aload_n S.1 S.2.1 d_MD_isWrong_0 rfl (lv_at hl 0 rfl) ?_
  refine x_getI (ci := 1) (k := 7) S hK hI (fun w h => List.mem_cons_of_mem _ (i_MD w h)) rfl (by decide) (List.mem_cons_of_mem _ wd_574) rfl d_MD_isWrong_1 hf (fun v1 hf => ?_)
  refine lv_if_eq (tgt := 11) S.1 S.2.1 d_MD_isWrong_4 (by decide) (fun hc => ?_) (fun hc => ?_)
  · have hf := b_if_t hc hf
    refine lv_iconst (v := 0) S.1 S.2.1 d_MD_isWrong_11 (by decide) ?_
    exact w12 0 _ _ _ _ _ _ hf hI (lv_sub hl [] rfl)
  · have hf := b_if_f hc hf
    refine lv_iconst (v := 1) S.1 S.2.1 d_MD_isWrong_7 (by decide) ?_
    refine lv_goto (tgt := 12) S.1 S.2.1 d_MD_isWrong_8 (by decide) ?_
    exact w12 1 _ _ _ _ _ _ hf hI (lv_sub hl [] rfl)
set_option maxHeartbeats 4000000 in
set_option maxRecDepth 100000 in
theorem c_MD_sign (l : Launch) {D : va_G} {dA : Nat → ClassId} {aK aV : Nat → Nat} {z : Nat} {N : Nat} {h0 : Nat} {p0 : Int32} {M : hM} {Z : Unit × hM} (hf : (f_MD_sign N h0 p0).1 M = some Z) : Met l y_MD_sign w_MD_sign ({ frames := 2, cells := Z.2.2.1 - M.2.1, slots := Z.2.2.2 - M.2.2, locals := 42 }) (va_Pc [.ref h0, .int p0] (hm_B D dA hCl (hTy dA) sT aK aV z M)) (hm_Q D dA hCl (hTy dA) sT aK aV z none Z.2) (Z.2.2.1 - M.2.1) (Z.2.2.2 - M.2.2) (fun q => z ≤ q) := by
  refine Met.ofW (cc := b_MD_sign) (maxL := 2) (ret := none) (by decide) rfl ?_
  intro p e s m args below meth c s₁ B hml hv
  obtain ⟨hav, hB⟩ := hv
  have S : CallFix p m c b_MD_sign 2 s args w_MD_sign R_MD := ⟨B.exec, B.bytes, hml, findClass_of_methodNamed B.named, atoms_spec (ws := w_MD_sign) B.pre⟩
  have hr : meth.sig.returnType = none := B.returns
  have hlocks := B.notSynchronized
  have hK := hB.2.2.1
  have hG := hB.2.2.2.2.2
  have hI := hm_I.start hB
  rw [← hB.2.1]
  generalize M.2.2 = k1 at hI ⊢
  refine W.eq (g2 := F0 m 0 ((lg_sl ([.ref h0, .int p0]) ++ List.replicate (2 - (lg_sl ([.ref h0, .int p0])).length) Slot.unset).toArray) []) (by rw [hav]; exact lg_entry_eq m ([.ref h0, .int p0]) 2) ?_
  have hl := lv_entry ([.ref h0, .int p0]) (n := 2) (Nat.le_of_ble_eq_true rfl)
  generalize (lg_sl ([.ref h0, .int p0]) ++ List.replicate (2 - (lg_sl ([.ref h0, .int p0])).length) Slot.unset).toArray = ls at hl ⊢
  simp only [lvA_nil, lvA_i, lvA_l, lvA_a, lvA_r, Nat.zero_add, Nat.reduceAdd] at hl
  have hret : ∀ (M : hM) (H : Heap) (locs : List Loc) (cells slots : Nat) (ls : Array Slot) (pc : Nat), decode b_MD_sign pc = .ok (.return_, 1) → (b_ret ()).1 M = some Z → hm_I D dA hCl z k1 s M H locs cells slots → W p l e (headSpec w_MD_sign { frames := 2, cells := Z.2.2.1 - s.heap.size, slots := Z.2.2.2 - k1, locals := 42 }).room s m args below meth c H locs cells slots (MQ below (hm_Q D dA hCl (hTy dA) sT aK aV z none Z.2) args s (Z.2.2.1 - s.heap.size) (Z.2.2.2 - k1) (fun q => z ≤ q)) (F0 m pc ls []) := fun M H locs cells slots ls pc hdg hf hI => x_retv S hK hG hI hr hlocks hdg hf
  have hR : Z.2.2.1 - s.heap.size ≤ (headSpec w_MD_sign { frames := 2, cells := Z.2.2.1 - s.heap.size, slots := Z.2.2.2 - k1, locals := 42 }).room.cells ∧ Z.2.2.2 - k1 ≤ (headSpec w_MD_sign { frames := 2, cells := Z.2.2.1 - s.heap.size, slots := Z.2.2.2 - k1, locals := 42 }).room.slots := ⟨Nat.le_refl _, Nat.le_refl _⟩
  have hRf : 2 ≤ (headSpec w_MD_sign { frames := 2, cells := Z.2.2.1 - s.heap.size, slots := Z.2.2.2 - k1, locals := 42 }).room.frames ∧ 42 ≤ (headSpec w_MD_sign { frames := 2, cells := Z.2.2.1 - s.heap.size, slots := Z.2.2.2 - k1, locals := 42 }).room.locals := ⟨Nat.le_refl _, Nat.le_refl _⟩
  generalize (headSpec w_MD_sign { frames := 2, cells := Z.2.2.1 - s.heap.size, slots := Z.2.2.2 - k1, locals := 42 }).room = R at hret hR hRf ⊢
  generalize (MQ below (hm_Q D dA hCl (hTy dA) sT aK aV z none Z.2) args s (Z.2.2.1 - s.heap.size) (Z.2.2.2 - k1) (fun q => z ≤ q)) = Q at hret ⊢
  rw [e_MD_sign] at hf
  refine lv_aload_n S.1 S.2.1 d_MD_sign_0 rfl (lv_at hl 0 rfl) ?_
  obtain ⟨⟨fs4, hefs4⟩, hf⟩ := b_is_inv hf
  obtain ⟨v1, N2, hg3, hf⟩ := b_call_inv hf
  refine x_call hI (hm_mo hg3) (va_runV (As := []) (rest := []) S (c_MD_isWrong l hg3) (cwV 0 S.2.2.2.2 (gi_V wd_575 wd_576 wd_577 wd_564 wd_578) rfl rfl rfl (by decide +kernel) ⟨Nat.le_trans (Nat.le_of_ble_eq_true rfl) hRf.1, Nat.le_trans (Nat.le_of_ble_eq_true rfl) hRf.2⟩) ⟨hm_B.blind, va_recv hK (hI.1.one hefs4) (ci := 1) (q0 := 0) rfl rfl, fun U hU hW => ⟨rfl, hm_B.of hK hG hI hU hW⟩⟩ rfl rfl hl.1 rfl (lv_room (Nat.le_of_ble_eq_true rfl)) d_MD_sign_1 (hx_fit hI hR (hm_mo hg3) (hm_mo hf))) (fun H locs cells slots hI => ?_)
  refine W.eq (g2 := F0 m 4 ls [.int v1]) rfl ?_
  refine lv_if_eq (tgt := 8) S.1 S.2.1 d_MD_sign_4 (by decide) (fun hc => ?_) (fun hc => ?_)
  · have hf := b_if_t hc hf
    refine lv_aload_n S.1 S.2.1 d_MD_sign_8 rfl (lv_at hl 0 rfl) ?_
    refine x_getI (ci := 1) (k := 5) S hK hI (fun w h => List.mem_cons_of_mem _ (i_MD w h)) rfl (by decide) (List.mem_cons_of_mem _ wd_572) rfl d_MD_sign_9 hf (fun v5 hf => ?_)
    refine lv_iload_n S.1 S.2.1 d_MD_sign_12 rfl (lv_at hl 1 rfl) ?_
    refine lv_icmp_ne (tgt := 23) S.1 S.2.1 d_MD_sign_13 (by decide) (fun hc => ?_) (fun hc => ?_)
    · have hf := b_if_f hc hf
      refine lv_aload_n S.1 S.2.1 d_MD_sign_23 rfl (lv_at hl 0 rfl) ?_
      refine lv_aload_n S.1 S.2.1 d_MD_sign_24 rfl (lv_at hl 0 rfl) ?_
      refine x_getI (ci := 1) (k := 3) S hK hI (fun w h => List.mem_cons_of_mem _ (i_MD w h)) rfl (by decide) (List.mem_cons_of_mem _ wd_560) rfl d_MD_sign_25 hf (fun v6 hf => ?_)
      obtain ⟨⟨fs10, hefs10⟩, hf⟩ := b_is_inv hf
      obtain ⟨r7, N8, hg9, hf⟩ := b_call_inv hf
      refine x_call hI (hm_mo hg9) (va_runV (As := [.int v6]) (rest := []) S (c_MD_fail l hg9) (cwV 1 S.2.2.2.2 (gi_V wd_579 wd_580 wd_581 wd_564 wd_582) rfl rfl rfl (by decide +kernel) ⟨Nat.le_trans (Nat.le_of_ble_eq_true rfl) hRf.1, Nat.le_trans (Nat.le_of_ble_eq_true rfl) hRf.2⟩) ⟨hm_B.blind, va_recv hK (hI.1.one hefs10) (ci := 1) (q0 := 0) rfl rfl, fun U hU hW => ⟨rfl, hm_B.of hK hG hI hU hW⟩⟩ rfl rfl hl.1 rfl (lv_room (Nat.le_of_ble_eq_true rfl)) d_MD_sign_28 (hx_fit hI hR (hm_mo hg9) (hm_mo hf))) (fun H locs cells slots hI => ?_)
      refine W.eq (g2 := F0 m 31 ls []) rfl ?_
      exact hret _ _ _ _ _ _ _ d_MD_sign_31 hf hI
    · have hf := b_if_t hc hf
      refine lv_aload_n S.1 S.2.1 d_MD_sign_16 rfl (lv_at hl 0 rfl) ?_
      obtain ⟨⟨fs14, hefs14⟩, hf⟩ := b_is_inv hf
      obtain ⟨r11, N12, hg13, hf⟩ := b_call_inv hf
      refine x_call hI (hm_mo hg13) (va_runV (As := []) (rest := []) S (c_MD_next l hg13) (cwV 0 S.2.2.2.2 (gi_V wd_583 wd_584 wd_585 wd_564 wd_586) rfl rfl rfl (by decide +kernel) ⟨Nat.le_trans (Nat.le_of_ble_eq_true rfl) hRf.1, Nat.le_trans (Nat.le_of_ble_eq_true rfl) hRf.2⟩) ⟨hm_B.blind, va_recv hK (hI.1.one hefs14) (ci := 1) (q0 := 0) rfl rfl, fun U hU hW => ⟨rfl, hm_B.of hK hG hI hU hW⟩⟩ rfl rfl hl.1 rfl (lv_room (Nat.le_of_ble_eq_true rfl)) d_MD_sign_17 (hx_fit hI hR (hm_mo hg13) (hm_mo hf))) (fun H locs cells slots hI => ?_)
      refine W.eq (g2 := F0 m 20 ls []) rfl ?_
      refine lv_goto (tgt := 31) S.1 S.2.1 d_MD_sign_20 (by decide) ?_
      exact hret _ _ _ _ _ _ _ d_MD_sign_31 hf hI
  · have hf := b_if_f hc hf
    exact hret _ _ _ _ _ _ _ d_MD_sign_7 hf hI
set_option maxHeartbeats 4000000 in
set_option maxRecDepth 100000 in
theorem c_MD_key (l : Launch) {D : va_G} {dA : Nat → ClassId} {aK aV : Nat → Nat} {z : Nat} {N : Nat} {h0 : Nat} {M : hM} {Z : Int64 × hM} (hf : (f_MD_key N h0 ).1 M = some Z) : Met l y_MD_key w_MD_key ({ frames := 0, cells := Z.2.2.1 - M.2.1, slots := Z.2.2.2 - M.2.2, locals := 0 }) (va_Pc [.ref h0] (hm_B D dA hCl (hTy dA) sT aK aV z M)) (hm_Q D dA hCl (hTy dA) sT aK aV z (some (.long Z.1)) Z.2) (Z.2.2.1 - M.2.1) (Z.2.2.2 - M.2.2) (fun q => z ≤ q) := by
  refine Met.ofW (cc := b_MD_key) (maxL := 4) (ret := (some .long)) (by decide) rfl ?_
  intro p e s m args below meth c s₁ B hml hv
  obtain ⟨hav, hB⟩ := hv
  have S : CallFix p m c b_MD_key 4 s args w_MD_key R_MD := ⟨B.exec, B.bytes, hml, findClass_of_methodNamed B.named, atoms_spec (ws := w_MD_key) B.pre⟩
  have hr : meth.sig.returnType = (some .long) := B.returns
  have hlocks := B.notSynchronized
  have hK := hB.2.2.1
  have hG := hB.2.2.2.2.2
  have hI := hm_I.start hB
  rw [← hB.2.1]
  generalize M.2.2 = k1 at hI ⊢
  refine W.eq (g2 := F0 m 0 ((lg_sl ([.ref h0]) ++ List.replicate (4 - (lg_sl ([.ref h0])).length) Slot.unset).toArray) []) (by rw [hav]; exact lg_entry_eq m ([.ref h0]) 4) ?_
  have hl := lv_entry ([.ref h0]) (n := 4) (Nat.le_of_ble_eq_true rfl)
  generalize (lg_sl ([.ref h0]) ++ List.replicate (4 - (lg_sl ([.ref h0])).length) Slot.unset).toArray = ls at hl ⊢
  simp only [lvA_nil, lvA_i, lvA_l, lvA_a, lvA_r, Nat.zero_add, Nat.reduceAdd] at hl
  have hret : ∀ (v : Int64) (M : hM) (H : Heap) (locs : List Loc) (cells slots : Nat) (ls : Array Slot) (pc : Nat), decode b_MD_key pc = .ok (.lreturn, 1) → (b_ret v).1 M = some Z → hm_I D dA hCl z k1 s M H locs cells slots → W p l e (headSpec w_MD_key { frames := 0, cells := Z.2.2.1 - s.heap.size, slots := Z.2.2.2 - k1, locals := 0 }).room s m args below meth c H locs cells slots (MQ below (hm_Q D dA hCl (hTy dA) sT aK aV z (some (.long Z.1)) Z.2) args s (Z.2.2.1 - s.heap.size) (Z.2.2.2 - k1) (fun q => z ≤ q)) (F0 m pc ls [.long v]) := fun v M H locs cells slots ls pc hdg hf hI => x_retl S hK hG hI hr hlocks hdg hf
  have hR : Z.2.2.1 - s.heap.size ≤ (headSpec w_MD_key { frames := 0, cells := Z.2.2.1 - s.heap.size, slots := Z.2.2.2 - k1, locals := 0 }).room.cells ∧ Z.2.2.2 - k1 ≤ (headSpec w_MD_key { frames := 0, cells := Z.2.2.1 - s.heap.size, slots := Z.2.2.2 - k1, locals := 0 }).room.slots := ⟨Nat.le_refl _, Nat.le_refl _⟩
  have hRf : 0 ≤ (headSpec w_MD_key { frames := 0, cells := Z.2.2.1 - s.heap.size, slots := Z.2.2.2 - k1, locals := 0 }).room.frames ∧ 0 ≤ (headSpec w_MD_key { frames := 0, cells := Z.2.2.1 - s.heap.size, slots := Z.2.2.2 - k1, locals := 0 }).room.locals := ⟨Nat.le_refl _, Nat.le_refl _⟩
  generalize (headSpec w_MD_key { frames := 0, cells := Z.2.2.1 - s.heap.size, slots := Z.2.2.2 - k1, locals := 0 }).room = R at hret hR hRf ⊢
  generalize (MQ below (hm_Q D dA hCl (hTy dA) sT aK aV z (some (.long Z.1)) Z.2) args s (Z.2.2.1 - s.heap.size) (Z.2.2.2 - k1) (fun q => z ≤ q)) = Q at hret ⊢
  rw [e_MD_key] at hf
  have w32 : ∀ (n : Nat) (x1 : Int64) (x3 : Int32) (M : hM) (H : Heap) (locs : List Loc) (ls : Array Slot) (cells slots : Nat), (f_MD_key_32 N h0  n x1 x3).1 M = some Z → hm_I D dA hCl z k1 s M H locs cells slots → lv_has ls 4 [(0, .ref h0), (1, .long x1), (3, .int x3)] → W p l e R s m args below meth c H locs cells slots Q (F0 m 32 ls []) := by
    intro n
    induction n with
    | zero => intro x1 x3 M H locs ls cells slots hf hI hl; cases hf
    | succ n32 ih32 =>
      intro x1 x3 M H locs ls cells slots hf hI hl
      rw [e_MD_key_32] at hf
      refine lv_iload_n S.1 S.2.1 d_MD_key_32 rfl (lv_at hl 2 rfl) ?_
      refine lv_aload_n S.1 S.2.1 d_MD_key_33 rfl (lv_at hl 0 rfl) ?_
      refine x_getI (ci := 1) (k := 4) S hK hI (fun w h => List.mem_cons_of_mem _ (i_MD w h)) rfl (by decide) (List.mem_cons_of_mem _ wd_561) rfl d_MD_key_34 hf (fun v1 hf => ?_)
      refine lv_icmp_ge (tgt := 59) S.1 S.2.1 d_MD_key_37 (by decide) (fun hc => ?_) (fun hc => ?_)
      · have hf := b_if_t hc hf
        refine lv_lload_n S.1 S.2.1 d_MD_key_59 rfl (lv_at hl 1 rfl) ?_
        exact hret _ _ _ _ _ _ _ _ d_MD_key_60 hf hI
      · have hf := b_if_f hc hf
        refine lv_lload_n S.1 S.2.1 d_MD_key_40 rfl (lv_at hl 1 rfl) ?_
        refine lv_bipush (v := 8) S.1 S.2.1 d_MD_key_41 (by decide) ?_
        refine lv_lshl S.1 S.2.1 d_MD_key_43 rfl ?_
        refine lv_aload_n S.1 S.2.1 d_MD_key_44 rfl (lv_at hl 0 rfl) ?_
        refine x_getR (ci := 1) (k := 1) S hK hI (fun w h => List.mem_cons_of_mem _ (i_MD w h)) rfl (by decide) (List.mem_cons_of_mem _ wd_509) rfl d_MD_key_45 hf (fun r2 hf => ?_)
        refine lv_iload_n S.1 S.2.1 d_MD_key_48 rfl (lv_at hl 2 rfl) ?_
        obtain ⟨a3, ea3, hg⟩ := b_nn_inv hf
        have hI0 := hI
        have hl0 := hl
        clear hf hI hl
        subst ea3
        have hf := hg
        have hI := hI0
        have hl := hl0
        clear hg hI0 hl0
        refine x_bald (t := 6) S hK hI rfl d_MD_key_49 hf (fun v4 hf => ?_)
        refine lv_i2l S.1 S.2.1 d_MD_key_50 rfl ?_
        refine lv_lor S.1 S.2.1 d_MD_key_51 ?_
        refine x_lstore_n (lv2 := [(0, .ref h0), (3, .int x3)]) S d_MD_key_52 rfl hl (by decide) [0, 2] rfl ⟨⟨(by decide : (0 : Nat) ≠ 1), (by decide : (0 : Nat) ≠ 1 + 1), fun _ => rfl⟩, ⟨⟨(by decide : (3 : Nat) ≠ 1), (by decide : (3 : Nat) ≠ 1 + 1), fun h => absurd (show (3 : Nat) + 1 = 1 from h) (by decide)⟩, trivial⟩⟩ (fun ls hl => ?_)
        refine x_iinc (v := 1) (lv2 := [(1, .long ((x1 <<< ((8 : Int32).toInt64 &&& 63)) ||| ((v4 : Int32).toInt64))), (0, .ref h0)]) S d_MD_key_53 hl 2 rfl (by decide) (by decide) [0, 1] rfl ⟨⟨(by decide : (1 : Nat) ≠ 3), fun h => absurd (show (1 : Nat) + 1 = 3 from h) (by decide)⟩, ⟨⟨(by decide : (0 : Nat) ≠ 3), fun h => absurd (show (0 : Nat) + 1 = 3 from h) (by decide)⟩, trivial⟩⟩ (fun ls hl => ?_)
        refine lv_goto (tgt := 32) S.1 S.2.1 d_MD_key_56 (by decide) ?_
        exact ih32 ((x1 <<< ((8 : Int32).toInt64 &&& 63)) ||| ((v4 : Int32).toInt64)) (x3 + 1) _ _ _ _ _ _ hf hI (lv_sub hl [2, 1, 0] rfl)
  refine lv_aload_n S.1 S.2.1 d_MD_key_0 rfl (lv_at hl 0 rfl) ?_
  refine x_getI (ci := 1) (k := 5) S hK hI (fun w h => List.mem_cons_of_mem _ (i_MD w h)) rfl (by decide) (List.mem_cons_of_mem _ wd_572) rfl d_MD_key_1 hf (fun v5 hf => ?_)
  refine lv_bipush (v := (-2)) S.1 S.2.1 d_MD_key_4 (by decide) ?_
  refine lv_icmp_ne (tgt := 23) S.1 S.2.1 d_MD_key_6 (by decide) (fun hc => ?_) (fun hc => ?_)
  · have hf := b_if_f hc hf
    refine lv_lconst (v := 0) S.1 S.2.1 d_MD_key_23 (by decide) ?_
    exact hret _ _ _ _ _ _ _ _ d_MD_key_24 hf hI
  · have hf := b_if_t hc hf
    refine lv_aload_n S.1 S.2.1 d_MD_key_9 rfl (lv_at hl 0 rfl) ?_
    refine x_getI (ci := 1) (k := 4) S hK hI (fun w h => List.mem_cons_of_mem _ (i_MD w h)) rfl (by decide) (List.mem_cons_of_mem _ wd_561) rfl d_MD_key_10 hf (fun v6 hf => ?_)
    refine lv_aload_n S.1 S.2.1 d_MD_key_13 rfl (lv_at hl 0 rfl) ?_
    refine x_getI (ci := 1) (k := 3) S hK hI (fun w h => List.mem_cons_of_mem _ (i_MD w h)) rfl (by decide) (List.mem_cons_of_mem _ wd_560) rfl d_MD_key_14 hf (fun v7 hf => ?_)
    refine lv_isub S.1 S.2.1 d_MD_key_17 ?_
    refine lv_bipush (v := 8) S.1 S.2.1 d_MD_key_18 (by decide) ?_
    refine lv_icmp_le (tgt := 25) S.1 S.2.1 d_MD_key_20 (by decide) (fun hc => ?_) (fun hc => ?_)
    · have hf := b_if_t hc hf
      refine lv_lconst (v := 0) S.1 S.2.1 d_MD_key_25 (by decide) ?_
      refine x_lstore_n (lv2 := [(0, .ref h0)]) S d_MD_key_26 rfl hl (by decide) [0] rfl ⟨⟨(by decide : (0 : Nat) ≠ 1), (by decide : (0 : Nat) ≠ 1 + 1), fun _ => rfl⟩, trivial⟩ (fun ls hl => ?_)
      refine lv_aload_n S.1 S.2.1 d_MD_key_27 rfl (lv_at hl 1 rfl) ?_
      refine x_getI (ci := 1) (k := 3) S hK hI (fun w h => List.mem_cons_of_mem _ (i_MD w h)) rfl (by decide) (List.mem_cons_of_mem _ wd_560) rfl d_MD_key_28 hf (fun v8 hf => ?_)
      refine x_istore_n (lv2 := [(1, .long 0), (0, .ref h0)]) S d_MD_key_31 rfl hl (by decide) [0, 1] rfl ⟨⟨(by decide : (1 : Nat) ≠ 3), fun h => absurd (show (1 : Nat) + 1 = 3 from h) (by decide)⟩, ⟨⟨(by decide : (0 : Nat) ≠ 3), fun h => absurd (show (0 : Nat) + 1 = 3 from h) (by decide)⟩, trivial⟩⟩ (fun ls hl => ?_)
      exact w32 N 0 v8 _ _ _ _ _ _ hf hI (lv_sub hl [2, 1, 0] rfl)
    · have hf := b_if_f hc hf
      refine lv_lconst (v := 0) S.1 S.2.1 d_MD_key_23 (by decide) ?_
      exact hret _ _ _ _ _ _ _ _ d_MD_key_24 hf hI
set_option maxHeartbeats 4000000 in
set_option maxRecDepth 100000 in
theorem c_MD_isName (l : Launch) {D : va_G} {dA : Nat → ClassId} {aK aV : Nat → Nat} {z : Nat} {N : Nat} {h0 : Nat} {M : hM} {Z : Int32 × hM} (hf : (f_MD_isName N h0 ).1 M = some Z) : Met l y_MD_isName w_MD_isName ({ frames := 1, cells := Z.2.2.1 - M.2.1, slots := Z.2.2.2 - M.2.2, locals := 20 }) (va_Pc [.ref h0] (hm_B D dA hCl (hTy dA) sT aK aV z M)) (hm_Q D dA hCl (hTy dA) sT aK aV z (some (.int Z.1)) Z.2) (Z.2.2.1 - M.2.1) (Z.2.2.2 - M.2.2) (fun q => z ≤ q) := by
  refine Met.ofW (cc := b_MD_isName) (maxL := 1) (ret := (some .boolean)) (by decide) rfl ?_
  intro p e s m args below meth c s₁ B hml hv
  obtain ⟨hav, hB⟩ := hv
  have S : CallFix p m c b_MD_isName 1 s args w_MD_isName R_MD := ⟨B.exec, B.bytes, hml, findClass_of_methodNamed B.named, atoms_spec (ws := w_MD_isName) B.pre⟩
  have hr : meth.sig.returnType = (some .boolean) := B.returns
  have hlocks := B.notSynchronized
  have hK := hB.2.2.1
  have hG := hB.2.2.2.2.2
  have hI := hm_I.start hB
  rw [← hB.2.1]
  generalize M.2.2 = k1 at hI ⊢
  refine W.eq (g2 := F0 m 0 ((lg_sl ([.ref h0]) ++ List.replicate (1 - (lg_sl ([.ref h0])).length) Slot.unset).toArray) []) (by rw [hav]; exact lg_entry_eq m ([.ref h0]) 1) ?_
  have hl := lv_entry ([.ref h0]) (n := 1) (Nat.le_of_ble_eq_true rfl)
  generalize (lg_sl ([.ref h0]) ++ List.replicate (1 - (lg_sl ([.ref h0])).length) Slot.unset).toArray = ls at hl ⊢
  simp only [lvA_nil, lvA_i, lvA_l, lvA_a, lvA_r, Nat.zero_add, Nat.reduceAdd] at hl
  have hret : ∀ (v : Int32) (M : hM) (H : Heap) (locs : List Loc) (cells slots : Nat) (ls : Array Slot) (pc : Nat), decode b_MD_isName pc = .ok (.ireturn, 1) → (b_retN .boolean v).1 M = some Z → hm_I D dA hCl z k1 s M H locs cells slots → W p l e (headSpec w_MD_isName { frames := 1, cells := Z.2.2.1 - s.heap.size, slots := Z.2.2.2 - k1, locals := 20 }).room s m args below meth c H locs cells slots (MQ below (hm_Q D dA hCl (hTy dA) sT aK aV z (some (.int Z.1)) Z.2) args s (Z.2.2.1 - s.heap.size) (Z.2.2.2 - k1) (fun q => z ≤ q)) (F0 m pc ls [.int v]) := fun v M H locs cells slots ls pc hdg hf hI => x_retn S hK hG hI hr hlocks hdg hf
  have hR : Z.2.2.1 - s.heap.size ≤ (headSpec w_MD_isName { frames := 1, cells := Z.2.2.1 - s.heap.size, slots := Z.2.2.2 - k1, locals := 20 }).room.cells ∧ Z.2.2.2 - k1 ≤ (headSpec w_MD_isName { frames := 1, cells := Z.2.2.1 - s.heap.size, slots := Z.2.2.2 - k1, locals := 20 }).room.slots := ⟨Nat.le_refl _, Nat.le_refl _⟩
  have hRf : 1 ≤ (headSpec w_MD_isName { frames := 1, cells := Z.2.2.1 - s.heap.size, slots := Z.2.2.2 - k1, locals := 20 }).room.frames ∧ 20 ≤ (headSpec w_MD_isName { frames := 1, cells := Z.2.2.1 - s.heap.size, slots := Z.2.2.2 - k1, locals := 20 }).room.locals := ⟨Nat.le_refl _, Nat.le_refl _⟩
  generalize (headSpec w_MD_isName { frames := 1, cells := Z.2.2.1 - s.heap.size, slots := Z.2.2.2 - k1, locals := 20 }).room = R at hret hR hRf ⊢
  generalize (MQ below (hm_Q D dA hCl (hTy dA) sT aK aV z (some (.int Z.1)) Z.2) args s (Z.2.2.1 - s.heap.size) (Z.2.2.2 - k1) (fun q => z ≤ q)) = Q at hret ⊢
  rw [e_MD_isName] at hf
  obtain ⟨J45, eJ45, hf⟩ := b_let_inv hf
  have w45 : ∀ (y0 : Int32) (M : hM) (H : Heap) (locs : List Loc) (ls : Array Slot) (cells slots : Nat), (J45 y0).1 M = some Z → hm_I D dA hCl z k1 s M H locs cells slots → lv_has ls 1 [] → W p l e R s m args below meth c H locs cells slots Q (F0 m 45 ls [.int y0]) := by
    intro y0 M H locs ls cells slots hf hI hl
    rw [eJ45] at hf
    exact hret _ _ _ _ _ _ _ _ d_MD_isName_45 hf hI
  obtain ⟨J44, eJ44, hf⟩ := b_let_inv hf
  have w44 : ∀  (M : hM) (H : Heap) (locs : List Loc) (ls : Array Slot) (cells slots : Nat), (J44).1 M = some Z → hm_I D dA hCl z k1 s M H locs cells slots → lv_has ls 1 [] → W p l e R s m args below meth c H locs cells slots Q (F0 m 44 ls []) := by
    intro M H locs ls cells slots hf hI hl
    rw [eJ44] at hf
    refine lv_iconst (v := 0) S.1 S.2.1 d_MD_isName_44 (by decide) ?_
    exact w45 0 _ _ _ _ _ _ hf hI (lv_sub hl [] rfl)
  refine lv_aload_n S.1 S.2.1 d_MD_isName_0 rfl (lv_at hl 0 rfl) ?_
  refine x_getI (ci := 1) (k := 5) S hK hI (fun w h => List.mem_cons_of_mem _ (i_MD w h)) rfl (by decide) (List.mem_cons_of_mem _ wd_572) rfl d_MD_isName_1 hf (fun v1 hf => ?_)
  refine lv_bipush (v := (-2)) S.1 S.2.1 d_MD_isName_4 (by decide) ?_
  refine lv_icmp_ne (tgt := 44) S.1 S.2.1 d_MD_isName_6 (by decide) (fun hc => ?_) (fun hc => ?_)
  · have hf := b_if_f hc hf
    exact w44  _ _ _ _ _ _ hf hI (lv_sub hl [] rfl)
  · have hf := b_if_t hc hf
    refine lv_aload_n S.1 S.2.1 d_MD_isName_9 rfl (lv_at hl 0 rfl) ?_
    refine x_getI (ci := 1) (k := 4) S hK hI (fun w h => List.mem_cons_of_mem _ (i_MD w h)) rfl (by decide) (List.mem_cons_of_mem _ wd_561) rfl d_MD_isName_10 hf (fun v2 hf => ?_)
    refine lv_aload_n S.1 S.2.1 d_MD_isName_13 rfl (lv_at hl 0 rfl) ?_
    refine x_getI (ci := 1) (k := 3) S hK hI (fun w h => List.mem_cons_of_mem _ (i_MD w h)) rfl (by decide) (List.mem_cons_of_mem _ wd_560) rfl d_MD_isName_14 hf (fun v3 hf => ?_)
    refine lv_isub S.1 S.2.1 d_MD_isName_17 ?_
    refine lv_bipush (v := 20) S.1 S.2.1 d_MD_isName_18 (by decide) ?_
    refine lv_icmp_gt (tgt := 44) S.1 S.2.1 d_MD_isName_20 (by decide) (fun hc => ?_) (fun hc => ?_)
    · have hf := b_if_t hc hf
      exact w44  _ _ _ _ _ _ hf hI (lv_sub hl [] rfl)
    · have hf := b_if_f hc hf
      refine lv_aload_n S.1 S.2.1 d_MD_isName_23 rfl (lv_at hl 0 rfl) ?_
      refine x_getR (ci := 1) (k := 1) S hK hI (fun w h => List.mem_cons_of_mem _ (i_MD w h)) rfl (by decide) (List.mem_cons_of_mem _ wd_509) rfl d_MD_isName_24 hf (fun r4 hf => ?_)
      refine lv_aload_n S.1 S.2.1 d_MD_isName_27 rfl (lv_at hl 0 rfl) ?_
      refine x_getI (ci := 1) (k := 4) S hK hI (fun w h => List.mem_cons_of_mem _ (i_MD w h)) rfl (by decide) (List.mem_cons_of_mem _ wd_561) rfl d_MD_isName_28 hf (fun v5 hf => ?_)
      refine lv_iconst (v := 1) S.1 S.2.1 d_MD_isName_31 (by decide) ?_
      refine lv_isub S.1 S.2.1 d_MD_isName_32 ?_
      obtain ⟨a6, ea6, hg⟩ := b_nn_inv hf
      have hI0 := hI
      have hl0 := hl
      clear hf hI hl
      subst ea6
      have hf := hg
      have hI := hI0
      have hl := hl0
      clear hg hI0 hl0
      refine x_bald (t := 6) S hK hI rfl d_MD_isName_33 hf (fun v7 hf => ?_)
      obtain ⟨v8, N9, hg10, hf⟩ := b_call_inv hf
      refine x_call hI (hm_mo hg10) (va_runS (As := [.int v7]) (rest := []) S (c_MD_isDash l hg10) (va_cwS 1 S.2.2.2.2 (gi_S wd_569 wd_570 wd_564 wd_571) rfl rfl rfl (by decide +kernel) ⟨Nat.le_trans (Nat.le_of_ble_eq_true rfl) hRf.1, Nat.le_trans (Nat.le_of_ble_eq_true rfl) hRf.2⟩) ⟨hm_B.blind, fun U hU hW => ⟨rfl, hm_B.of hK hG hI hU hW⟩⟩ rfl rfl hl.1 rfl (lv_room (Nat.le_of_ble_eq_true rfl)) d_MD_isName_34 (hx_fit hI hR (hm_mo hg10) (hm_mo hf))) (fun H locs cells slots hI => ?_)
      refine W.eq (g2 := F0 m 37 ls [.int v8]) rfl ?_
      refine lv_if_ne (tgt := 44) S.1 S.2.1 d_MD_isName_37 (by decide) (fun hc => ?_) (fun hc => ?_)
      · have hf := b_if_f hc hf
        exact w44  _ _ _ _ _ _ hf hI (lv_sub hl [] rfl)
      · have hf := b_if_t hc hf
        refine lv_iconst (v := 1) S.1 S.2.1 d_MD_isName_40 (by decide) ?_
        refine lv_goto (tgt := 45) S.1 S.2.1 d_MD_isName_41 (by decide) ?_
        exact w45 1 _ _ _ _ _ _ hf hI (lv_sub hl [] rfl)
set_option maxHeartbeats 4000000 in
set_option maxRecDepth 100000 in
theorem c_MD_number (l : Launch) {D : va_G} {dA : Nat → ClassId} {aK aV : Nat → Nat} {z : Nat} {N : Nat} {h0 : Nat} {M : hM} {Z : Int64 × hM} (hf : (f_MD_number N h0 ).1 M = some Z) : Met l y_MD_number w_MD_number ({ frames := 2, cells := Z.2.2.1 - M.2.1, slots := Z.2.2.2 - M.2.2, locals := 42 }) (va_Pc [.ref h0] (hm_B D dA hCl (hTy dA) sT aK aV z M)) (hm_Q D dA hCl (hTy dA) sT aK aV z (some (.long Z.1)) Z.2) (Z.2.2.1 - M.2.1) (Z.2.2.2 - M.2.2) (fun q => z ≤ q) := by
  refine Met.ofW (cc := b_MD_number) (maxL := 4) (ret := (some .long)) (by decide) rfl ?_
  intro p e s m args below meth c s₁ B hml hv
  obtain ⟨hav, hB⟩ := hv
  have S : CallFix p m c b_MD_number 4 s args w_MD_number R_MD := ⟨B.exec, B.bytes, hml, findClass_of_methodNamed B.named, atoms_spec (ws := w_MD_number) B.pre⟩
  have hr : meth.sig.returnType = (some .long) := B.returns
  have hlocks := B.notSynchronized
  have hK := hB.2.2.1
  have hG := hB.2.2.2.2.2
  have hI := hm_I.start hB
  rw [← hB.2.1]
  generalize M.2.2 = k1 at hI ⊢
  refine W.eq (g2 := F0 m 0 ((lg_sl ([.ref h0]) ++ List.replicate (4 - (lg_sl ([.ref h0])).length) Slot.unset).toArray) []) (by rw [hav]; exact lg_entry_eq m ([.ref h0]) 4) ?_
  have hl := lv_entry ([.ref h0]) (n := 4) (Nat.le_of_ble_eq_true rfl)
  generalize (lg_sl ([.ref h0]) ++ List.replicate (4 - (lg_sl ([.ref h0])).length) Slot.unset).toArray = ls at hl ⊢
  simp only [lvA_nil, lvA_i, lvA_l, lvA_a, lvA_r, Nat.zero_add, Nat.reduceAdd] at hl
  have hret : ∀ (v : Int64) (M : hM) (H : Heap) (locs : List Loc) (cells slots : Nat) (ls : Array Slot) (pc : Nat), decode b_MD_number pc = .ok (.lreturn, 1) → (b_ret v).1 M = some Z → hm_I D dA hCl z k1 s M H locs cells slots → W p l e (headSpec w_MD_number { frames := 2, cells := Z.2.2.1 - s.heap.size, slots := Z.2.2.2 - k1, locals := 42 }).room s m args below meth c H locs cells slots (MQ below (hm_Q D dA hCl (hTy dA) sT aK aV z (some (.long Z.1)) Z.2) args s (Z.2.2.1 - s.heap.size) (Z.2.2.2 - k1) (fun q => z ≤ q)) (F0 m pc ls [.long v]) := fun v M H locs cells slots ls pc hdg hf hI => x_retl S hK hG hI hr hlocks hdg hf
  have hR : Z.2.2.1 - s.heap.size ≤ (headSpec w_MD_number { frames := 2, cells := Z.2.2.1 - s.heap.size, slots := Z.2.2.2 - k1, locals := 42 }).room.cells ∧ Z.2.2.2 - k1 ≤ (headSpec w_MD_number { frames := 2, cells := Z.2.2.1 - s.heap.size, slots := Z.2.2.2 - k1, locals := 42 }).room.slots := ⟨Nat.le_refl _, Nat.le_refl _⟩
  have hRf : 2 ≤ (headSpec w_MD_number { frames := 2, cells := Z.2.2.1 - s.heap.size, slots := Z.2.2.2 - k1, locals := 42 }).room.frames ∧ 42 ≤ (headSpec w_MD_number { frames := 2, cells := Z.2.2.1 - s.heap.size, slots := Z.2.2.2 - k1, locals := 42 }).room.locals := ⟨Nat.le_refl _, Nat.le_refl _⟩
  generalize (headSpec w_MD_number { frames := 2, cells := Z.2.2.1 - s.heap.size, slots := Z.2.2.2 - k1, locals := 42 }).room = R at hret hR hRf ⊢
  generalize (MQ below (hm_Q D dA hCl (hTy dA) sT aK aV z (some (.long Z.1)) Z.2) args s (Z.2.2.1 - s.heap.size) (Z.2.2.2 - k1) (fun q => z ≤ q)) = Q at hret ⊢
  rw [e_MD_number] at hf
  obtain ⟨J59, eJ59, hf⟩ := b_let_inv hf
  have w59 : ∀  (M : hM) (H : Heap) (locs : List Loc) (ls : Array Slot) (cells slots : Nat), (J59).1 M = some Z → hm_I D dA hCl z k1 s M H locs cells slots → lv_has ls 4 [(0, .ref h0)] → W p l e R s m args below meth c H locs cells slots Q (F0 m 59 ls []) := by
    intro M H locs ls cells slots hf hI hl
    rw [eJ59] at hf
    refine lv_aload_n S.1 S.2.1 d_MD_number_59 rfl (lv_at hl 0 rfl) ?_
    refine lv_aload_n S.1 S.2.1 d_MD_number_60 rfl (lv_at hl 0 rfl) ?_
    refine x_getI (ci := 1) (k := 3) S hK hI (fun w h => List.mem_cons_of_mem _ (i_MD w h)) rfl (by decide) (List.mem_cons_of_mem _ wd_560) rfl d_MD_number_61 hf (fun v1 hf => ?_)
    obtain ⟨⟨fs5, hefs5⟩, hf⟩ := b_is_inv hf
    obtain ⟨r2, N3, hg4, hf⟩ := b_call_inv hf
    refine x_call hI (hm_mo hg4) (va_runV (As := [.int v1]) (rest := []) S (c_MD_fail l hg4) (cwV 1 S.2.2.2.2 (gi_V wd_579 wd_580 wd_581 wd_564 wd_582) rfl rfl rfl (by decide +kernel) ⟨Nat.le_trans (Nat.le_of_ble_eq_true rfl) hRf.1, Nat.le_trans (Nat.le_of_ble_eq_true rfl) hRf.2⟩) ⟨hm_B.blind, va_recv hK (hI.1.one hefs5) (ci := 1) (q0 := 0) rfl rfl, fun U hU hW => ⟨rfl, hm_B.of hK hG hI hU hW⟩⟩ rfl rfl hl.1 rfl (lv_room (Nat.le_of_ble_eq_true rfl)) d_MD_number_64 (hx_fit hI hR (hm_mo hg4) (hm_mo hf))) (fun H locs cells slots hI => ?_)
    refine W.eq (g2 := F0 m 67 ls []) rfl ?_
    refine lv_lconst (v := 0) S.1 S.2.1 d_MD_number_67 (by decide) ?_
    exact hret _ _ _ _ _ _ _ _ d_MD_number_68 hf hI
  obtain ⟨J69, eJ69, hf⟩ := b_let_inv hf
  have w69 : ∀  (M : hM) (H : Heap) (locs : List Loc) (ls : Array Slot) (cells slots : Nat), (J69).1 M = some Z → hm_I D dA hCl z k1 s M H locs cells slots → lv_has ls 4 [(0, .ref h0)] → W p l e R s m args below meth c H locs cells slots Q (F0 m 69 ls []) := by
    intro M H locs ls cells slots hf hI hl
    rw [eJ69] at hf
    have w76 : ∀ (n : Nat) (x1 : Int64) (x3 : Int32) (M : hM) (H : Heap) (locs : List Loc) (ls : Array Slot) (cells slots : Nat), (f_MD_number_76 N h0  n x1 x3).1 M = some Z → hm_I D dA hCl z k1 s M H locs cells slots → lv_has ls 4 [(0, .ref h0), (1, .long x1), (3, .int x3)] → W p l e R s m args below meth c H locs cells slots Q (F0 m 76 ls []) := by
      intro n
      induction n with
      | zero => intro x1 x3 M H locs ls cells slots hf hI hl; cases hf
      | succ n76 ih76 =>
        intro x1 x3 M H locs ls cells slots hf hI hl
        rw [e_MD_number_76] at hf
        refine lv_iload_n S.1 S.2.1 d_MD_number_76 rfl (lv_at hl 2 rfl) ?_
        refine lv_aload_n S.1 S.2.1 d_MD_number_77 rfl (lv_at hl 0 rfl) ?_
        refine x_getI (ci := 1) (k := 4) S hK hI (fun w h => List.mem_cons_of_mem _ (i_MD w h)) rfl (by decide) (List.mem_cons_of_mem _ wd_561) rfl d_MD_number_78 hf (fun v6 hf => ?_)
        refine lv_icmp_ge (tgt := 108) S.1 S.2.1 d_MD_number_81 (by decide) (fun hc => ?_) (fun hc => ?_)
        · have hf := b_if_t hc hf
          refine lv_aload_n S.1 S.2.1 d_MD_number_108 rfl (lv_at hl 0 rfl) ?_
          obtain ⟨⟨fs10, hefs10⟩, hf⟩ := b_is_inv hf
          obtain ⟨r7, N8, hg9, hf⟩ := b_call_inv hf
          refine x_call hI (hm_mo hg9) (va_runV (As := []) (rest := []) S (c_MD_next l hg9) (cwV 0 S.2.2.2.2 (gi_V wd_583 wd_584 wd_585 wd_564 wd_586) rfl rfl rfl (by decide +kernel) ⟨Nat.le_trans (Nat.le_of_ble_eq_true rfl) hRf.1, Nat.le_trans (Nat.le_of_ble_eq_true rfl) hRf.2⟩) ⟨hm_B.blind, va_recv hK (hI.1.one hefs10) (ci := 1) (q0 := 0) rfl rfl, fun U hU hW => ⟨rfl, hm_B.of hK hG hI hU hW⟩⟩ rfl rfl hl.1 rfl (lv_room (Nat.le_of_ble_eq_true rfl)) d_MD_number_109 (hx_fit hI hR (hm_mo hg9) (hm_mo hf))) (fun H locs cells slots hI => ?_)
          refine W.eq (g2 := F0 m 112 ls []) rfl ?_
          refine lv_lload_n S.1 S.2.1 d_MD_number_112 rfl (lv_at hl 1 rfl) ?_
          exact hret _ _ _ _ _ _ _ _ d_MD_number_113 hf hI
        · have hf := b_if_f hc hf
          refine lv_ldc2 (v := 10) S.1 S.2.1 S.2.2.2.1 (S.2.2.2.2 _ (List.mem_cons_of_mem _ wd_587)) d_MD_number_84 ?_
          refine lv_lload_n S.1 S.2.1 d_MD_number_87 rfl (lv_at hl 1 rfl) ?_
          refine lv_lmul S.1 S.2.1 d_MD_number_88 ?_
          refine lv_aload_n S.1 S.2.1 d_MD_number_89 rfl (lv_at hl 0 rfl) ?_
          refine x_getR (ci := 1) (k := 1) S hK hI (fun w h => List.mem_cons_of_mem _ (i_MD w h)) rfl (by decide) (List.mem_cons_of_mem _ wd_509) rfl d_MD_number_90 hf (fun r11 hf => ?_)
          refine lv_iload_n S.1 S.2.1 d_MD_number_93 rfl (lv_at hl 2 rfl) ?_
          obtain ⟨a12, ea12, hg⟩ := b_nn_inv hf
          have hI0 := hI
          have hl0 := hl
          clear hf hI hl
          subst ea12
          have hf := hg
          have hI := hI0
          have hl := hl0
          clear hg hI0 hl0
          refine x_bald (t := 6) S hK hI rfl d_MD_number_94 hf (fun v13 hf => ?_)
          refine lv_i2l S.1 S.2.1 d_MD_number_95 rfl ?_
          refine lv_ladd S.1 S.2.1 d_MD_number_96 ?_
          refine lv_ldc2 (v := 48) S.1 S.2.1 S.2.2.2.1 (S.2.2.2.2 _ (List.mem_cons_of_mem _ wd_588)) d_MD_number_97 ?_
          refine lv_lsub S.1 S.2.1 d_MD_number_100 ?_
          refine x_lstore_n (lv2 := [(0, .ref h0), (3, .int x3)]) S d_MD_number_101 rfl hl (by decide) [0, 2] rfl ⟨⟨(by decide : (0 : Nat) ≠ 1), (by decide : (0 : Nat) ≠ 1 + 1), fun _ => rfl⟩, ⟨⟨(by decide : (3 : Nat) ≠ 1), (by decide : (3 : Nat) ≠ 1 + 1), fun h => absurd (show (3 : Nat) + 1 = 1 from h) (by decide)⟩, trivial⟩⟩ (fun ls hl => ?_)
          refine x_iinc (v := 1) (lv2 := [(1, .long (((10 * x1) + ((v13 : Int32).toInt64)) - 48)), (0, .ref h0)]) S d_MD_number_102 hl 2 rfl (by decide) (by decide) [0, 1] rfl ⟨⟨(by decide : (1 : Nat) ≠ 3), fun h => absurd (show (1 : Nat) + 1 = 3 from h) (by decide)⟩, ⟨⟨(by decide : (0 : Nat) ≠ 3), fun h => absurd (show (0 : Nat) + 1 = 3 from h) (by decide)⟩, trivial⟩⟩ (fun ls hl => ?_)
          refine lv_goto (tgt := 76) S.1 S.2.1 d_MD_number_105 (by decide) ?_
          exact ih76 (((10 * x1) + ((v13 : Int32).toInt64)) - 48) (x3 + 1) _ _ _ _ _ _ hf hI (lv_sub hl [2, 1, 0] rfl)
    refine lv_lconst (v := 0) S.1 S.2.1 d_MD_number_69 (by decide) ?_
    refine x_lstore_n (lv2 := [(0, .ref h0)]) S d_MD_number_70 rfl hl (by decide) [0] rfl ⟨⟨(by decide : (0 : Nat) ≠ 1), (by decide : (0 : Nat) ≠ 1 + 1), fun _ => rfl⟩, trivial⟩ (fun ls hl => ?_)
    refine lv_aload_n S.1 S.2.1 d_MD_number_71 rfl (lv_at hl 1 rfl) ?_
    refine x_getI (ci := 1) (k := 3) S hK hI (fun w h => List.mem_cons_of_mem _ (i_MD w h)) rfl (by decide) (List.mem_cons_of_mem _ wd_560) rfl d_MD_number_72 hf (fun v14 hf => ?_)
    refine x_istore_n (lv2 := [(1, .long 0), (0, .ref h0)]) S d_MD_number_75 rfl hl (by decide) [0, 1] rfl ⟨⟨(by decide : (1 : Nat) ≠ 3), fun h => absurd (show (1 : Nat) + 1 = 3 from h) (by decide)⟩, ⟨⟨(by decide : (0 : Nat) ≠ 3), fun h => absurd (show (0 : Nat) + 1 = 3 from h) (by decide)⟩, trivial⟩⟩ (fun ls hl => ?_)
    exact w76 N 0 v14 _ _ _ _ _ _ hf hI (lv_sub hl [2, 1, 0] rfl)
  refine lv_aload_n S.1 S.2.1 d_MD_number_0 rfl (lv_at hl 0 rfl) ?_
  obtain ⟨⟨fs18, hefs18⟩, hf⟩ := b_is_inv hf
  obtain ⟨v15, N16, hg17, hf⟩ := b_call_inv hf
  refine x_call hI (hm_mo hg17) (va_runV (As := []) (rest := []) S (c_MD_isWrong l hg17) (cwV 0 S.2.2.2.2 (gi_V wd_575 wd_576 wd_577 wd_564 wd_578) rfl rfl rfl (by decide +kernel) ⟨Nat.le_trans (Nat.le_of_ble_eq_true rfl) hRf.1, Nat.le_trans (Nat.le_of_ble_eq_true rfl) hRf.2⟩) ⟨hm_B.blind, va_recv hK (hI.1.one hefs18) (ci := 1) (q0 := 0) rfl rfl, fun U hU hW => ⟨rfl, hm_B.of hK hG hI hU hW⟩⟩ rfl rfl hl.1 rfl (lv_room (Nat.le_of_ble_eq_true rfl)) d_MD_number_1 (hx_fit hI hR (hm_mo hg17) (hm_mo hf))) (fun H locs cells slots hI => ?_)
  refine W.eq (g2 := F0 m 4 ls [.int v15]) rfl ?_
  refine lv_if_eq (tgt := 9) S.1 S.2.1 d_MD_number_4 (by decide) (fun hc => ?_) (fun hc => ?_)
  · have hf := b_if_t hc hf
    refine lv_aload_n S.1 S.2.1 d_MD_number_9 rfl (lv_at hl 0 rfl) ?_
    refine x_getI (ci := 1) (k := 5) S hK hI (fun w h => List.mem_cons_of_mem _ (i_MD w h)) rfl (by decide) (List.mem_cons_of_mem _ wd_572) rfl d_MD_number_10 hf (fun v19 hf => ?_)
    refine lv_bipush (v := (-3)) S.1 S.2.1 d_MD_number_13 (by decide) ?_
    refine lv_icmp_ne (tgt := 59) S.1 S.2.1 d_MD_number_15 (by decide) (fun hc => ?_) (fun hc => ?_)
    · have hf := b_if_f hc hf
      exact w59  _ _ _ _ _ _ hf hI (lv_sub hl [0] rfl)
    · have hf := b_if_t hc hf
      refine lv_aload_n S.1 S.2.1 d_MD_number_18 rfl (lv_at hl 0 rfl) ?_
      refine x_getI (ci := 1) (k := 4) S hK hI (fun w h => List.mem_cons_of_mem _ (i_MD w h)) rfl (by decide) (List.mem_cons_of_mem _ wd_561) rfl d_MD_number_19 hf (fun v20 hf => ?_)
      refine lv_aload_n S.1 S.2.1 d_MD_number_22 rfl (lv_at hl 0 rfl) ?_
      refine x_getI (ci := 1) (k := 3) S hK hI (fun w h => List.mem_cons_of_mem _ (i_MD w h)) rfl (by decide) (List.mem_cons_of_mem _ wd_560) rfl d_MD_number_23 hf (fun v21 hf => ?_)
      refine lv_isub S.1 S.2.1 d_MD_number_26 ?_
      refine lv_bipush (v := 6) S.1 S.2.1 d_MD_number_27 (by decide) ?_
      refine lv_icmp_gt (tgt := 59) S.1 S.2.1 d_MD_number_29 (by decide) (fun hc => ?_) (fun hc => ?_)
      · have hf := b_if_t hc hf
        exact w59  _ _ _ _ _ _ hf hI (lv_sub hl [0] rfl)
      · have hf := b_if_f hc hf
        refine lv_aload_n S.1 S.2.1 d_MD_number_32 rfl (lv_at hl 0 rfl) ?_
        refine x_getR (ci := 1) (k := 1) S hK hI (fun w h => List.mem_cons_of_mem _ (i_MD w h)) rfl (by decide) (List.mem_cons_of_mem _ wd_509) rfl d_MD_number_33 hf (fun r22 hf => ?_)
        refine lv_aload_n S.1 S.2.1 d_MD_number_36 rfl (lv_at hl 0 rfl) ?_
        refine x_getI (ci := 1) (k := 3) S hK hI (fun w h => List.mem_cons_of_mem _ (i_MD w h)) rfl (by decide) (List.mem_cons_of_mem _ wd_560) rfl d_MD_number_37 hf (fun v23 hf => ?_)
        obtain ⟨a24, ea24, hg⟩ := b_nn_inv hf
        have hI0 := hI
        have hl0 := hl
        clear hf hI hl
        subst ea24
        have hf := hg
        have hI := hI0
        have hl := hl0
        clear hg hI0 hl0
        refine x_bald (t := 6) S hK hI rfl d_MD_number_40 hf (fun v25 hf => ?_)
        refine lv_bipush (v := 48) S.1 S.2.1 d_MD_number_41 (by decide) ?_
        refine lv_icmp_ne (tgt := 69) S.1 S.2.1 d_MD_number_43 (by decide) (fun hc => ?_) (fun hc => ?_)
        · have hf := b_if_f hc hf
          exact w69  _ _ _ _ _ _ hf hI (lv_sub hl [0] rfl)
        · have hf := b_if_t hc hf
          refine lv_aload_n S.1 S.2.1 d_MD_number_46 rfl (lv_at hl 0 rfl) ?_
          refine x_getI (ci := 1) (k := 4) S hK hI (fun w h => List.mem_cons_of_mem _ (i_MD w h)) rfl (by decide) (List.mem_cons_of_mem _ wd_561) rfl d_MD_number_47 hf (fun v26 hf => ?_)
          refine lv_aload_n S.1 S.2.1 d_MD_number_50 rfl (lv_at hl 0 rfl) ?_
          refine x_getI (ci := 1) (k := 3) S hK hI (fun w h => List.mem_cons_of_mem _ (i_MD w h)) rfl (by decide) (List.mem_cons_of_mem _ wd_560) rfl d_MD_number_51 hf (fun v27 hf => ?_)
          refine lv_isub S.1 S.2.1 d_MD_number_54 ?_
          refine lv_iconst (v := 1) S.1 S.2.1 d_MD_number_55 (by decide) ?_
          refine lv_icmp_le (tgt := 69) S.1 S.2.1 d_MD_number_56 (by decide) (fun hc => ?_) (fun hc => ?_)
          · have hf := b_if_t hc hf
            exact w69  _ _ _ _ _ _ hf hI (lv_sub hl [0] rfl)
          · have hf := b_if_f hc hf
            exact w59  _ _ _ _ _ _ hf hI (lv_sub hl [0] rfl)
  · have hf := b_if_f hc hf
    refine lv_lconst (v := 0) S.1 S.2.1 d_MD_number_7 (by decide) ?_
    exact hret _ _ _ _ _ _ _ _ d_MD_number_8 hf hI
set_option maxHeartbeats 4000000 in
set_option maxRecDepth 100000 in
theorem c_MD_stayClose (l : Launch) {D : va_G} {dA : Nat → ClassId} {aK aV : Nat → Nat} {z : Nat} {N : Nat} {h0 : Nat} {M : hM} {Z : Unit × hM} (hf : (f_MD_stayClose N h0 ).1 M = some Z) : Met l y_MD_stayClose w_MD_stayClose ({ frames := 1, cells := Z.2.2.1 - M.2.1, slots := Z.2.2.2 - M.2.2, locals := 21 }) (va_Pc [.ref h0] (hm_B D dA hCl (hTy dA) sT aK aV z M)) (hm_Q D dA hCl (hTy dA) sT aK aV z none Z.2) (Z.2.2.1 - M.2.1) (Z.2.2.2 - M.2.2) (fun q => z ≤ q) := by
  refine Met.ofW (cc := b_MD_stayClose) (maxL := 1) (ret := none) (by decide) rfl ?_
  intro p e s m args below meth c s₁ B hml hv
  obtain ⟨hav, hB⟩ := hv
  have S : CallFix p m c b_MD_stayClose 1 s args w_MD_stayClose R_MD := ⟨B.exec, B.bytes, hml, findClass_of_methodNamed B.named, atoms_spec (ws := w_MD_stayClose) B.pre⟩
  have hr : meth.sig.returnType = none := B.returns
  have hlocks := B.notSynchronized
  have hK := hB.2.2.1
  have hG := hB.2.2.2.2.2
  have hI := hm_I.start hB
  rw [← hB.2.1]
  generalize M.2.2 = k1 at hI ⊢
  refine W.eq (g2 := F0 m 0 ((lg_sl ([.ref h0]) ++ List.replicate (1 - (lg_sl ([.ref h0])).length) Slot.unset).toArray) []) (by rw [hav]; exact lg_entry_eq m ([.ref h0]) 1) ?_
  have hl := lv_entry ([.ref h0]) (n := 1) (Nat.le_of_ble_eq_true rfl)
  generalize (lg_sl ([.ref h0]) ++ List.replicate (1 - (lg_sl ([.ref h0])).length) Slot.unset).toArray = ls at hl ⊢
  simp only [lvA_nil, lvA_i, lvA_l, lvA_a, lvA_r, Nat.zero_add, Nat.reduceAdd] at hl
  have hret : ∀ (M : hM) (H : Heap) (locs : List Loc) (cells slots : Nat) (ls : Array Slot) (pc : Nat), decode b_MD_stayClose pc = .ok (.return_, 1) → (b_ret ()).1 M = some Z → hm_I D dA hCl z k1 s M H locs cells slots → W p l e (headSpec w_MD_stayClose { frames := 1, cells := Z.2.2.1 - s.heap.size, slots := Z.2.2.2 - k1, locals := 21 }).room s m args below meth c H locs cells slots (MQ below (hm_Q D dA hCl (hTy dA) sT aK aV z none Z.2) args s (Z.2.2.1 - s.heap.size) (Z.2.2.2 - k1) (fun q => z ≤ q)) (F0 m pc ls []) := fun M H locs cells slots ls pc hdg hf hI => x_retv S hK hG hI hr hlocks hdg hf
  have hR : Z.2.2.1 - s.heap.size ≤ (headSpec w_MD_stayClose { frames := 1, cells := Z.2.2.1 - s.heap.size, slots := Z.2.2.2 - k1, locals := 21 }).room.cells ∧ Z.2.2.2 - k1 ≤ (headSpec w_MD_stayClose { frames := 1, cells := Z.2.2.1 - s.heap.size, slots := Z.2.2.2 - k1, locals := 21 }).room.slots := ⟨Nat.le_refl _, Nat.le_refl _⟩
  have hRf : 1 ≤ (headSpec w_MD_stayClose { frames := 1, cells := Z.2.2.1 - s.heap.size, slots := Z.2.2.2 - k1, locals := 21 }).room.frames ∧ 21 ≤ (headSpec w_MD_stayClose { frames := 1, cells := Z.2.2.1 - s.heap.size, slots := Z.2.2.2 - k1, locals := 21 }).room.locals := ⟨Nat.le_refl _, Nat.le_refl _⟩
  generalize (headSpec w_MD_stayClose { frames := 1, cells := Z.2.2.1 - s.heap.size, slots := Z.2.2.2 - k1, locals := 21 }).room = R at hret hR hRf ⊢
  generalize (MQ below (hm_Q D dA hCl (hTy dA) sT aK aV z none Z.2) args s (Z.2.2.1 - s.heap.size) (Z.2.2.2 - k1) (fun q => z ≤ q)) = Q at hret ⊢
  rw [e_MD_stayClose] at hf
  refine lv_aload_n S.1 S.2.1 d_MD_stayClose_0 rfl (lv_at hl 0 rfl) ?_
  refine x_getI (ci := 1) (k := 3) S hK hI (fun w h => List.mem_cons_of_mem _ (i_MD w h)) rfl (by decide) (List.mem_cons_of_mem _ wd_560) rfl d_MD_stayClose_1 hf (fun v1 hf => ?_)
  refine lv_aload_n S.1 S.2.1 d_MD_stayClose_4 rfl (lv_at hl 0 rfl) ?_
  refine x_getI (ci := 1) (k := 6) S hK hI (fun w h => List.mem_cons_of_mem _ (i_MD w h)) rfl (by decide) (List.mem_cons_of_mem _ wd_573) rfl d_MD_stayClose_5 hf (fun v2 hf => ?_)
  refine lv_icmp_eq (tgt := 19) S.1 S.2.1 d_MD_stayClose_8 (by decide) (fun hc => ?_) (fun hc => ?_)
  · have hf := b_if_t hc hf
    exact hret _ _ _ _ _ _ _ d_MD_stayClose_19 hf hI
  · have hf := b_if_f hc hf
    refine lv_aload_n S.1 S.2.1 d_MD_stayClose_11 rfl (lv_at hl 0 rfl) ?_
    refine lv_aload_n S.1 S.2.1 d_MD_stayClose_12 rfl (lv_at hl 0 rfl) ?_
    refine x_getI (ci := 1) (k := 3) S hK hI (fun w h => List.mem_cons_of_mem _ (i_MD w h)) rfl (by decide) (List.mem_cons_of_mem _ wd_560) rfl d_MD_stayClose_13 hf (fun v3 hf => ?_)
    obtain ⟨⟨fs7, hefs7⟩, hf⟩ := b_is_inv hf
    obtain ⟨r4, N5, hg6, hf⟩ := b_call_inv hf
    refine x_call hI (hm_mo hg6) (va_runV (As := [.int v3]) (rest := []) S (c_MD_fail l hg6) (cwV 1 S.2.2.2.2 (gi_V wd_579 wd_580 wd_581 wd_564 wd_582) rfl rfl rfl (by decide +kernel) ⟨Nat.le_trans (Nat.le_of_ble_eq_true rfl) hRf.1, Nat.le_trans (Nat.le_of_ble_eq_true rfl) hRf.2⟩) ⟨hm_B.blind, va_recv hK (hI.1.one hefs7) (ci := 1) (q0 := 0) rfl rfl, fun U hU hW => ⟨rfl, hm_B.of hK hG hI hU hW⟩⟩ rfl rfl hl.1 rfl (lv_room (Nat.le_of_ble_eq_true rfl)) d_MD_stayClose_16 (hx_fit hI hR (hm_mo hg6) (hm_mo hf))) (fun H locs cells slots hI => ?_)
    refine W.eq (g2 := F0 m 19 ls []) rfl ?_
    exact hret _ _ _ _ _ _ _ d_MD_stayClose_19 hf hI
set_option maxHeartbeats 4000000 in
set_option maxRecDepth 100000 in
theorem c_MD_readVersion (l : Launch) {D : va_G} {dA : Nat → ClassId} {aK aV : Nat → Nat} {z : Nat} {N : Nat} {h0 : Nat} {M : hM} {Z : Int64 × hM} (hf : (f_MD_readVersion N h0 ).1 M = some Z) : Met l y_MD_readVersion w_MD_readVersion ({ frames := 3, cells := Z.2.2.1 - M.2.1, slots := Z.2.2.2 - M.2.2, locals := 65 }) (va_Pc [.ref h0] (hm_B D dA hCl (hTy dA) sT aK aV z M)) (hm_Q D dA hCl (hTy dA) sT aK aV z (some (.long Z.1)) Z.2) (Z.2.2.1 - M.2.1) (Z.2.2.2 - M.2.2) (fun q => z ≤ q) := by
  refine Met.ofW (cc := b_MD_readVersion) (maxL := 4) (ret := (some .long)) (by decide) rfl ?_
  intro p e s m args below meth c s₁ B hml hv
  obtain ⟨hav, hB⟩ := hv
  have S : CallFix p m c b_MD_readVersion 4 s args w_MD_readVersion R_MD := ⟨B.exec, B.bytes, hml, findClass_of_methodNamed B.named, atoms_spec (ws := w_MD_readVersion) B.pre⟩
  have hr : meth.sig.returnType = (some .long) := B.returns
  have hlocks := B.notSynchronized
  have hK := hB.2.2.1
  have hG := hB.2.2.2.2.2
  have hI := hm_I.start hB
  rw [← hB.2.1]
  generalize M.2.2 = k1 at hI ⊢
  refine W.eq (g2 := F0 m 0 ((lg_sl ([.ref h0]) ++ List.replicate (4 - (lg_sl ([.ref h0])).length) Slot.unset).toArray) []) (by rw [hav]; exact lg_entry_eq m ([.ref h0]) 4) ?_
  have hl := lv_entry ([.ref h0]) (n := 4) (Nat.le_of_ble_eq_true rfl)
  generalize (lg_sl ([.ref h0]) ++ List.replicate (4 - (lg_sl ([.ref h0])).length) Slot.unset).toArray = ls at hl ⊢
  simp only [lvA_nil, lvA_i, lvA_l, lvA_a, lvA_r, Nat.zero_add, Nat.reduceAdd] at hl
  have hret : ∀ (v : Int64) (M : hM) (H : Heap) (locs : List Loc) (cells slots : Nat) (ls : Array Slot) (pc : Nat), decode b_MD_readVersion pc = .ok (.lreturn, 1) → (b_ret v).1 M = some Z → hm_I D dA hCl z k1 s M H locs cells slots → W p l e (headSpec w_MD_readVersion { frames := 3, cells := Z.2.2.1 - s.heap.size, slots := Z.2.2.2 - k1, locals := 65 }).room s m args below meth c H locs cells slots (MQ below (hm_Q D dA hCl (hTy dA) sT aK aV z (some (.long Z.1)) Z.2) args s (Z.2.2.1 - s.heap.size) (Z.2.2.2 - k1) (fun q => z ≤ q)) (F0 m pc ls [.long v]) := fun v M H locs cells slots ls pc hdg hf hI => x_retl S hK hG hI hr hlocks hdg hf
  have hR : Z.2.2.1 - s.heap.size ≤ (headSpec w_MD_readVersion { frames := 3, cells := Z.2.2.1 - s.heap.size, slots := Z.2.2.2 - k1, locals := 65 }).room.cells ∧ Z.2.2.2 - k1 ≤ (headSpec w_MD_readVersion { frames := 3, cells := Z.2.2.1 - s.heap.size, slots := Z.2.2.2 - k1, locals := 65 }).room.slots := ⟨Nat.le_refl _, Nat.le_refl _⟩
  have hRf : 3 ≤ (headSpec w_MD_readVersion { frames := 3, cells := Z.2.2.1 - s.heap.size, slots := Z.2.2.2 - k1, locals := 65 }).room.frames ∧ 65 ≤ (headSpec w_MD_readVersion { frames := 3, cells := Z.2.2.1 - s.heap.size, slots := Z.2.2.2 - k1, locals := 65 }).room.locals := ⟨Nat.le_refl _, Nat.le_refl _⟩
  generalize (headSpec w_MD_readVersion { frames := 3, cells := Z.2.2.1 - s.heap.size, slots := Z.2.2.2 - k1, locals := 65 }).room = R at hret hR hRf ⊢
  generalize (MQ below (hm_Q D dA hCl (hTy dA) sT aK aV z (some (.long Z.1)) Z.2) args s (Z.2.2.1 - s.heap.size) (Z.2.2.2 - k1) (fun q => z ≤ q)) = Q at hret ⊢
  rw [e_MD_readVersion] at hf
  have w4 : ∀ (n : Nat) (x1 : Int64) (x3 : Int32) (M : hM) (H : Heap) (locs : List Loc) (ls : Array Slot) (cells slots : Nat), (f_MD_readVersion_4 N h0  n x1 x3).1 M = some Z → hm_I D dA hCl z k1 s M H locs cells slots → lv_has ls 4 [(0, .ref h0), (1, .long x1), (3, .int x3)] → W p l e R s m args below meth c H locs cells slots Q (F0 m 4 ls []) := by
    intro n
    induction n with
    | zero => intro x1 x3 M H locs ls cells slots hf hI hl; cases hf
    | succ n4 ih4 =>
      intro x1 x3 M H locs ls cells slots hf hI hl
      rw [e_MD_readVersion_4] at hf
      obtain ⟨J27, eJ27, hf⟩ := b_let_inv hf
      have w27 : ∀ (x1 : Int64) (x3 : Int32) (M : hM) (H : Heap) (locs : List Loc) (ls : Array Slot) (cells slots : Nat), (J27 x1 x3).1 M = some Z → hm_I D dA hCl z k1 s M H locs cells slots → lv_has ls 4 [(0, .ref h0), (1, .long x1), (3, .int x3)] → W p l e R s m args below meth c H locs cells slots Q (F0 m 27 ls []) := by
        intro x1 x3 M H locs ls cells slots hf hI hl
        rw [eJ27] at hf
        refine lv_ldc2 (v := 1000000) S.1 S.2.1 S.2.2.2.1 (S.2.2.2.2 _ (List.mem_cons_of_mem _ wd_589)) d_MD_readVersion_27 ?_
        refine lv_lload_n S.1 S.2.1 d_MD_readVersion_30 rfl (lv_at hl 1 rfl) ?_
        refine lv_lmul S.1 S.2.1 d_MD_readVersion_31 ?_
        refine lv_aload_n S.1 S.2.1 d_MD_readVersion_32 rfl (lv_at hl 0 rfl) ?_
        obtain ⟨⟨fs4, hefs4⟩, hf⟩ := b_is_inv hf
        obtain ⟨v1, N2, hg3, hf⟩ := b_call_inv hf
        refine x_call hI (hm_mo hg3) (va_runV (As := []) (rest := [.long (1000000 * x1)]) S (c_MD_number l hg3) (cwV 0 S.2.2.2.2 (gi_V wd_590 wd_591 wd_592 wd_564 wd_593) rfl rfl rfl (by decide +kernel) ⟨Nat.le_trans (Nat.le_of_ble_eq_true rfl) hRf.1, Nat.le_trans (Nat.le_of_ble_eq_true rfl) hRf.2⟩) ⟨hm_B.blind, va_recv hK (hI.1.one hefs4) (ci := 1) (q0 := 0) rfl rfl, fun U hU hW => ⟨rfl, hm_B.of hK hG hI hU hW⟩⟩ rfl rfl hl.1 rfl (lv_room (Nat.le_of_ble_eq_true rfl)) d_MD_readVersion_33 (hx_fit hI hR (hm_mo hg3) (hm_mo hf))) (fun H locs cells slots hI => ?_)
        refine W.eq (g2 := F0 m 36 ls [.long v1, .long (1000000 * x1)]) rfl ?_
        refine lv_ladd S.1 S.2.1 d_MD_readVersion_36 ?_
        refine x_lstore_n (lv2 := [(0, .ref h0), (3, .int x3)]) S d_MD_readVersion_37 rfl hl (by decide) [0, 2] rfl ⟨⟨(by decide : (0 : Nat) ≠ 1), (by decide : (0 : Nat) ≠ 1 + 1), fun _ => rfl⟩, ⟨⟨(by decide : (3 : Nat) ≠ 1), (by decide : (3 : Nat) ≠ 1 + 1), fun h => absurd (show (3 : Nat) + 1 = 1 from h) (by decide)⟩, trivial⟩⟩ (fun ls hl => ?_)
        refine x_iinc (v := 1) (lv2 := [(1, .long ((1000000 * x1) + v1)), (0, .ref h0)]) S d_MD_readVersion_38 hl 2 rfl (by decide) (by decide) [0, 1] rfl ⟨⟨(by decide : (1 : Nat) ≠ 3), fun h => absurd (show (1 : Nat) + 1 = 3 from h) (by decide)⟩, ⟨⟨(by decide : (0 : Nat) ≠ 3), fun h => absurd (show (0 : Nat) + 1 = 3 from h) (by decide)⟩, trivial⟩⟩ (fun ls hl => ?_)
        refine lv_goto (tgt := 4) S.1 S.2.1 d_MD_readVersion_41 (by decide) ?_
        exact ih4 ((1000000 * x1) + v1) (x3 + 1) _ _ _ _ _ _ hf hI (lv_sub hl [2, 1, 0] rfl)
      refine lv_iload_n S.1 S.2.1 d_MD_readVersion_4 rfl (lv_at hl 2 rfl) ?_
      refine lv_iconst (v := 3) S.1 S.2.1 d_MD_readVersion_5 (by decide) ?_
      refine lv_icmp_ge (tgt := 44) S.1 S.2.1 d_MD_readVersion_6 (by decide) (fun hc => ?_) (fun hc => ?_)
      · have hf := b_if_t hc hf
        refine lv_lload_n S.1 S.2.1 d_MD_readVersion_44 rfl (lv_at hl 1 rfl) ?_
        exact hret _ _ _ _ _ _ _ _ d_MD_readVersion_45 hf hI
      · have hf := b_if_f hc hf
        refine lv_iload_n S.1 S.2.1 d_MD_readVersion_9 rfl (lv_at hl 2 rfl) ?_
        refine lv_if_le (tgt := 27) S.1 S.2.1 d_MD_readVersion_10 (by decide) (fun hc => ?_) (fun hc => ?_)
        · have hf := b_if_t hc hf
          exact w27 x1 x3 _ _ _ _ _ _ hf hI (lv_sub hl [0, 1, 2] rfl)
        · have hf := b_if_f hc hf
          refine lv_aload_n S.1 S.2.1 d_MD_readVersion_13 rfl (lv_at hl 0 rfl) ?_
          obtain ⟨⟨fs8, hefs8⟩, hf⟩ := b_is_inv hf
          obtain ⟨r5, N6, hg7, hf⟩ := b_call_inv hf
          refine x_call hI (hm_mo hg7) (va_runV (As := []) (rest := []) S (c_MD_stayClose l hg7) (cwV 0 S.2.2.2.2 (gi_V wd_594 wd_595 wd_596 wd_564 wd_597) rfl rfl rfl (by decide +kernel) ⟨Nat.le_trans (Nat.le_of_ble_eq_true rfl) hRf.1, Nat.le_trans (Nat.le_of_ble_eq_true rfl) hRf.2⟩) ⟨hm_B.blind, va_recv hK (hI.1.one hefs8) (ci := 1) (q0 := 0) rfl rfl, fun U hU hW => ⟨rfl, hm_B.of hK hG hI hU hW⟩⟩ rfl rfl hl.1 rfl (lv_room (Nat.le_of_ble_eq_true rfl)) d_MD_readVersion_14 (hx_fit hI hR (hm_mo hg7) (hm_mo hf))) (fun H locs cells slots hI => ?_)
          refine W.eq (g2 := F0 m 17 ls []) rfl ?_
          refine lv_aload_n S.1 S.2.1 d_MD_readVersion_17 rfl (lv_at hl 0 rfl) ?_
          refine lv_bipush (v := 46) S.1 S.2.1 d_MD_readVersion_18 (by decide) ?_
          obtain ⟨⟨fs12, hefs12⟩, hf⟩ := b_is_inv hf
          obtain ⟨r9, N10, hg11, hf⟩ := b_call_inv hf
          refine x_call hI (hm_mo hg11) (va_runV (As := [.int 46]) (rest := []) S (c_MD_sign l hg11) (cwV 1 S.2.2.2.2 (gi_V wd_598 wd_599 wd_600 wd_564 wd_601) rfl rfl rfl (by decide +kernel) ⟨Nat.le_trans (Nat.le_of_ble_eq_true rfl) hRf.1, Nat.le_trans (Nat.le_of_ble_eq_true rfl) hRf.2⟩) ⟨hm_B.blind, va_recv hK (hI.1.one hefs12) (ci := 1) (q0 := 0) rfl rfl, fun U hU hW => ⟨rfl, hm_B.of hK hG hI hU hW⟩⟩ rfl rfl hl.1 rfl (lv_room (Nat.le_of_ble_eq_true rfl)) d_MD_readVersion_20 (hx_fit hI hR (hm_mo hg11) (hm_mo hf))) (fun H locs cells slots hI => ?_)
          refine W.eq (g2 := F0 m 23 ls []) rfl ?_
          refine lv_aload_n S.1 S.2.1 d_MD_readVersion_23 rfl (lv_at hl 0 rfl) ?_
          obtain ⟨⟨fs16, hefs16⟩, hf⟩ := b_is_inv hf
          obtain ⟨r13, N14, hg15, hf⟩ := b_call_inv hf
          refine x_call hI (hm_mo hg15) (va_runV (As := []) (rest := []) S (c_MD_stayClose l hg15) (cwV 0 S.2.2.2.2 (gi_V wd_594 wd_595 wd_596 wd_564 wd_597) rfl rfl rfl (by decide +kernel) ⟨Nat.le_trans (Nat.le_of_ble_eq_true rfl) hRf.1, Nat.le_trans (Nat.le_of_ble_eq_true rfl) hRf.2⟩) ⟨hm_B.blind, va_recv hK (hI.1.one hefs16) (ci := 1) (q0 := 0) rfl rfl, fun U hU hW => ⟨rfl, hm_B.of hK hG hI hU hW⟩⟩ rfl rfl hl.1 rfl (lv_room (Nat.le_of_ble_eq_true rfl)) d_MD_readVersion_24 (hx_fit hI hR (hm_mo hg15) (hm_mo hf))) (fun H locs cells slots hI => ?_)
          refine W.eq (g2 := F0 m 27 ls []) rfl ?_
          exact w27 x1 x3 _ _ _ _ _ _ hf hI (lv_sub hl [0, 1, 2] rfl)
  refine lv_lconst (v := 0) S.1 S.2.1 d_MD_readVersion_0 (by decide) ?_
  refine x_lstore_n (lv2 := [(0, .ref h0)]) S d_MD_readVersion_1 rfl hl (by decide) [0] rfl ⟨⟨(by decide : (0 : Nat) ≠ 1), (by decide : (0 : Nat) ≠ 1 + 1), fun _ => rfl⟩, trivial⟩ (fun ls hl => ?_)
  refine lv_iconst (v := 0) S.1 S.2.1 d_MD_readVersion_2 (by decide) ?_
  refine x_istore_n (lv2 := [(1, .long 0), (0, .ref h0)]) S d_MD_readVersion_3 rfl hl (by decide) [0, 1] rfl ⟨⟨(by decide : (1 : Nat) ≠ 3), fun h => absurd (show (1 : Nat) + 1 = 3 from h) (by decide)⟩, ⟨⟨(by decide : (0 : Nat) ≠ 3), fun h => absurd (show (0 : Nat) + 1 = 3 from h) (by decide)⟩, trivial⟩⟩ (fun ls hl => ?_)
  exact w4 N 0 0 _ _ _ _ _ _ hf hI (lv_sub hl [2, 1, 0] rfl)
set_option maxHeartbeats 4000000 in
set_option maxRecDepth 100000 in
theorem c_MD_isBound (l : Launch) {D : va_G} {dA : Nat → ClassId} {aK aV : Nat → Nat} {z : Nat} {N : Nat} {h0 : Nat} {M : hM} {Z : Int32 × hM} (hf : (f_MD_isBound N h0 ).1 M = some Z) : Met l y_MD_isBound w_MD_isBound ({ frames := 0, cells := Z.2.2.1 - M.2.1, slots := Z.2.2.2 - M.2.2, locals := 0 }) (va_Pc [.ref h0] (hm_B D dA hCl (hTy dA) sT aK aV z M)) (hm_Q D dA hCl (hTy dA) sT aK aV z (some (.int Z.1)) Z.2) (Z.2.2.1 - M.2.1) (Z.2.2.2 - M.2.2) (fun q => z ≤ q) := by
  refine Met.ofW (cc := b_MD_isBound) (maxL := 1) (ret := (some .boolean)) (by decide) rfl ?_
  intro p e s m args below meth c s₁ B hml hv
  obtain ⟨hav, hB⟩ := hv
  have S : CallFix p m c b_MD_isBound 1 s args w_MD_isBound R_MD := ⟨B.exec, B.bytes, hml, findClass_of_methodNamed B.named, atoms_spec (ws := w_MD_isBound) B.pre⟩
  have hr : meth.sig.returnType = (some .boolean) := B.returns
  have hlocks := B.notSynchronized
  have hK := hB.2.2.1
  have hG := hB.2.2.2.2.2
  have hI := hm_I.start hB
  rw [← hB.2.1]
  generalize M.2.2 = k1 at hI ⊢
  refine W.eq (g2 := F0 m 0 ((lg_sl ([.ref h0]) ++ List.replicate (1 - (lg_sl ([.ref h0])).length) Slot.unset).toArray) []) (by rw [hav]; exact lg_entry_eq m ([.ref h0]) 1) ?_
  have hl := lv_entry ([.ref h0]) (n := 1) (Nat.le_of_ble_eq_true rfl)
  generalize (lg_sl ([.ref h0]) ++ List.replicate (1 - (lg_sl ([.ref h0])).length) Slot.unset).toArray = ls at hl ⊢
  simp only [lvA_nil, lvA_i, lvA_l, lvA_a, lvA_r, Nat.zero_add, Nat.reduceAdd] at hl
  have hret : ∀ (v : Int32) (M : hM) (H : Heap) (locs : List Loc) (cells slots : Nat) (ls : Array Slot) (pc : Nat), decode b_MD_isBound pc = .ok (.ireturn, 1) → (b_retN .boolean v).1 M = some Z → hm_I D dA hCl z k1 s M H locs cells slots → W p l e (headSpec w_MD_isBound { frames := 0, cells := Z.2.2.1 - s.heap.size, slots := Z.2.2.2 - k1, locals := 0 }).room s m args below meth c H locs cells slots (MQ below (hm_Q D dA hCl (hTy dA) sT aK aV z (some (.int Z.1)) Z.2) args s (Z.2.2.1 - s.heap.size) (Z.2.2.2 - k1) (fun q => z ≤ q)) (F0 m pc ls [.int v]) := fun v M H locs cells slots ls pc hdg hf hI => x_retn S hK hG hI hr hlocks hdg hf
  have hR : Z.2.2.1 - s.heap.size ≤ (headSpec w_MD_isBound { frames := 0, cells := Z.2.2.1 - s.heap.size, slots := Z.2.2.2 - k1, locals := 0 }).room.cells ∧ Z.2.2.2 - k1 ≤ (headSpec w_MD_isBound { frames := 0, cells := Z.2.2.1 - s.heap.size, slots := Z.2.2.2 - k1, locals := 0 }).room.slots := ⟨Nat.le_refl _, Nat.le_refl _⟩
  have hRf : 0 ≤ (headSpec w_MD_isBound { frames := 0, cells := Z.2.2.1 - s.heap.size, slots := Z.2.2.2 - k1, locals := 0 }).room.frames ∧ 0 ≤ (headSpec w_MD_isBound { frames := 0, cells := Z.2.2.1 - s.heap.size, slots := Z.2.2.2 - k1, locals := 0 }).room.locals := ⟨Nat.le_refl _, Nat.le_refl _⟩
  generalize (headSpec w_MD_isBound { frames := 0, cells := Z.2.2.1 - s.heap.size, slots := Z.2.2.2 - k1, locals := 0 }).room = R at hret hR hRf ⊢
  generalize (MQ below (hm_Q D dA hCl (hTy dA) sT aK aV z (some (.int Z.1)) Z.2) args s (Z.2.2.1 - s.heap.size) (Z.2.2.2 - k1) (fun q => z ≤ q)) = Q at hret ⊢
  rw [e_MD_isBound] at hf
  obtain ⟨J52, eJ52, hf⟩ := b_let_inv hf
  have w52 : ∀ (y0 : Int32) (M : hM) (H : Heap) (locs : List Loc) (ls : Array Slot) (cells slots : Nat), (J52 y0).1 M = some Z → hm_I D dA hCl z k1 s M H locs cells slots → lv_has ls 1 [] → W p l e R s m args below meth c H locs cells slots Q (F0 m 52 ls [.int y0]) := by
    intro y0 M H locs ls cells slots hf hI hl
    rw [eJ52] at hf
    exact hret _ _ _ _ _ _ _ _ d_MD_isBound_52 hf hI
  obtain ⟨J47, eJ47, hf⟩ := b_let_inv hf
  have w47 : ∀  (M : hM) (H : Heap) (locs : List Loc) (ls : Array Slot) (cells slots : Nat), (J47).1 M = some Z → hm_I D dA hCl z k1 s M H locs cells slots → lv_has ls 1 [] → W p l e R s m args below meth c H locs cells slots Q (F0 m 47 ls []) := by
    intro M H locs ls cells slots hf hI hl
    rw [eJ47] at hf
    refine lv_iconst (v := 1) S.1 S.2.1 d_MD_isBound_47 (by decide) ?_
    refine lv_goto (tgt := 52) S.1 S.2.1 d_MD_isBound_48 (by decide) ?_
    exact w52 1 _ _ _ _ _ _ hf hI (lv_sub hl [] rfl)
  refine lv_aload_n S.1 S.2.1 d_MD_isBound_0 rfl (lv_at hl 0 rfl) ?_
  refine x_getI (ci := 1) (k := 5) S hK hI (fun w h => List.mem_cons_of_mem _ (i_MD w h)) rfl (by decide) (List.mem_cons_of_mem _ wd_572) rfl d_MD_isBound_1 hf (fun v1 hf => ?_)
  refine lv_bipush (v := 61) S.1 S.2.1 d_MD_isBound_4 (by decide) ?_
  refine lv_icmp_eq (tgt := 47) S.1 S.2.1 d_MD_isBound_6 (by decide) (fun hc => ?_) (fun hc => ?_)
  · have hf := b_if_t hc hf
    exact w47  _ _ _ _ _ _ hf hI (lv_sub hl [] rfl)
  · have hf := b_if_f hc hf
    refine lv_aload_n S.1 S.2.1 d_MD_isBound_9 rfl (lv_at hl 0 rfl) ?_
    refine x_getI (ci := 1) (k := 5) S hK hI (fun w h => List.mem_cons_of_mem _ (i_MD w h)) rfl (by decide) (List.mem_cons_of_mem _ wd_572) rfl d_MD_isBound_10 hf (fun v2 hf => ?_)
    refine lv_bipush (v := 60) S.1 S.2.1 d_MD_isBound_13 (by decide) ?_
    refine lv_icmp_eq (tgt := 47) S.1 S.2.1 d_MD_isBound_15 (by decide) (fun hc => ?_) (fun hc => ?_)
    · have hf := b_if_t hc hf
      exact w47  _ _ _ _ _ _ hf hI (lv_sub hl [] rfl)
    · have hf := b_if_f hc hf
      refine lv_aload_n S.1 S.2.1 d_MD_isBound_18 rfl (lv_at hl 0 rfl) ?_
      refine x_getI (ci := 1) (k := 5) S hK hI (fun w h => List.mem_cons_of_mem _ (i_MD w h)) rfl (by decide) (List.mem_cons_of_mem _ wd_572) rfl d_MD_isBound_19 hf (fun v3 hf => ?_)
      refine lv_bipush (v := 62) S.1 S.2.1 d_MD_isBound_22 (by decide) ?_
      refine lv_icmp_eq (tgt := 47) S.1 S.2.1 d_MD_isBound_24 (by decide) (fun hc => ?_) (fun hc => ?_)
      · have hf := b_if_t hc hf
        exact w47  _ _ _ _ _ _ hf hI (lv_sub hl [] rfl)
      · have hf := b_if_f hc hf
        refine lv_aload_n S.1 S.2.1 d_MD_isBound_27 rfl (lv_at hl 0 rfl) ?_
        refine x_getI (ci := 1) (k := 5) S hK hI (fun w h => List.mem_cons_of_mem _ (i_MD w h)) rfl (by decide) (List.mem_cons_of_mem _ wd_572) rfl d_MD_isBound_28 hf (fun v4 hf => ?_)
        refine lv_sipush (v := 360) S.1 S.2.1 d_MD_isBound_31 (by decide) ?_
        refine lv_icmp_eq (tgt := 47) S.1 S.2.1 d_MD_isBound_34 (by decide) (fun hc => ?_) (fun hc => ?_)
        · have hf := b_if_t hc hf
          exact w47  _ _ _ _ _ _ hf hI (lv_sub hl [] rfl)
        · have hf := b_if_f hc hf
          refine lv_aload_n S.1 S.2.1 d_MD_isBound_37 rfl (lv_at hl 0 rfl) ?_
          refine x_getI (ci := 1) (k := 5) S hK hI (fun w h => List.mem_cons_of_mem _ (i_MD w h)) rfl (by decide) (List.mem_cons_of_mem _ wd_572) rfl d_MD_isBound_38 hf (fun v5 hf => ?_)
          refine lv_sipush (v := 362) S.1 S.2.1 d_MD_isBound_41 (by decide) ?_
          refine lv_icmp_ne (tgt := 51) S.1 S.2.1 d_MD_isBound_44 (by decide) (fun hc => ?_) (fun hc => ?_)
          · have hf := b_if_f hc hf
            refine lv_iconst (v := 0) S.1 S.2.1 d_MD_isBound_51 (by decide) ?_
            exact w52 0 _ _ _ _ _ _ hf hI (lv_sub hl [] rfl)
          · have hf := b_if_t hc hf
            exact w47  _ _ _ _ _ _ hf hI (lv_sub hl [] rfl)
set_option maxHeartbeats 4000000 in
set_option maxRecDepth 100000 in
theorem c_MD_bound (l : Launch) {D : va_G} {dA : Nat → ClassId} {aK aV : Nat → Nat} {z : Nat} {N : Nat} {h0 : Nat} {M : hM} {Z : Unit × hM} (hf : (f_MD_bound N h0 ).1 M = some Z) : Met l y_MD_bound w_MD_bound ({ frames := 4, cells := Z.2.2.1 - M.2.1, slots := Z.2.2.2 - M.2.2, locals := 88 }) (va_Pc [.ref h0] (hm_B D dA hCl (hTy dA) sT aK aV z M)) (hm_Q D dA hCl (hTy dA) sT aK aV z none Z.2) (Z.2.2.1 - M.2.1) (Z.2.2.2 - M.2.2) (fun q => z ≤ q) := by
  refine Met.ofW (cc := b_MD_bound) (maxL := 4) (ret := none) (by decide) rfl ?_
  intro p e s m args below meth c s₁ B hml hv
  obtain ⟨hav, hB⟩ := hv
  have S : CallFix p m c b_MD_bound 4 s args w_MD_bound R_MD := ⟨B.exec, B.bytes, hml, findClass_of_methodNamed B.named, atoms_spec (ws := w_MD_bound) B.pre⟩
  have hr : meth.sig.returnType = none := B.returns
  have hlocks := B.notSynchronized
  have hK := hB.2.2.1
  have hG := hB.2.2.2.2.2
  have hI := hm_I.start hB
  rw [← hB.2.1]
  generalize M.2.2 = k1 at hI ⊢
  refine W.eq (g2 := F0 m 0 ((lg_sl ([.ref h0]) ++ List.replicate (4 - (lg_sl ([.ref h0])).length) Slot.unset).toArray) []) (by rw [hav]; exact lg_entry_eq m ([.ref h0]) 4) ?_
  have hl := lv_entry ([.ref h0]) (n := 4) (Nat.le_of_ble_eq_true rfl)
  generalize (lg_sl ([.ref h0]) ++ List.replicate (4 - (lg_sl ([.ref h0])).length) Slot.unset).toArray = ls at hl ⊢
  simp only [lvA_nil, lvA_i, lvA_l, lvA_a, lvA_r, Nat.zero_add, Nat.reduceAdd] at hl
  have hret : ∀ (M : hM) (H : Heap) (locs : List Loc) (cells slots : Nat) (ls : Array Slot) (pc : Nat), decode b_MD_bound pc = .ok (.return_, 1) → (b_ret ()).1 M = some Z → hm_I D dA hCl z k1 s M H locs cells slots → W p l e (headSpec w_MD_bound { frames := 4, cells := Z.2.2.1 - s.heap.size, slots := Z.2.2.2 - k1, locals := 88 }).room s m args below meth c H locs cells slots (MQ below (hm_Q D dA hCl (hTy dA) sT aK aV z none Z.2) args s (Z.2.2.1 - s.heap.size) (Z.2.2.2 - k1) (fun q => z ≤ q)) (F0 m pc ls []) := fun M H locs cells slots ls pc hdg hf hI => x_retv S hK hG hI hr hlocks hdg hf
  have hR : Z.2.2.1 - s.heap.size ≤ (headSpec w_MD_bound { frames := 4, cells := Z.2.2.1 - s.heap.size, slots := Z.2.2.2 - k1, locals := 88 }).room.cells ∧ Z.2.2.2 - k1 ≤ (headSpec w_MD_bound { frames := 4, cells := Z.2.2.1 - s.heap.size, slots := Z.2.2.2 - k1, locals := 88 }).room.slots := ⟨Nat.le_refl _, Nat.le_refl _⟩
  have hRf : 4 ≤ (headSpec w_MD_bound { frames := 4, cells := Z.2.2.1 - s.heap.size, slots := Z.2.2.2 - k1, locals := 88 }).room.frames ∧ 88 ≤ (headSpec w_MD_bound { frames := 4, cells := Z.2.2.1 - s.heap.size, slots := Z.2.2.2 - k1, locals := 88 }).room.locals := ⟨Nat.le_refl _, Nat.le_refl _⟩
  generalize (headSpec w_MD_bound { frames := 4, cells := Z.2.2.1 - s.heap.size, slots := Z.2.2.2 - k1, locals := 88 }).room = R at hret hR hRf ⊢
  generalize (MQ below (hm_Q D dA hCl (hTy dA) sT aK aV z none Z.2) args s (Z.2.2.1 - s.heap.size) (Z.2.2.2 - k1) (fun q => z ≤ q)) = Q at hret ⊢
  rw [e_MD_bound] at hf
  obtain ⟨J48, eJ48, hf⟩ := b_let_inv hf
  have w48 : ∀ (x1 : Int32) (x2 : Int64) (M : hM) (H : Heap) (locs : List Loc) (ls : Array Slot) (cells slots : Nat), (J48 x1 x2).1 M = some Z → hm_I D dA hCl z k1 s M H locs cells slots → lv_has ls 4 [(0, .ref h0), (1, .int x1), (2, .long x2)] → W p l e R s m args below meth c H locs cells slots Q (F0 m 48 ls []) := by
    intro x1 x2 M H locs ls cells slots hf hI hl
    rw [eJ48] at hf
    obtain ⟨J79, eJ79, hf⟩ := b_let_inv hf
    have w79 : ∀ (x1 : Int32) (x2 : Int64) (M : hM) (H : Heap) (locs : List Loc) (ls : Array Slot) (cells slots : Nat), (J79 x1 x2).1 M = some Z → hm_I D dA hCl z k1 s M H locs cells slots → lv_has ls 4 [(0, .ref h0), (1, .int x1), (2, .long x2)] → W p l e R s m args below meth c H locs cells slots Q (F0 m 79 ls []) := by
      intro x1 x2 M H locs ls cells slots hf hI hl
      rw [eJ79] at hf
      obtain ⟨J117, eJ117, hf⟩ := b_let_inv hf
      have w117 : ∀ (x1 : Int32) (x2 : Int64) (M : hM) (H : Heap) (locs : List Loc) (ls : Array Slot) (cells slots : Nat), (J117 x1 x2).1 M = some Z → hm_I D dA hCl z k1 s M H locs cells slots → lv_has ls 4 [(0, .ref h0), (1, .int x1), (2, .long x2)] → W p l e R s m args below meth c H locs cells slots Q (F0 m 117 ls []) := by
        intro x1 x2 M H locs ls cells slots hf hI hl
        rw [eJ117] at hf
        obtain ⟨J141, eJ141, hf⟩ := b_let_inv hf
        have w141 : ∀ (y0 : Int64) (y1 : Option Nat) (M : hM) (H : Heap) (locs : List Loc) (ls : Array Slot) (cells slots : Nat), (J141 y0 y1).1 M = some Z → hm_I D dA hCl z k1 s M H locs cells slots → lv_has ls 4 [] → W p l e R s m args below meth c H locs cells slots Q (F0 m 141 ls [.long y0, va_rf y1]) := by
          intro y0 y1 M H locs ls cells slots hf hI hl
          rw [eJ141] at hf
          obtain ⟨a1, ea1, hg⟩ := b_nn_inv hf
          have hI0 := hI
          have hl0 := hl
          clear hf hI hl
          subst ea1
          have hf := hg
          have hI := hI0
          have hl := hl0
          clear hg hI0 hl0
          refine x_put (ci := 1) (k := 33) S hK hI (fun w h => List.mem_cons_of_mem _ (i_MD w h)) t_MD t_MD_ok n_MD rfl (by decide) (List.mem_cons_of_mem _ wd_602) rfl (Or.inl rfl) (by rfl) rfl d_MD_bound_141 hf (fun M H locs hf hI => ?_)
          exact hret _ _ _ _ _ _ _ d_MD_bound_144 hf hI
        refine lv_iload_n S.1 S.2.1 d_MD_bound_117 rfl (lv_at hl 1 rfl) ?_
        refine lv_bipush (v := 60) S.1 S.2.1 d_MD_bound_118 (by decide) ?_
        refine lv_icmp_ne (tgt := 144) S.1 S.2.1 d_MD_bound_120 (by decide) (fun hc => ?_) (fun hc => ?_)
        · have hf := b_if_f hc hf
          exact hret _ _ _ _ _ _ _ d_MD_bound_144 hf hI
        · have hf := b_if_t hc hf
          refine lv_aload_n S.1 S.2.1 d_MD_bound_123 rfl (lv_at hl 0 rfl) ?_
          refine lv_aload_n S.1 S.2.1 d_MD_bound_124 rfl (lv_at hl 0 rfl) ?_
          refine x_getL (ci := 1) (k := 33) S hK hI (fun w h => List.mem_cons_of_mem _ (i_MD w h)) rfl (by decide) (List.mem_cons_of_mem _ wd_602) rfl d_MD_bound_125 hf (fun v2 hf => ?_)
          refine lv_lload_n S.1 S.2.1 d_MD_bound_128 rfl (lv_at hl 2 rfl) ?_
          refine W.lcmp S.1 S.2.1 d_MD_bound_129 ?_
          refine lv_if_ge (tgt := 140) S.1 S.2.1 d_MD_bound_130 (by decide) (fun hc => ?_) (fun hc => ?_)
          · have hf := b_if_t hc hf
            refine lv_lload_n S.1 S.2.1 d_MD_bound_140 rfl (lv_at hl 2 rfl) ?_
            exact w141 x2 (some h0) _ _ _ _ _ _ hf hI (lv_sub hl [] rfl)
          · have hf := b_if_f hc hf
            refine lv_aload_n S.1 S.2.1 d_MD_bound_133 rfl (lv_at hl 0 rfl) ?_
            refine x_getL (ci := 1) (k := 33) S hK hI (fun w h => List.mem_cons_of_mem _ (i_MD w h)) rfl (by decide) (List.mem_cons_of_mem _ wd_602) rfl d_MD_bound_134 hf (fun v3 hf => ?_)
            refine lv_goto (tgt := 141) S.1 S.2.1 d_MD_bound_137 (by decide) ?_
            exact w141 v3 (some h0) _ _ _ _ _ _ hf hI (lv_sub hl [] rfl)
      obtain ⟨J92, eJ92, hf⟩ := b_let_inv hf
      have w92 : ∀ (x1 : Int32) (x2 : Int64) (M : hM) (H : Heap) (locs : List Loc) (ls : Array Slot) (cells slots : Nat), (J92 x1 x2).1 M = some Z → hm_I D dA hCl z k1 s M H locs cells slots → lv_has ls 4 [(0, .ref h0), (1, .int x1), (2, .long x2)] → W p l e R s m args below meth c H locs cells slots Q (F0 m 92 ls []) := by
        intro x1 x2 M H locs ls cells slots hf hI hl
        rw [eJ92] at hf
        obtain ⟨J114, eJ114, hf⟩ := b_let_inv hf
        have w114 : ∀ (x1 : Int32) (x2 : Int64) (y0 : Int64) (y1 : Option Nat) (M : hM) (H : Heap) (locs : List Loc) (ls : Array Slot) (cells slots : Nat), (J114 x1 x2 y0 y1).1 M = some Z → hm_I D dA hCl z k1 s M H locs cells slots → lv_has ls 4 [(0, .ref h0), (1, .int x1), (2, .long x2)] → W p l e R s m args below meth c H locs cells slots Q (F0 m 114 ls [.long y0, va_rf y1]) := by
          intro x1 x2 y0 y1 M H locs ls cells slots hf hI hl
          rw [eJ114] at hf
          obtain ⟨a4, ea4, hg⟩ := b_nn_inv hf
          have hI0 := hI
          have hl0 := hl
          clear hf hI hl
          subst ea4
          have hf := hg
          have hI := hI0
          have hl := hl0
          clear hg hI0 hl0
          refine x_put (ci := 1) (k := 33) S hK hI (fun w h => List.mem_cons_of_mem _ (i_MD w h)) t_MD t_MD_ok n_MD rfl (by decide) (List.mem_cons_of_mem _ wd_602) rfl (Or.inl rfl) (by rfl) rfl d_MD_bound_114 hf (fun M H locs hf hI => ?_)
          exact w117 x1 x2 _ _ _ _ _ _ hf hI (lv_sub hl [0, 1, 2] rfl)
        refine lv_aload_n S.1 S.2.1 d_MD_bound_92 rfl (lv_at hl 0 rfl) ?_
        refine lv_aload_n S.1 S.2.1 d_MD_bound_93 rfl (lv_at hl 0 rfl) ?_
        refine x_getL (ci := 1) (k := 33) S hK hI (fun w h => List.mem_cons_of_mem _ (i_MD w h)) rfl (by decide) (List.mem_cons_of_mem _ wd_602) rfl d_MD_bound_94 hf (fun v5 hf => ?_)
        refine lv_lload_n S.1 S.2.1 d_MD_bound_97 rfl (lv_at hl 2 rfl) ?_
        refine lv_lconst (v := 1) S.1 S.2.1 d_MD_bound_98 (by decide) ?_
        refine lv_ladd S.1 S.2.1 d_MD_bound_99 ?_
        refine W.lcmp S.1 S.2.1 d_MD_bound_100 ?_
        refine lv_if_ge (tgt := 111) S.1 S.2.1 d_MD_bound_101 (by decide) (fun hc => ?_) (fun hc => ?_)
        · have hf := b_if_t hc hf
          refine lv_lload_n S.1 S.2.1 d_MD_bound_111 rfl (lv_at hl 2 rfl) ?_
          refine lv_lconst (v := 1) S.1 S.2.1 d_MD_bound_112 (by decide) ?_
          refine lv_ladd S.1 S.2.1 d_MD_bound_113 ?_
          exact w114 x1 x2 (x2 + 1) (some h0) _ _ _ _ _ _ hf hI (lv_sub hl [0, 1, 2] rfl)
        · have hf := b_if_f hc hf
          refine lv_aload_n S.1 S.2.1 d_MD_bound_104 rfl (lv_at hl 0 rfl) ?_
          refine x_getL (ci := 1) (k := 33) S hK hI (fun w h => List.mem_cons_of_mem _ (i_MD w h)) rfl (by decide) (List.mem_cons_of_mem _ wd_602) rfl d_MD_bound_105 hf (fun v6 hf => ?_)
          refine lv_goto (tgt := 114) S.1 S.2.1 d_MD_bound_108 (by decide) ?_
          exact w114 x1 x2 v6 (some h0) _ _ _ _ _ _ hf hI (lv_sub hl [0, 1, 2] rfl)
      refine lv_iload_n S.1 S.2.1 d_MD_bound_79 rfl (lv_at hl 1 rfl) ?_
      refine lv_bipush (v := 61) S.1 S.2.1 d_MD_bound_80 (by decide) ?_
      refine lv_icmp_eq (tgt := 92) S.1 S.2.1 d_MD_bound_82 (by decide) (fun hc => ?_) (fun hc => ?_)
      · have hf := b_if_t hc hf
        exact w92 x1 x2 _ _ _ _ _ _ hf hI (lv_sub hl [0, 1, 2] rfl)
      · have hf := b_if_f hc hf
        refine lv_iload_n S.1 S.2.1 d_MD_bound_85 rfl (lv_at hl 1 rfl) ?_
        refine lv_sipush (v := 360) S.1 S.2.1 d_MD_bound_86 (by decide) ?_
        refine lv_icmp_ne (tgt := 117) S.1 S.2.1 d_MD_bound_89 (by decide) (fun hc => ?_) (fun hc => ?_)
        · have hf := b_if_f hc hf
          exact w117 x1 x2 _ _ _ _ _ _ hf hI (lv_sub hl [0, 1, 2] rfl)
        · have hf := b_if_t hc hf
          exact w92 x1 x2 _ _ _ _ _ _ hf hI (lv_sub hl [0, 1, 2] rfl)
    obtain ⟨J76, eJ76, hf⟩ := b_let_inv hf
    have w76 : ∀ (x1 : Int32) (x2 : Int64) (y0 : Int64) (y1 : Option Nat) (M : hM) (H : Heap) (locs : List Loc) (ls : Array Slot) (cells slots : Nat), (J76 x1 x2 y0 y1).1 M = some Z → hm_I D dA hCl z k1 s M H locs cells slots → lv_has ls 4 [(0, .ref h0), (1, .int x1), (2, .long x2)] → W p l e R s m args below meth c H locs cells slots Q (F0 m 76 ls [.long y0, va_rf y1]) := by
      intro x1 x2 y0 y1 M H locs ls cells slots hf hI hl
      rw [eJ76] at hf
      obtain ⟨a7, ea7, hg⟩ := b_nn_inv hf
      have hI0 := hI
      have hl0 := hl
      clear hf hI hl
      subst ea7
      have hf := hg
      have hI := hI0
      have hl := hl0
      clear hg hI0 hl0
      refine x_put (ci := 1) (k := 32) S hK hI (fun w h => List.mem_cons_of_mem _ (i_MD w h)) t_MD t_MD_ok n_MD rfl (by decide) (List.mem_cons_of_mem _ wd_603) rfl (Or.inl rfl) (by rfl) rfl d_MD_bound_76 hf (fun M H locs hf hI => ?_)
      exact w79 x1 x2 _ _ _ _ _ _ hf hI (lv_sub hl [0, 1, 2] rfl)
    refine lv_iload_n S.1 S.2.1 d_MD_bound_48 rfl (lv_at hl 1 rfl) ?_
    refine lv_bipush (v := 62) S.1 S.2.1 d_MD_bound_49 (by decide) ?_
    refine lv_icmp_ne (tgt := 79) S.1 S.2.1 d_MD_bound_51 (by decide) (fun hc => ?_) (fun hc => ?_)
    · have hf := b_if_f hc hf
      exact w79 x1 x2 _ _ _ _ _ _ hf hI (lv_sub hl [0, 1, 2] rfl)
    · have hf := b_if_t hc hf
      refine lv_aload_n S.1 S.2.1 d_MD_bound_54 rfl (lv_at hl 0 rfl) ?_
      refine lv_aload_n S.1 S.2.1 d_MD_bound_55 rfl (lv_at hl 0 rfl) ?_
      refine x_getL (ci := 1) (k := 32) S hK hI (fun w h => List.mem_cons_of_mem _ (i_MD w h)) rfl (by decide) (List.mem_cons_of_mem _ wd_603) rfl d_MD_bound_56 hf (fun v8 hf => ?_)
      refine lv_lload_n S.1 S.2.1 d_MD_bound_59 rfl (lv_at hl 2 rfl) ?_
      refine lv_lconst (v := 1) S.1 S.2.1 d_MD_bound_60 (by decide) ?_
      refine lv_ladd S.1 S.2.1 d_MD_bound_61 ?_
      refine W.lcmp S.1 S.2.1 d_MD_bound_62 ?_
      refine lv_if_le (tgt := 73) S.1 S.2.1 d_MD_bound_63 (by decide) (fun hc => ?_) (fun hc => ?_)
      · have hf := b_if_t hc hf
        refine lv_lload_n S.1 S.2.1 d_MD_bound_73 rfl (lv_at hl 2 rfl) ?_
        refine lv_lconst (v := 1) S.1 S.2.1 d_MD_bound_74 (by decide) ?_
        refine lv_ladd S.1 S.2.1 d_MD_bound_75 ?_
        exact w76 x1 x2 (x2 + 1) (some h0) _ _ _ _ _ _ hf hI (lv_sub hl [0, 1, 2] rfl)
      · have hf := b_if_f hc hf
        refine lv_aload_n S.1 S.2.1 d_MD_bound_66 rfl (lv_at hl 0 rfl) ?_
        refine x_getL (ci := 1) (k := 32) S hK hI (fun w h => List.mem_cons_of_mem _ (i_MD w h)) rfl (by decide) (List.mem_cons_of_mem _ wd_603) rfl d_MD_bound_67 hf (fun v9 hf => ?_)
        refine lv_goto (tgt := 76) S.1 S.2.1 d_MD_bound_70 (by decide) ?_
        exact w76 x1 x2 v9 (some h0) _ _ _ _ _ _ hf hI (lv_sub hl [0, 1, 2] rfl)
  obtain ⟨J27, eJ27, hf⟩ := b_let_inv hf
  have w27 : ∀ (x1 : Int32) (x2 : Int64) (M : hM) (H : Heap) (locs : List Loc) (ls : Array Slot) (cells slots : Nat), (J27 x1 x2).1 M = some Z → hm_I D dA hCl z k1 s M H locs cells slots → lv_has ls 4 [(0, .ref h0), (1, .int x1), (2, .long x2)] → W p l e R s m args below meth c H locs cells slots Q (F0 m 27 ls []) := by
    intro x1 x2 M H locs ls cells slots hf hI hl
    rw [eJ27] at hf
    obtain ⟨J45, eJ45, hf⟩ := b_let_inv hf
    have w45 : ∀ (x1 : Int32) (x2 : Int64) (y0 : Int64) (y1 : Option Nat) (M : hM) (H : Heap) (locs : List Loc) (ls : Array Slot) (cells slots : Nat), (J45 x1 x2 y0 y1).1 M = some Z → hm_I D dA hCl z k1 s M H locs cells slots → lv_has ls 4 [(0, .ref h0), (1, .int x1), (2, .long x2)] → W p l e R s m args below meth c H locs cells slots Q (F0 m 45 ls [.long y0, va_rf y1]) := by
      intro x1 x2 y0 y1 M H locs ls cells slots hf hI hl
      rw [eJ45] at hf
      obtain ⟨a10, ea10, hg⟩ := b_nn_inv hf
      have hI0 := hI
      have hl0 := hl
      clear hf hI hl
      subst ea10
      have hf := hg
      have hI := hI0
      have hl := hl0
      clear hg hI0 hl0
      refine x_put (ci := 1) (k := 32) S hK hI (fun w h => List.mem_cons_of_mem _ (i_MD w h)) t_MD t_MD_ok n_MD rfl (by decide) (List.mem_cons_of_mem _ wd_603) rfl (Or.inl rfl) (by rfl) rfl d_MD_bound_45 hf (fun M H locs hf hI => ?_)
      exact w48 x1 x2 _ _ _ _ _ _ hf hI (lv_sub hl [0, 1, 2] rfl)
    refine lv_aload_n S.1 S.2.1 d_MD_bound_27 rfl (lv_at hl 0 rfl) ?_
    refine lv_aload_n S.1 S.2.1 d_MD_bound_28 rfl (lv_at hl 0 rfl) ?_
    refine x_getL (ci := 1) (k := 32) S hK hI (fun w h => List.mem_cons_of_mem _ (i_MD w h)) rfl (by decide) (List.mem_cons_of_mem _ wd_603) rfl d_MD_bound_29 hf (fun v11 hf => ?_)
    refine lv_lload_n S.1 S.2.1 d_MD_bound_32 rfl (lv_at hl 2 rfl) ?_
    refine W.lcmp S.1 S.2.1 d_MD_bound_33 ?_
    refine lv_if_le (tgt := 44) S.1 S.2.1 d_MD_bound_34 (by decide) (fun hc => ?_) (fun hc => ?_)
    · have hf := b_if_t hc hf
      refine lv_lload_n S.1 S.2.1 d_MD_bound_44 rfl (lv_at hl 2 rfl) ?_
      exact w45 x1 x2 x2 (some h0) _ _ _ _ _ _ hf hI (lv_sub hl [0, 1, 2] rfl)
    · have hf := b_if_f hc hf
      refine lv_aload_n S.1 S.2.1 d_MD_bound_37 rfl (lv_at hl 0 rfl) ?_
      refine x_getL (ci := 1) (k := 32) S hK hI (fun w h => List.mem_cons_of_mem _ (i_MD w h)) rfl (by decide) (List.mem_cons_of_mem _ wd_603) rfl d_MD_bound_38 hf (fun v12 hf => ?_)
      refine lv_goto (tgt := 45) S.1 S.2.1 d_MD_bound_41 (by decide) ?_
      exact w45 x1 x2 v12 (some h0) _ _ _ _ _ _ hf hI (lv_sub hl [0, 1, 2] rfl)
  refine lv_aload_n S.1 S.2.1 d_MD_bound_0 rfl (lv_at hl 0 rfl) ?_
  refine x_getI (ci := 1) (k := 5) S hK hI (fun w h => List.mem_cons_of_mem _ (i_MD w h)) rfl (by decide) (List.mem_cons_of_mem _ wd_572) rfl d_MD_bound_1 hf (fun v13 hf => ?_)
  refine x_istore_n (lv2 := [(0, .ref h0)]) S d_MD_bound_4 rfl hl (by decide) [0] rfl ⟨⟨(by decide : (0 : Nat) ≠ 1), fun _ => rfl⟩, trivial⟩ (fun ls hl => ?_)
  refine lv_aload_n S.1 S.2.1 d_MD_bound_5 rfl (lv_at hl 1 rfl) ?_
  obtain ⟨⟨fs17, hefs17⟩, hf⟩ := b_is_inv hf
  obtain ⟨r14, N15, hg16, hf⟩ := b_call_inv hf
  refine x_call hI (hm_mo hg16) (va_runV (As := []) (rest := []) S (c_MD_next l hg16) (cwV 0 S.2.2.2.2 (gi_V wd_583 wd_584 wd_585 wd_564 wd_586) rfl rfl rfl (by decide +kernel) ⟨Nat.le_trans (Nat.le_of_ble_eq_true rfl) hRf.1, Nat.le_trans (Nat.le_of_ble_eq_true rfl) hRf.2⟩) ⟨hm_B.blind, va_recv hK (hI.1.one hefs17) (ci := 1) (q0 := 0) rfl rfl, fun U hU hW => ⟨rfl, hm_B.of hK hG hI hU hW⟩⟩ rfl rfl hl.1 rfl (lv_room (Nat.le_of_ble_eq_true rfl)) d_MD_bound_6 (hx_fit hI hR (hm_mo hg16) (hm_mo hf))) (fun H locs cells slots hI => ?_)
  refine W.eq (g2 := F0 m 9 ls []) rfl ?_
  refine lv_aload_n S.1 S.2.1 d_MD_bound_9 rfl (lv_at hl 1 rfl) ?_
  obtain ⟨⟨fs21, hefs21⟩, hf⟩ := b_is_inv hf
  obtain ⟨v18, N19, hg20, hf⟩ := b_call_inv hf
  refine x_call hI (hm_mo hg20) (va_runV (As := []) (rest := []) S (c_MD_readVersion l hg20) (cwV 0 S.2.2.2.2 (gi_V wd_604 wd_605 wd_606 wd_564 wd_607) rfl rfl rfl (by decide +kernel) ⟨Nat.le_trans (Nat.le_of_ble_eq_true rfl) hRf.1, Nat.le_trans (Nat.le_of_ble_eq_true rfl) hRf.2⟩) ⟨hm_B.blind, va_recv hK (hI.1.one hefs21) (ci := 1) (q0 := 0) rfl rfl, fun U hU hW => ⟨rfl, hm_B.of hK hG hI hU hW⟩⟩ rfl rfl hl.1 rfl (lv_room (Nat.le_of_ble_eq_true rfl)) d_MD_bound_10 (hx_fit hI hR (hm_mo hg20) (hm_mo hf))) (fun H locs cells slots hI => ?_)
  refine W.eq (g2 := F0 m 13 ls [.long v18]) rfl ?_
  refine x_lstore_n (lv2 := [(1, .int v13), (0, .ref h0)]) S d_MD_bound_13 rfl hl (by decide) [0, 1] rfl ⟨⟨(by decide : (1 : Nat) ≠ 2), (by decide : (1 : Nat) ≠ 2 + 1), fun _ => rfl⟩, ⟨⟨(by decide : (0 : Nat) ≠ 2), (by decide : (0 : Nat) ≠ 2 + 1), fun h => absurd (show (0 : Nat) + 1 = 2 from h) (by decide)⟩, trivial⟩⟩ (fun ls hl => ?_)
  refine lv_iload_n S.1 S.2.1 d_MD_bound_14 rfl (lv_at hl 1 rfl) ?_
  refine lv_bipush (v := 61) S.1 S.2.1 d_MD_bound_15 (by decide) ?_
  refine lv_icmp_eq (tgt := 27) S.1 S.2.1 d_MD_bound_17 (by decide) (fun hc => ?_) (fun hc => ?_)
  · have hf := b_if_t hc hf
    exact w27 v13 v18 _ _ _ _ _ _ hf hI (lv_sub hl [2, 1, 0] rfl)
  · have hf := b_if_f hc hf
    refine lv_iload_n S.1 S.2.1 d_MD_bound_20 rfl (lv_at hl 1 rfl) ?_
    refine lv_sipush (v := 362) S.1 S.2.1 d_MD_bound_21 (by decide) ?_
    refine lv_icmp_ne (tgt := 48) S.1 S.2.1 d_MD_bound_24 (by decide) (fun hc => ?_) (fun hc => ?_)
    · have hf := b_if_f hc hf
      exact w48 v13 v18 _ _ _ _ _ _ hf hI (lv_sub hl [2, 1, 0] rfl)
    · have hf := b_if_t hc hf
      exact w27 v13 v18 _ _ _ _ _ _ hf hI (lv_sub hl [2, 1, 0] rfl)
set_option maxHeartbeats 4000000 in
set_option maxRecDepth 100000 in
theorem c_MD_close (l : Launch) {D : va_G} {dA : Nat → ClassId} {aK aV : Nat → Nat} {z : Nat} {N : Nat} {h0 : Nat} {M : hM} {Z : Unit × hM} (hf : (f_MD_close N h0 ).1 M = some Z) : Met l y_MD_close w_MD_close ({ frames := 0, cells := Z.2.2.1 - M.2.1, slots := Z.2.2.2 - M.2.2, locals := 0 }) (va_Pc [.ref h0] (hm_B D dA hCl (hTy dA) sT aK aV z M)) (hm_Q D dA hCl (hTy dA) sT aK aV z none Z.2) (Z.2.2.1 - M.2.1) (Z.2.2.2 - M.2.2) (fun q => z ≤ q) := by
  refine Met.ofW (cc := b_MD_close) (maxL := 1) (ret := none) (by decide) rfl ?_
  intro p e s m args below meth c s₁ B hml hv
  obtain ⟨hav, hB⟩ := hv
  have S : CallFix p m c b_MD_close 1 s args w_MD_close R_MD := ⟨B.exec, B.bytes, hml, findClass_of_methodNamed B.named, atoms_spec (ws := w_MD_close) B.pre⟩
  have hr : meth.sig.returnType = none := B.returns
  have hlocks := B.notSynchronized
  have hK := hB.2.2.1
  have hG := hB.2.2.2.2.2
  have hI := hm_I.start hB
  rw [← hB.2.1]
  generalize M.2.2 = k1 at hI ⊢
  refine W.eq (g2 := F0 m 0 ((lg_sl ([.ref h0]) ++ List.replicate (1 - (lg_sl ([.ref h0])).length) Slot.unset).toArray) []) (by rw [hav]; exact lg_entry_eq m ([.ref h0]) 1) ?_
  have hl := lv_entry ([.ref h0]) (n := 1) (Nat.le_of_ble_eq_true rfl)
  generalize (lg_sl ([.ref h0]) ++ List.replicate (1 - (lg_sl ([.ref h0])).length) Slot.unset).toArray = ls at hl ⊢
  simp only [lvA_nil, lvA_i, lvA_l, lvA_a, lvA_r, Nat.zero_add, Nat.reduceAdd] at hl
  have hret : ∀ (M : hM) (H : Heap) (locs : List Loc) (cells slots : Nat) (ls : Array Slot) (pc : Nat), decode b_MD_close pc = .ok (.return_, 1) → (b_ret ()).1 M = some Z → hm_I D dA hCl z k1 s M H locs cells slots → W p l e (headSpec w_MD_close { frames := 0, cells := Z.2.2.1 - s.heap.size, slots := Z.2.2.2 - k1, locals := 0 }).room s m args below meth c H locs cells slots (MQ below (hm_Q D dA hCl (hTy dA) sT aK aV z none Z.2) args s (Z.2.2.1 - s.heap.size) (Z.2.2.2 - k1) (fun q => z ≤ q)) (F0 m pc ls []) := fun M H locs cells slots ls pc hdg hf hI => x_retv S hK hG hI hr hlocks hdg hf
  have hR : Z.2.2.1 - s.heap.size ≤ (headSpec w_MD_close { frames := 0, cells := Z.2.2.1 - s.heap.size, slots := Z.2.2.2 - k1, locals := 0 }).room.cells ∧ Z.2.2.2 - k1 ≤ (headSpec w_MD_close { frames := 0, cells := Z.2.2.1 - s.heap.size, slots := Z.2.2.2 - k1, locals := 0 }).room.slots := ⟨Nat.le_refl _, Nat.le_refl _⟩
  have hRf : 0 ≤ (headSpec w_MD_close { frames := 0, cells := Z.2.2.1 - s.heap.size, slots := Z.2.2.2 - k1, locals := 0 }).room.frames ∧ 0 ≤ (headSpec w_MD_close { frames := 0, cells := Z.2.2.1 - s.heap.size, slots := Z.2.2.2 - k1, locals := 0 }).room.locals := ⟨Nat.le_refl _, Nat.le_refl _⟩
  generalize (headSpec w_MD_close { frames := 0, cells := Z.2.2.1 - s.heap.size, slots := Z.2.2.2 - k1, locals := 0 }).room = R at hret hR hRf ⊢
  generalize (MQ below (hm_Q D dA hCl (hTy dA) sT aK aV z none Z.2) args s (Z.2.2.1 - s.heap.size) (Z.2.2.2 - k1) (fun q => z ≤ q)) = Q at hret ⊢
  rw [e_MD_close] at hf
  refine lv_aload_n S.1 S.2.1 d_MD_close_0 rfl (lv_at hl 0 rfl) ?_
  refine x_getL (ci := 1) (k := 32) S hK hI (fun w h => List.mem_cons_of_mem _ (i_MD w h)) rfl (by decide) (List.mem_cons_of_mem _ wd_603) rfl d_MD_close_1 hf (fun v1 hf => ?_)
  refine lv_aload_n S.1 S.2.1 d_MD_close_4 rfl (lv_at hl 0 rfl) ?_
  refine x_getL (ci := 1) (k := 33) S hK hI (fun w h => List.mem_cons_of_mem _ (i_MD w h)) rfl (by decide) (List.mem_cons_of_mem _ wd_602) rfl d_MD_close_5 hf (fun v2 hf => ?_)
  refine W.lcmp S.1 S.2.1 d_MD_close_8 ?_
  refine lv_if_lt (tgt := 22) S.1 S.2.1 d_MD_close_9 (by decide) (fun hc => ?_) (fun hc => ?_)
  · have hf := b_if_t hc hf
    exact hret _ _ _ _ _ _ _ d_MD_close_22 hf hI
  · have hf := b_if_f hc hf
    refine lv_aload_n S.1 S.2.1 d_MD_close_12 rfl (lv_at hl 0 rfl) ?_
    refine lv_lconst (v := 0) S.1 S.2.1 d_MD_close_13 (by decide) ?_
    refine x_put (ci := 1) (k := 32) S hK hI (fun w h => List.mem_cons_of_mem _ (i_MD w h)) t_MD t_MD_ok n_MD rfl (by decide) (List.mem_cons_of_mem _ wd_603) rfl (Or.inl rfl) (by rfl) rfl d_MD_close_14 hf (fun M H locs hf hI => ?_)
    refine lv_aload_n S.1 S.2.1 d_MD_close_17 rfl (lv_at hl 0 rfl) ?_
    refine lv_lconst (v := 0) S.1 S.2.1 d_MD_close_18 (by decide) ?_
    refine x_put (ci := 1) (k := 33) S hK hI (fun w h => List.mem_cons_of_mem _ (i_MD w h)) t_MD t_MD_ok n_MD rfl (by decide) (List.mem_cons_of_mem _ wd_602) rfl (Or.inl rfl) (by rfl) rfl d_MD_close_19 hf (fun M H locs hf hI => ?_)
    exact hret _ _ _ _ _ _ _ d_MD_close_22 hf hI
set_option maxHeartbeats 4000000 in
set_option maxRecDepth 100000 in
theorem c_MD_readRange (l : Launch) {D : va_G} {dA : Nat → ClassId} {aK aV : Nat → Nat} {z : Nat} {N : Nat} {h0 : Nat} {M : hM} {Z : Unit × hM} (hf : (f_MD_readRange N h0 ).1 M = some Z) : Met l y_MD_readRange w_MD_readRange ({ frames := 5, cells := Z.2.2.1 - M.2.1, slots := Z.2.2.2 - M.2.2, locals := 111 }) (va_Pc [.ref h0] (hm_B D dA hCl (hTy dA) sT aK aV z M)) (hm_Q D dA hCl (hTy dA) sT aK aV z none Z.2) (Z.2.2.1 - M.2.1) (Z.2.2.2 - M.2.2) (fun q => z ≤ q) := by
  refine Met.ofW (cc := b_MD_readRange) (maxL := 1) (ret := none) (by decide) rfl ?_
  intro p e s m args below meth c s₁ B hml hv
  obtain ⟨hav, hB⟩ := hv
  have S : CallFix p m c b_MD_readRange 1 s args w_MD_readRange R_MD := ⟨B.exec, B.bytes, hml, findClass_of_methodNamed B.named, atoms_spec (ws := w_MD_readRange) B.pre⟩
  have hr : meth.sig.returnType = none := B.returns
  have hlocks := B.notSynchronized
  have hK := hB.2.2.1
  have hG := hB.2.2.2.2.2
  have hI := hm_I.start hB
  rw [← hB.2.1]
  generalize M.2.2 = k1 at hI ⊢
  refine W.eq (g2 := F0 m 0 ((lg_sl ([.ref h0]) ++ List.replicate (1 - (lg_sl ([.ref h0])).length) Slot.unset).toArray) []) (by rw [hav]; exact lg_entry_eq m ([.ref h0]) 1) ?_
  have hl := lv_entry ([.ref h0]) (n := 1) (Nat.le_of_ble_eq_true rfl)
  generalize (lg_sl ([.ref h0]) ++ List.replicate (1 - (lg_sl ([.ref h0])).length) Slot.unset).toArray = ls at hl ⊢
  simp only [lvA_nil, lvA_i, lvA_l, lvA_a, lvA_r, Nat.zero_add, Nat.reduceAdd] at hl
  have hret : ∀ (M : hM) (H : Heap) (locs : List Loc) (cells slots : Nat) (ls : Array Slot) (pc : Nat), decode b_MD_readRange pc = .ok (.return_, 1) → (b_ret ()).1 M = some Z → hm_I D dA hCl z k1 s M H locs cells slots → W p l e (headSpec w_MD_readRange { frames := 5, cells := Z.2.2.1 - s.heap.size, slots := Z.2.2.2 - k1, locals := 111 }).room s m args below meth c H locs cells slots (MQ below (hm_Q D dA hCl (hTy dA) sT aK aV z none Z.2) args s (Z.2.2.1 - s.heap.size) (Z.2.2.2 - k1) (fun q => z ≤ q)) (F0 m pc ls []) := fun M H locs cells slots ls pc hdg hf hI => x_retv S hK hG hI hr hlocks hdg hf
  have hR : Z.2.2.1 - s.heap.size ≤ (headSpec w_MD_readRange { frames := 5, cells := Z.2.2.1 - s.heap.size, slots := Z.2.2.2 - k1, locals := 111 }).room.cells ∧ Z.2.2.2 - k1 ≤ (headSpec w_MD_readRange { frames := 5, cells := Z.2.2.1 - s.heap.size, slots := Z.2.2.2 - k1, locals := 111 }).room.slots := ⟨Nat.le_refl _, Nat.le_refl _⟩
  have hRf : 5 ≤ (headSpec w_MD_readRange { frames := 5, cells := Z.2.2.1 - s.heap.size, slots := Z.2.2.2 - k1, locals := 111 }).room.frames ∧ 111 ≤ (headSpec w_MD_readRange { frames := 5, cells := Z.2.2.1 - s.heap.size, slots := Z.2.2.2 - k1, locals := 111 }).room.locals := ⟨Nat.le_refl _, Nat.le_refl _⟩
  generalize (headSpec w_MD_readRange { frames := 5, cells := Z.2.2.1 - s.heap.size, slots := Z.2.2.2 - k1, locals := 111 }).room = R at hret hR hRf ⊢
  generalize (MQ below (hm_Q D dA hCl (hTy dA) sT aK aV z none Z.2) args s (Z.2.2.1 - s.heap.size) (Z.2.2.2 - k1) (fun q => z ≤ q)) = Q at hret ⊢
  rw [e_MD_readRange] at hf
  obtain ⟨J76, eJ76, hf⟩ := b_let_inv hf
  have w76 : ∀  (M : hM) (H : Heap) (locs : List Loc) (ls : Array Slot) (cells slots : Nat), (J76).1 M = some Z → hm_I D dA hCl z k1 s M H locs cells slots → lv_has ls 1 [(0, .ref h0)] → W p l e R s m args below meth c H locs cells slots Q (F0 m 76 ls []) := by
    intro M H locs ls cells slots hf hI hl
    rw [eJ76] at hf
    refine lv_aload_n S.1 S.2.1 d_MD_readRange_76 rfl (lv_at hl 0 rfl) ?_
    obtain ⟨⟨fs4, hefs4⟩, hf⟩ := b_is_inv hf
    obtain ⟨r1, N2, hg3, hf⟩ := b_call_inv hf
    refine x_call hI (hm_mo hg3) (va_runV (As := []) (rest := []) S (c_MD_close l hg3) (cwV 0 S.2.2.2.2 (gi_V wd_608 wd_609 wd_610 wd_564 wd_611) rfl rfl rfl (by decide +kernel) ⟨Nat.le_trans (Nat.le_of_ble_eq_true rfl) hRf.1, Nat.le_trans (Nat.le_of_ble_eq_true rfl) hRf.2⟩) ⟨hm_B.blind, va_recv hK (hI.1.one hefs4) (ci := 1) (q0 := 0) rfl rfl, fun U hU hW => ⟨rfl, hm_B.of hK hG hI hU hW⟩⟩ rfl rfl hl.1 rfl (lv_room (Nat.le_of_ble_eq_true rfl)) d_MD_readRange_77 (hx_fit hI hR (hm_mo hg3) (hm_mo hf))) (fun H locs cells slots hI => ?_)
    refine W.eq (g2 := F0 m 80 ls []) rfl ?_
    exact hret _ _ _ _ _ _ _ d_MD_readRange_80 hf hI
  refine lv_aload_n S.1 S.2.1 d_MD_readRange_0 rfl (lv_at hl 0 rfl) ?_
  refine lv_lconst (v := 0) S.1 S.2.1 d_MD_readRange_1 (by decide) ?_
  refine x_put (ci := 1) (k := 32) S hK hI (fun w h => List.mem_cons_of_mem _ (i_MD w h)) t_MD t_MD_ok n_MD rfl (by decide) (List.mem_cons_of_mem _ wd_603) rfl (Or.inl rfl) (by rfl) rfl d_MD_readRange_2 hf (fun M H locs hf hI => ?_)
  refine lv_aload_n S.1 S.2.1 d_MD_readRange_5 rfl (lv_at hl 0 rfl) ?_
  refine lv_ldc2 (v := 1000000000000000000) S.1 S.2.1 S.2.2.2.1 (S.2.2.2.2 _ (List.mem_cons_of_mem _ wd_612)) d_MD_readRange_6 ?_
  refine x_put (ci := 1) (k := 33) S hK hI (fun w h => List.mem_cons_of_mem _ (i_MD w h)) t_MD t_MD_ok n_MD rfl (by decide) (List.mem_cons_of_mem _ wd_602) rfl (Or.inl rfl) (by rfl) rfl d_MD_readRange_9 hf (fun M H locs hf hI => ?_)
  refine lv_aload_n S.1 S.2.1 d_MD_readRange_12 rfl (lv_at hl 0 rfl) ?_
  obtain ⟨⟨fs8, hefs8⟩, hf⟩ := b_is_inv hf
  obtain ⟨v5, N6, hg7, hf⟩ := b_call_inv hf
  refine x_call hI (hm_mo hg7) (va_runV (As := []) (rest := []) S (c_MD_isWrong l hg7) (cwV 0 S.2.2.2.2 (gi_V wd_575 wd_576 wd_577 wd_564 wd_578) rfl rfl rfl (by decide +kernel) ⟨Nat.le_trans (Nat.le_of_ble_eq_true rfl) hRf.1, Nat.le_trans (Nat.le_of_ble_eq_true rfl) hRf.2⟩) ⟨hm_B.blind, va_recv hK (hI.1.one hefs8) (ci := 1) (q0 := 0) rfl rfl, fun U hU hW => ⟨rfl, hm_B.of hK hG hI hU hW⟩⟩ rfl rfl hl.1 rfl (lv_room (Nat.le_of_ble_eq_true rfl)) d_MD_readRange_13 (hx_fit hI hR (hm_mo hg7) (hm_mo hf))) (fun H locs cells slots hI => ?_)
  refine W.eq (g2 := F0 m 16 ls [.int v5]) rfl ?_
  refine lv_if_eq (tgt := 20) S.1 S.2.1 d_MD_readRange_16 (by decide) (fun hc => ?_) (fun hc => ?_)
  · have hf := b_if_t hc hf
    refine lv_aload_n S.1 S.2.1 d_MD_readRange_20 rfl (lv_at hl 0 rfl) ?_
    refine x_getI (ci := 1) (k := 5) S hK hI (fun w h => List.mem_cons_of_mem _ (i_MD w h)) rfl (by decide) (List.mem_cons_of_mem _ wd_572) rfl d_MD_readRange_21 hf (fun v9 hf => ?_)
    refine lv_bipush (v := 42) S.1 S.2.1 d_MD_readRange_24 (by decide) ?_
    refine lv_icmp_ne (tgt := 36) S.1 S.2.1 d_MD_readRange_26 (by decide) (fun hc => ?_) (fun hc => ?_)
    · have hf := b_if_f hc hf
      refine lv_aload_n S.1 S.2.1 d_MD_readRange_36 rfl (lv_at hl 0 rfl) ?_
      obtain ⟨⟨fs13, hefs13⟩, hf⟩ := b_is_inv hf
      obtain ⟨v10, N11, hg12, hf⟩ := b_call_inv hf
      refine x_call hI (hm_mo hg12) (va_runV (As := []) (rest := []) S (c_MD_isBound l hg12) (cwV 0 S.2.2.2.2 (gi_V wd_613 wd_614 wd_615 wd_564 wd_616) rfl rfl rfl (by decide +kernel) ⟨Nat.le_trans (Nat.le_of_ble_eq_true rfl) hRf.1, Nat.le_trans (Nat.le_of_ble_eq_true rfl) hRf.2⟩) ⟨hm_B.blind, va_recv hK (hI.1.one hefs13) (ci := 1) (q0 := 0) rfl rfl, fun U hU hW => ⟨rfl, hm_B.of hK hG hI hU hW⟩⟩ rfl rfl hl.1 rfl (lv_room (Nat.le_of_ble_eq_true rfl)) d_MD_readRange_37 (hx_fit hI hR (hm_mo hg12) (hm_mo hf))) (fun H locs cells slots hI => ?_)
      refine W.eq (g2 := F0 m 40 ls [.int v10]) rfl ?_
      refine lv_if_ne (tgt := 54) S.1 S.2.1 d_MD_readRange_40 (by decide) (fun hc => ?_) (fun hc => ?_)
      · have hf := b_if_f hc hf
        refine lv_aload_n S.1 S.2.1 d_MD_readRange_54 rfl (lv_at hl 0 rfl) ?_
        obtain ⟨⟨fs17, hefs17⟩, hf⟩ := b_is_inv hf
        obtain ⟨r14, N15, hg16, hf⟩ := b_call_inv hf
        refine x_call hI (hm_mo hg16) (va_runV (As := []) (rest := []) S (c_MD_bound l hg16) (cwV 0 S.2.2.2.2 (gi_V wd_617 wd_618 wd_619 wd_564 wd_620) rfl rfl rfl (by decide +kernel) ⟨Nat.le_trans (Nat.le_of_ble_eq_true rfl) hRf.1, Nat.le_trans (Nat.le_of_ble_eq_true rfl) hRf.2⟩) ⟨hm_B.blind, va_recv hK (hI.1.one hefs17) (ci := 1) (q0 := 0) rfl rfl, fun U hU hW => ⟨rfl, hm_B.of hK hG hI hU hW⟩⟩ rfl rfl hl.1 rfl (lv_room (Nat.le_of_ble_eq_true rfl)) d_MD_readRange_55 (hx_fit hI hR (hm_mo hg16) (hm_mo hf))) (fun H locs cells slots hI => ?_)
        refine W.eq (g2 := F0 m 58 ls []) rfl ?_
        refine lv_aload_n S.1 S.2.1 d_MD_readRange_58 rfl (lv_at hl 0 rfl) ?_
        obtain ⟨⟨fs21, hefs21⟩, hf⟩ := b_is_inv hf
        obtain ⟨v18, N19, hg20, hf⟩ := b_call_inv hf
        refine x_call hI (hm_mo hg20) (va_runV (As := []) (rest := []) S (c_MD_isWrong l hg20) (cwV 0 S.2.2.2.2 (gi_V wd_575 wd_576 wd_577 wd_564 wd_578) rfl rfl rfl (by decide +kernel) ⟨Nat.le_trans (Nat.le_of_ble_eq_true rfl) hRf.1, Nat.le_trans (Nat.le_of_ble_eq_true rfl) hRf.2⟩) ⟨hm_B.blind, va_recv hK (hI.1.one hefs21) (ci := 1) (q0 := 0) rfl rfl, fun U hU hW => ⟨rfl, hm_B.of hK hG hI hU hW⟩⟩ rfl rfl hl.1 rfl (lv_room (Nat.le_of_ble_eq_true rfl)) d_MD_readRange_59 (hx_fit hI hR (hm_mo hg20) (hm_mo hf))) (fun H locs cells slots hI => ?_)
        refine W.eq (g2 := F0 m 62 ls [.int v18]) rfl ?_
        refine lv_if_ne (tgt := 76) S.1 S.2.1 d_MD_readRange_62 (by decide) (fun hc => ?_) (fun hc => ?_)
        · have hf := b_if_f hc hf
          exact w76  _ _ _ _ _ _ hf hI (lv_sub hl [0] rfl)
        · have hf := b_if_t hc hf
          refine lv_aload_n S.1 S.2.1 d_MD_readRange_65 rfl (lv_at hl 0 rfl) ?_
          obtain ⟨⟨fs25, hefs25⟩, hf⟩ := b_is_inv hf
          obtain ⟨v22, N23, hg24, hf⟩ := b_call_inv hf
          refine x_call hI (hm_mo hg24) (va_runV (As := []) (rest := []) S (c_MD_isBound l hg24) (cwV 0 S.2.2.2.2 (gi_V wd_613 wd_614 wd_615 wd_564 wd_616) rfl rfl rfl (by decide +kernel) ⟨Nat.le_trans (Nat.le_of_ble_eq_true rfl) hRf.1, Nat.le_trans (Nat.le_of_ble_eq_true rfl) hRf.2⟩) ⟨hm_B.blind, va_recv hK (hI.1.one hefs25) (ci := 1) (q0 := 0) rfl rfl, fun U hU hW => ⟨rfl, hm_B.of hK hG hI hU hW⟩⟩ rfl rfl hl.1 rfl (lv_room (Nat.le_of_ble_eq_true rfl)) d_MD_readRange_66 (hx_fit hI hR (hm_mo hg24) (hm_mo hf))) (fun H locs cells slots hI => ?_)
          refine W.eq (g2 := F0 m 69 ls [.int v22]) rfl ?_
          refine lv_if_eq (tgt := 76) S.1 S.2.1 d_MD_readRange_69 (by decide) (fun hc => ?_) (fun hc => ?_)
          · have hf := b_if_t hc hf
            exact w76  _ _ _ _ _ _ hf hI (lv_sub hl [0] rfl)
          · have hf := b_if_f hc hf
            refine lv_aload_n S.1 S.2.1 d_MD_readRange_72 rfl (lv_at hl 0 rfl) ?_
            obtain ⟨⟨fs29, hefs29⟩, hf⟩ := b_is_inv hf
            obtain ⟨r26, N27, hg28, hf⟩ := b_call_inv hf
            refine x_call hI (hm_mo hg28) (va_runV (As := []) (rest := []) S (c_MD_bound l hg28) (cwV 0 S.2.2.2.2 (gi_V wd_617 wd_618 wd_619 wd_564 wd_620) rfl rfl rfl (by decide +kernel) ⟨Nat.le_trans (Nat.le_of_ble_eq_true rfl) hRf.1, Nat.le_trans (Nat.le_of_ble_eq_true rfl) hRf.2⟩) ⟨hm_B.blind, va_recv hK (hI.1.one hefs29) (ci := 1) (q0 := 0) rfl rfl, fun U hU hW => ⟨rfl, hm_B.of hK hG hI hU hW⟩⟩ rfl rfl hl.1 rfl (lv_room (Nat.le_of_ble_eq_true rfl)) d_MD_readRange_73 (hx_fit hI hR (hm_mo hg28) (hm_mo hf))) (fun H locs cells slots hI => ?_)
            refine W.eq (g2 := F0 m 76 ls []) rfl ?_
            exact w76  _ _ _ _ _ _ hf hI (lv_sub hl [0] rfl)
      · have hf := b_if_t hc hf
        refine lv_aload_n S.1 S.2.1 d_MD_readRange_43 rfl (lv_at hl 0 rfl) ?_
        refine lv_aload_n S.1 S.2.1 d_MD_readRange_44 rfl (lv_at hl 0 rfl) ?_
        refine x_getI (ci := 1) (k := 3) S hK hI (fun w h => List.mem_cons_of_mem _ (i_MD w h)) rfl (by decide) (List.mem_cons_of_mem _ wd_560) rfl d_MD_readRange_45 hf (fun v30 hf => ?_)
        obtain ⟨⟨fs34, hefs34⟩, hf⟩ := b_is_inv hf
        obtain ⟨r31, N32, hg33, hf⟩ := b_call_inv hf
        refine x_call hI (hm_mo hg33) (va_runV (As := [.int v30]) (rest := []) S (c_MD_fail l hg33) (cwV 1 S.2.2.2.2 (gi_V wd_579 wd_580 wd_581 wd_564 wd_582) rfl rfl rfl (by decide +kernel) ⟨Nat.le_trans (Nat.le_of_ble_eq_true rfl) hRf.1, Nat.le_trans (Nat.le_of_ble_eq_true rfl) hRf.2⟩) ⟨hm_B.blind, va_recv hK (hI.1.one hefs34) (ci := 1) (q0 := 0) rfl rfl, fun U hU hW => ⟨rfl, hm_B.of hK hG hI hU hW⟩⟩ rfl rfl hl.1 rfl (lv_room (Nat.le_of_ble_eq_true rfl)) d_MD_readRange_48 (hx_fit hI hR (hm_mo hg33) (hm_mo hf))) (fun H locs cells slots hI => ?_)
        refine W.eq (g2 := F0 m 51 ls []) rfl ?_
        refine lv_goto (tgt := 76) S.1 S.2.1 d_MD_readRange_51 (by decide) ?_
        exact w76  _ _ _ _ _ _ hf hI (lv_sub hl [0] rfl)
    · have hf := b_if_t hc hf
      refine lv_aload_n S.1 S.2.1 d_MD_readRange_29 rfl (lv_at hl 0 rfl) ?_
      obtain ⟨⟨fs38, hefs38⟩, hf⟩ := b_is_inv hf
      obtain ⟨r35, N36, hg37, hf⟩ := b_call_inv hf
      refine x_call hI (hm_mo hg37) (va_runV (As := []) (rest := []) S (c_MD_next l hg37) (cwV 0 S.2.2.2.2 (gi_V wd_583 wd_584 wd_585 wd_564 wd_586) rfl rfl rfl (by decide +kernel) ⟨Nat.le_trans (Nat.le_of_ble_eq_true rfl) hRf.1, Nat.le_trans (Nat.le_of_ble_eq_true rfl) hRf.2⟩) ⟨hm_B.blind, va_recv hK (hI.1.one hefs38) (ci := 1) (q0 := 0) rfl rfl, fun U hU hW => ⟨rfl, hm_B.of hK hG hI hU hW⟩⟩ rfl rfl hl.1 rfl (lv_room (Nat.le_of_ble_eq_true rfl)) d_MD_readRange_30 (hx_fit hI hR (hm_mo hg37) (hm_mo hf))) (fun H locs cells slots hI => ?_)
      refine W.eq (g2 := F0 m 33 ls []) rfl ?_
      refine lv_goto (tgt := 76) S.1 S.2.1 d_MD_readRange_33 (by decide) ?_
      exact w76  _ _ _ _ _ _ hf hI (lv_sub hl [0] rfl)
  · have hf := b_if_f hc hf
    exact hret _ _ _ _ _ _ _ d_MD_readRange_19 hf hI
set_option maxHeartbeats 4000000 in
set_option maxRecDepth 100000 in
theorem c_MD_folded (l : Launch) {D : va_G} {dA : Nat → ClassId} {aK aV : Nat → Nat} {z : Nat} {N : Nat} {p0 : Option Nat} {p1 : Int32} {p2 : Int32} {p3 : Option Nat} {M : hM} {Z : Int32 × hM} (hf : (f_MD_folded N p0 p1 p2 p3).1 M = some Z) : Met l y_MD_folded w_MD_folded ({ frames := 1, cells := Z.2.2.1 - M.2.1, slots := Z.2.2.2 - M.2.2, locals := 20 }) (va_Pc [va_rf p0, .int p1, .int p2, va_rf p3] (hm_B D dA hCl (hTy dA) sT aK aV z M)) (hm_Q D dA hCl (hTy dA) sT aK aV z (some (.int Z.1)) Z.2) (Z.2.2.1 - M.2.1) (Z.2.2.2 - M.2.2) (fun q => z ≤ q) := by
  refine Met.ofW (cc := b_MD_folded) (maxL := 7) (ret := (some .int)) (by decide) rfl ?_
  intro p e s m args below meth c s₁ B hml hv
  obtain ⟨hav, hB⟩ := hv
  have S : CallFix p m c b_MD_folded 7 s args w_MD_folded R_MD := ⟨B.exec, B.bytes, hml, findClass_of_methodNamed B.named, atoms_spec (ws := w_MD_folded) B.pre⟩
  have hr : meth.sig.returnType = (some .int) := B.returns
  have hlocks := B.notSynchronized
  have hK := hB.2.2.1
  have hG := hB.2.2.2.2.2
  have hI := hm_I.start hB
  rw [← hB.2.1]
  generalize M.2.2 = k1 at hI ⊢
  refine W.eq (g2 := F0 m 0 ((lg_sl ([va_rf p0, .int p1, .int p2, va_rf p3]) ++ List.replicate (7 - (lg_sl ([va_rf p0, .int p1, .int p2, va_rf p3])).length) Slot.unset).toArray) []) (by rw [hav]; exact lg_entry_eq m ([va_rf p0, .int p1, .int p2, va_rf p3]) 7) ?_
  have hl := lv_entry ([va_rf p0, .int p1, .int p2, va_rf p3]) (n := 7) (by cases p0 <;> cases p3 <;> exact Nat.le_of_ble_eq_true rfl)
  generalize (lg_sl ([va_rf p0, .int p1, .int p2, va_rf p3]) ++ List.replicate (7 - (lg_sl ([va_rf p0, .int p1, .int p2, va_rf p3])).length) Slot.unset).toArray = ls at hl ⊢
  simp only [lvA_nil, lvA_i, lvA_l, lvA_a, lvA_r, Nat.zero_add, Nat.reduceAdd] at hl
  have hret : ∀ (v : Int32) (M : hM) (H : Heap) (locs : List Loc) (cells slots : Nat) (ls : Array Slot) (pc : Nat), decode b_MD_folded pc = .ok (.ireturn, 1) → (b_ret v).1 M = some Z → hm_I D dA hCl z k1 s M H locs cells slots → W p l e (headSpec w_MD_folded { frames := 1, cells := Z.2.2.1 - s.heap.size, slots := Z.2.2.2 - k1, locals := 20 }).room s m args below meth c H locs cells slots (MQ below (hm_Q D dA hCl (hTy dA) sT aK aV z (some (.int Z.1)) Z.2) args s (Z.2.2.1 - s.heap.size) (Z.2.2.2 - k1) (fun q => z ≤ q)) (F0 m pc ls [.int v]) := fun v M H locs cells slots ls pc hdg hf hI => x_reti S hK hG hI hr hlocks hdg hf
  have hR : Z.2.2.1 - s.heap.size ≤ (headSpec w_MD_folded { frames := 1, cells := Z.2.2.1 - s.heap.size, slots := Z.2.2.2 - k1, locals := 20 }).room.cells ∧ Z.2.2.2 - k1 ≤ (headSpec w_MD_folded { frames := 1, cells := Z.2.2.1 - s.heap.size, slots := Z.2.2.2 - k1, locals := 20 }).room.slots := ⟨Nat.le_refl _, Nat.le_refl _⟩
  have hRf : 1 ≤ (headSpec w_MD_folded { frames := 1, cells := Z.2.2.1 - s.heap.size, slots := Z.2.2.2 - k1, locals := 20 }).room.frames ∧ 20 ≤ (headSpec w_MD_folded { frames := 1, cells := Z.2.2.1 - s.heap.size, slots := Z.2.2.2 - k1, locals := 20 }).room.locals := ⟨Nat.le_refl _, Nat.le_refl _⟩
  generalize (headSpec w_MD_folded { frames := 1, cells := Z.2.2.1 - s.heap.size, slots := Z.2.2.2 - k1, locals := 20 }).room = R at hret hR hRf ⊢
  generalize (MQ below (hm_Q D dA hCl (hTy dA) sT aK aV z (some (.int Z.1)) Z.2) args s (Z.2.2.1 - s.heap.size) (Z.2.2.2 - k1) (fun q => z ≤ q)) = Q at hret ⊢
  rw [e_MD_folded] at hf
  have w6 : ∀ (n : Nat) (x4 : Int32) (x5 : Int32) (M : hM) (H : Heap) (locs : List Loc) (ls : Array Slot) (cells slots : Nat), (f_MD_folded_6 N p0 p1 p2 p3  n x4 x5).1 M = some Z → hm_I D dA hCl z k1 s M H locs cells slots → lv_has ls 7 [(0, va_rf p0), (1, .int p1), (2, .int p2), (3, va_rf p3), (4, .int x4), (5, .int x5)] → W p l e R s m args below meth c H locs cells slots Q (F0 m 6 ls []) := by
    intro n
    induction n with
    | zero => intro x4 x5 M H locs ls cells slots hf hI hl; cases hf
    | succ n6 ih6 =>
      intro x4 x5 M H locs ls cells slots hf hI hl
      rw [e_MD_folded_6] at hf
      obtain ⟨J86, eJ86, hf⟩ := b_let_inv hf
      have w86 : ∀ (x4 : Int32) (x5 : Int32) (M : hM) (H : Heap) (locs : List Loc) (ls : Array Slot) (cells slots : Nat), (J86 x4 x5).1 M = some Z → hm_I D dA hCl z k1 s M H locs cells slots → lv_has ls 7 [(0, va_rf p0), (1, .int p1), (2, .int p2), (3, va_rf p3), (4, .int x4), (5, .int x5)] → W p l e R s m args below meth c H locs cells slots Q (F0 m 86 ls []) := by
        intro x4 x5 M H locs ls cells slots hf hI hl
        rw [eJ86] at hf
        refine x_iinc (v := 1) (lv2 := [(0, va_rf p0), (1, .int p1), (2, .int p2), (3, va_rf p3), (4, .int x4)]) S d_MD_folded_86 hl 5 rfl (by decide) (by decide) [0, 1, 2, 3, 4] rfl ⟨⟨(by decide : (0 : Nat) ≠ 5), fun h => absurd (show (0 : Nat) + 1 = 5 from h) (by decide)⟩, ⟨⟨(by decide : (1 : Nat) ≠ 5), fun h => absurd (show (1 : Nat) + 1 = 5 from h) (by decide)⟩, ⟨⟨(by decide : (2 : Nat) ≠ 5), fun h => absurd (show (2 : Nat) + 1 = 5 from h) (by decide)⟩, ⟨⟨(by decide : (3 : Nat) ≠ 5), fun h => absurd (show (3 : Nat) + 1 = 5 from h) (by decide)⟩, ⟨⟨(by decide : (4 : Nat) ≠ 5), fun _ => rfl⟩, trivial⟩⟩⟩⟩⟩ (fun ls hl => ?_)
        refine lv_goto (tgt := 6) S.1 S.2.1 d_MD_folded_89 (by decide) ?_
        exact ih6 x4 (x5 + 1) _ _ _ _ _ _ hf hI (lv_sub hl [1, 2, 3, 4, 5, 0] rfl)
      obtain ⟨J55, eJ55, hf⟩ := b_let_inv hf
      have w55 : ∀ (x4 : Int32) (x5 : Int32) (y0 : Int32) (y1 : Int32) (y2 : Option Nat) (M : hM) (H : Heap) (locs : List Loc) (ls : Array Slot) (cells slots : Nat), (J55 x4 x5 y0 y1 y2).1 M = some Z → hm_I D dA hCl z k1 s M H locs cells slots → lv_has ls 7 [(0, va_rf p0), (1, .int p1), (2, .int p2), (3, va_rf p3), (4, .int x4), (5, .int x5)] → W p l e R s m args below meth c H locs cells slots Q (F0 m 55 ls [.int y0, .int y1, va_rf y2]) := by
        intro x4 x5 y0 y1 y2 M H locs ls cells slots hf hI hl
        rw [eJ55] at hf
        refine lv_i2b S.1 S.2.1 d_MD_folded_55 rfl ?_
        obtain ⟨a1, ea1, hg⟩ := b_nn_inv hf
        have hI0 := hI
        have hl0 := hl
        clear hf hI hl
        subst ea1
        have hf := hg
        have hI := hI0
        have hl := hl0
        clear hg hI0 hl0
        refine x_bast (t := 6) S hK hI rfl d_MD_folded_56 hf (fun M H locs hf hI => ?_)
        refine x_iinc (v := 1) (lv2 := [(0, va_rf p0), (1, .int p1), (2, .int p2), (3, va_rf p3), (5, .int x5)]) S d_MD_folded_57 hl 4 rfl (by decide) (by decide) [0, 1, 2, 3, 5] rfl ⟨⟨(by decide : (0 : Nat) ≠ 4), fun h => absurd (show (0 : Nat) + 1 = 4 from h) (by decide)⟩, ⟨⟨(by decide : (1 : Nat) ≠ 4), fun h => absurd (show (1 : Nat) + 1 = 4 from h) (by decide)⟩, ⟨⟨(by decide : (2 : Nat) ≠ 4), fun h => absurd (show (2 : Nat) + 1 = 4 from h) (by decide)⟩, ⟨⟨(by decide : (3 : Nat) ≠ 4), fun _ => rf_cat _⟩, ⟨⟨(by decide : (5 : Nat) ≠ 4), fun h => absurd (show (5 : Nat) + 1 = 4 from h) (by decide)⟩, trivial⟩⟩⟩⟩⟩ (fun ls hl => ?_)
        refine lv_goto (tgt := 86) S.1 S.2.1 d_MD_folded_60 (by decide) ?_
        exact w86 (x4 + 1) x5 _ _ _ _ _ _ hf hI (lv_sub hl [1, 2, 3, 4, 0, 5] rfl)
      obtain ⟨J53, eJ53, hf⟩ := b_let_inv hf
      have w53 : ∀ (x4 : Int32) (x5 : Int32) (x6 : Int32) (y0 : Int32) (y1 : Option Nat) (M : hM) (H : Heap) (locs : List Loc) (ls : Array Slot) (cells slots : Nat), (J53 x4 x5 x6 y0 y1).1 M = some Z → hm_I D dA hCl z k1 s M H locs cells slots → lv_has ls 7 [(0, va_rf p0), (1, .int p1), (2, .int p2), (3, va_rf p3), (4, .int x4), (5, .int x5), (6, .int x6)] → W p l e R s m args below meth c H locs cells slots Q (F0 m 53 ls [.int y0, va_rf y1]) := by
        intro x4 x5 x6 y0 y1 M H locs ls cells slots hf hI hl
        rw [eJ53] at hf
        refine lv_iload S.1 S.2.1 d_MD_folded_53 (lv_at hl 6 rfl) ?_
        exact w55 x4 x5 x6 y0 y1 _ _ _ _ _ _ hf hI (lv_sub hl [0, 1, 2, 3, 4, 5] rfl)
      refine lv_iload S.1 S.2.1 d_MD_folded_6 (lv_at hl 5 rfl) ?_
      refine lv_iload_n S.1 S.2.1 d_MD_folded_8 rfl (lv_at hl 2 rfl) ?_
      refine lv_icmp_ge (tgt := 92) S.1 S.2.1 d_MD_folded_9 (by decide) (fun hc => ?_) (fun hc => ?_)
      · have hf := b_if_t hc hf
        refine lv_iload S.1 S.2.1 d_MD_folded_92 (lv_at hl 4 rfl) ?_
        exact hret _ _ _ _ _ _ _ _ d_MD_folded_94 hf hI
      · have hf := b_if_f hc hf
        refine x_aload_n (r := p0) S d_MD_folded_12 rfl (lv_at hl 0 rfl) ?_
        refine lv_iload_n S.1 S.2.1 d_MD_folded_13 rfl (lv_at hl 1 rfl) ?_
        refine lv_iload S.1 S.2.1 d_MD_folded_14 (lv_at hl 5 rfl) ?_
        refine lv_iadd S.1 S.2.1 d_MD_folded_16 ?_
        obtain ⟨a2, ea2, hg⟩ := b_nn_inv hf
        have hI0 := hI
        have hl0 := hl
        clear hf hI hl
        subst ea2
        have hf := hg
        have hI := hI0
        have hl := hl0
        clear hg hI0 hl0
        refine x_bald (t := 6) S hK hI rfl d_MD_folded_17 hf (fun v3 hf => ?_)
        refine x_istore (lv2 := [(0, .ref a2), (1, .int p1), (2, .int p2), (3, va_rf p3), (4, .int x4), (5, .int x5)]) S d_MD_folded_18 hl (by decide) [0, 1, 2, 3, 4, 5] rfl ⟨⟨(by decide : (0 : Nat) ≠ 6), fun h => absurd (show (0 : Nat) + 1 = 6 from h) (by decide)⟩, ⟨⟨(by decide : (1 : Nat) ≠ 6), fun h => absurd (show (1 : Nat) + 1 = 6 from h) (by decide)⟩, ⟨⟨(by decide : (2 : Nat) ≠ 6), fun h => absurd (show (2 : Nat) + 1 = 6 from h) (by decide)⟩, ⟨⟨(by decide : (3 : Nat) ≠ 6), fun h => absurd (show (3 : Nat) + 1 = 6 from h) (by decide)⟩, ⟨⟨(by decide : (4 : Nat) ≠ 6), fun h => absurd (show (4 : Nat) + 1 = 6 from h) (by decide)⟩, ⟨⟨(by decide : (5 : Nat) ≠ 6), fun _ => rfl⟩, trivial⟩⟩⟩⟩⟩⟩ (fun ls hl => ?_)
        refine lv_iload S.1 S.2.1 d_MD_folded_20 (lv_at hl 0 rfl) ?_
        obtain ⟨v4, N5, hg6, hf⟩ := b_call_inv hf
        refine x_call hI (hm_mo hg6) (va_runS (As := [.int v3]) (rest := []) S (c_MD_isDash l hg6) (va_cwS 1 S.2.2.2.2 (gi_S wd_569 wd_570 wd_564 wd_571) rfl rfl rfl (by decide +kernel) ⟨Nat.le_trans (Nat.le_of_ble_eq_true rfl) hRf.1, Nat.le_trans (Nat.le_of_ble_eq_true rfl) hRf.2⟩) ⟨hm_B.blind, fun U hU hW => ⟨rfl, hm_B.of hK hG hI hU hW⟩⟩ rfl rfl hl.1 rfl (lv_room (Nat.le_of_ble_eq_true rfl)) d_MD_folded_22 (hx_fit hI hR (hm_mo hg6) (hm_mo hf))) (fun H locs cells slots hI => ?_)
        refine W.eq (g2 := F0 m 25 ls [.int v4]) rfl ?_
        refine lv_if_ne (tgt := 63) S.1 S.2.1 d_MD_folded_25 (by decide) (fun hc => ?_) (fun hc => ?_)
        · have hf := b_if_f hc hf
          refine lv_aload_n S.1 S.2.1 d_MD_folded_63 rfl (lv_at hl 1 rfl) ?_
          refine lv_iload_n S.1 S.2.1 d_MD_folded_64 rfl (lv_at hl 2 rfl) ?_
          refine lv_iload S.1 S.2.1 d_MD_folded_65 (lv_at hl 6 rfl) ?_
          refine lv_iadd S.1 S.2.1 d_MD_folded_67 ?_
          refine lv_iconst (v := 1) S.1 S.2.1 d_MD_folded_68 (by decide) ?_
          refine lv_isub S.1 S.2.1 d_MD_folded_69 ?_
          refine x_bald (t := 6) S hK hI rfl d_MD_folded_70 hf (fun v7 hf => ?_)
          obtain ⟨v8, N9, hg10, hf⟩ := b_call_inv hf
          refine x_call hI (hm_mo hg10) (va_runS (As := [.int v7]) (rest := []) S (c_MD_isDash l hg10) (va_cwS 1 S.2.2.2.2 (gi_S wd_569 wd_570 wd_564 wd_571) rfl rfl rfl (by decide +kernel) ⟨Nat.le_trans (Nat.le_of_ble_eq_true rfl) hRf.1, Nat.le_trans (Nat.le_of_ble_eq_true rfl) hRf.2⟩) ⟨hm_B.blind, fun U hU hW => ⟨rfl, hm_B.of hK hG hI hU hW⟩⟩ rfl rfl hl.1 rfl (lv_room (Nat.le_of_ble_eq_true rfl)) d_MD_folded_71 (hx_fit hI hR (hm_mo hg10) (hm_mo hf))) (fun H locs cells slots hI => ?_)
          refine W.eq (g2 := F0 m 74 ls [.int v8]) rfl ?_
          refine lv_if_ne (tgt := 86) S.1 S.2.1 d_MD_folded_74 (by decide) (fun hc => ?_) (fun hc => ?_)
          · have hf := b_if_f hc hf
            exact w86 x4 x5 _ _ _ _ _ _ hf hI (lv_sub hl [1, 2, 3, 4, 5, 6] rfl)
          · have hf := b_if_t hc hf
            refine x_aload_n (r := p3) S d_MD_folded_77 rfl (lv_at hl 4 rfl) ?_
            refine lv_iload S.1 S.2.1 d_MD_folded_78 (lv_at hl 5 rfl) ?_
            refine lv_bipush (v := 45) S.1 S.2.1 d_MD_folded_80 (by decide) ?_
            obtain ⟨a11, ea11, hg⟩ := b_nn_inv hf
            have hI0 := hI
            have hl0 := hl
            clear hf hI hl
            subst ea11
            have hf := hg
            have hI := hI0
            have hl := hl0
            clear hg hI0 hl0
            refine x_bast (t := 6) S hK hI rfl d_MD_folded_82 hf (fun M H locs hf hI => ?_)
            refine x_iinc (v := 1) (lv2 := [(6, .int v3), (0, .ref a2), (1, .int p1), (2, .int p2), (3, .ref a11), (5, .int x5)]) S d_MD_folded_83 hl 5 rfl (by decide) (by decide) [0, 1, 2, 3, 4, 6] rfl ⟨⟨(by decide : (6 : Nat) ≠ 4), fun h => absurd (show (6 : Nat) + 1 = 4 from h) (by decide)⟩, ⟨⟨(by decide : (0 : Nat) ≠ 4), fun h => absurd (show (0 : Nat) + 1 = 4 from h) (by decide)⟩, ⟨⟨(by decide : (1 : Nat) ≠ 4), fun h => absurd (show (1 : Nat) + 1 = 4 from h) (by decide)⟩, ⟨⟨(by decide : (2 : Nat) ≠ 4), fun h => absurd (show (2 : Nat) + 1 = 4 from h) (by decide)⟩, ⟨⟨(by decide : (3 : Nat) ≠ 4), fun _ => rfl⟩, ⟨⟨(by decide : (5 : Nat) ≠ 4), fun h => absurd (show (5 : Nat) + 1 = 4 from h) (by decide)⟩, trivial⟩⟩⟩⟩⟩⟩ (fun ls hl => ?_)
            exact w86 (x4 + 1) x5 _ _ _ _ _ _ hf hI (lv_sub hl [2, 3, 4, 5, 0, 6] rfl)
        · have hf := b_if_t hc hf
          refine x_aload_n (r := p3) S d_MD_folded_28 rfl (lv_at hl 4 rfl) ?_
          refine lv_iload S.1 S.2.1 d_MD_folded_29 (lv_at hl 5 rfl) ?_
          refine lv_iload S.1 S.2.1 d_MD_folded_31 (lv_at hl 0 rfl) ?_
          refine lv_bipush (v := 65) S.1 S.2.1 d_MD_folded_33 (by decide) ?_
          refine lv_icmp_lt (tgt := 53) S.1 S.2.1 d_MD_folded_35 (by decide) (fun hc => ?_) (fun hc => ?_)
          · have hf := b_if_t hc hf
            exact w53 x4 x5 v3 x4 p3 _ _ _ _ _ _ hf hI (lv_sub hl [1, 2, 3, 4, 5, 6, 0] rfl)
          · have hf := b_if_f hc hf
            refine lv_iload S.1 S.2.1 d_MD_folded_38 (lv_at hl 0 rfl) ?_
            refine lv_bipush (v := 90) S.1 S.2.1 d_MD_folded_40 (by decide) ?_
            refine lv_icmp_gt (tgt := 53) S.1 S.2.1 d_MD_folded_42 (by decide) (fun hc => ?_) (fun hc => ?_)
            · have hf := b_if_t hc hf
              exact w53 x4 x5 v3 x4 p3 _ _ _ _ _ _ hf hI (lv_sub hl [1, 2, 3, 4, 5, 6, 0] rfl)
            · have hf := b_if_f hc hf
              refine lv_iload S.1 S.2.1 d_MD_folded_45 (lv_at hl 0 rfl) ?_
              refine lv_bipush (v := 32) S.1 S.2.1 d_MD_folded_47 (by decide) ?_
              refine lv_iadd S.1 S.2.1 d_MD_folded_49 ?_
              refine lv_goto (tgt := 55) S.1 S.2.1 d_MD_folded_50 (by decide) ?_
              exact w55 x4 x5 (v3 + 32) x4 p3 _ _ _ _ _ _ hf hI (lv_sub hl [1, 2, 3, 4, 5, 6] rfl)
  refine lv_iconst (v := 0) S.1 S.2.1 d_MD_folded_0 (by decide) ?_
  refine x_istore (lv2 := [(0, va_rf p0), (1, .int p1), (2, .int p2), (3, va_rf p3)]) S d_MD_folded_1 hl (by decide) [0, 1, 2, 3] rfl ⟨⟨(by decide : (0 : Nat) ≠ 4), fun h => absurd (show (0 : Nat) + 1 = 4 from h) (by decide)⟩, ⟨⟨(by decide : (1 : Nat) ≠ 4), fun h => absurd (show (1 : Nat) + 1 = 4 from h) (by decide)⟩, ⟨⟨(by decide : (2 : Nat) ≠ 4), fun h => absurd (show (2 : Nat) + 1 = 4 from h) (by decide)⟩, ⟨⟨(by decide : (3 : Nat) ≠ 4), fun _ => rf_cat _⟩, trivial⟩⟩⟩⟩ (fun ls hl => ?_)
  refine lv_iconst (v := 0) S.1 S.2.1 d_MD_folded_3 (by decide) ?_
  refine x_istore (lv2 := [(4, .int 0), (0, va_rf p0), (1, .int p1), (2, .int p2), (3, va_rf p3)]) S d_MD_folded_4 hl (by decide) [0, 1, 2, 3, 4] rfl ⟨⟨(by decide : (4 : Nat) ≠ 5), fun _ => rfl⟩, ⟨⟨(by decide : (0 : Nat) ≠ 5), fun h => absurd (show (0 : Nat) + 1 = 5 from h) (by decide)⟩, ⟨⟨(by decide : (1 : Nat) ≠ 5), fun h => absurd (show (1 : Nat) + 1 = 5 from h) (by decide)⟩, ⟨⟨(by decide : (2 : Nat) ≠ 5), fun h => absurd (show (2 : Nat) + 1 = 5 from h) (by decide)⟩, ⟨⟨(by decide : (3 : Nat) ≠ 5), fun h => absurd (show (3 : Nat) + 1 = 5 from h) (by decide)⟩, trivial⟩⟩⟩⟩⟩ (fun ls hl => ?_)
  exact w6 N 0 0 _ _ _ _ _ _ hf hI (lv_sub hl [2, 3, 4, 5, 1, 0] rfl)
