set_option maxHeartbeats 4000000 in
set_option maxRecDepth 100000 in
theorem c_MD_read (l : Launch) {D : va_G} {dA : Nat → ClassId} {aK aV : Nat → Nat} {z : Nat} {N : Nat} {h0 : Nat} {M : hM} {Z : Int32 × hM} (hf : (f_MD_read N h0 ).1 M = some Z) : Met l y_MD_read w_MD_read ({ frames := 10, cells := Z.2.2.1 - M.2.1, slots := Z.2.2.2 - M.2.2, locals := 223 }) (va_Pc [.ref h0] (hm_B D dA hCl (hTy dA) sT aK aV z M)) (hm_Q D dA hCl (hTy dA) sT aK aV z (some (.int Z.1)) Z.2) (Z.2.2.1 - M.2.1) (Z.2.2.2 - M.2.2) (fun q => z ≤ q) := by
  refine Met.ofW (cc := b_MD_read) (maxL := 1) (ret := (some .int)) (by decide) rfl ?_
  intro p e s m args below meth c s₁ B hml hv
  obtain ⟨hav, hB⟩ := hv
  have S : CallFix p m c b_MD_read 1 s args w_MD_read R_MD := ⟨B.exec, B.bytes, hml, findClass_of_methodNamed B.named, atoms_spec (ws := w_MD_read) B.pre⟩
  have hr : meth.sig.returnType = (some .int) := B.returns
  have hlocks := B.notSynchronized
  have hK := hB.2.2.1
  have hG := hB.2.2.2.2.2
  have hI := hm_I.start hB
  rw [← hB.2.1]
  generalize M.2.2 = k1 at hI ⊢
  refine W.eq (g2 := F0 m 0 ((lg_sl ([.ref h0]) ++ List.replicate (1 - (lg_sl ([.ref h0])).length) Slot.unset).toArray) []) (by rw [hav]; exact lg_entry_eq m ([.ref h0]) 1) ?_
  have hl := lv_entry ([.ref h0]) (n := 1) (Nat.le_of_ble_eq_true rfl)
  generalize (lg_sl ([.ref h0]) ++ List.replicate (1 - (lg_sl ([.ref h0])).length) Slot.unset).toArray = ls at hl ⊢
  simp only [lvA_nil, lvA_i, lvA_l, lvA_a, lvA_r, Nat.zero_add, Nat.reduceAdd] at hl
  have hret : ∀ (v : Int32) (M : hM) (H : Heap) (locs : List Loc) (cells slots : Nat) (ls : Array Slot) (pc : Nat), decode b_MD_read pc = .ok (.ireturn, 1) → (b_ret v).1 M = some Z → hm_I D dA hCl z k1 s M H locs cells slots → W p l e (headSpec w_MD_read { frames := 10, cells := Z.2.2.1 - s.heap.size, slots := Z.2.2.2 - k1, locals := 223 }).room s m args below meth c H locs cells slots (MQ below (hm_Q D dA hCl (hTy dA) sT aK aV z (some (.int Z.1)) Z.2) args s (Z.2.2.1 - s.heap.size) (Z.2.2.2 - k1) (fun q => z ≤ q)) (F0 m pc ls [.int v]) := fun v M H locs cells slots ls pc hdg hf hI => x_reti S hK hG hI hr hlocks hdg hf
  have hR : Z.2.2.1 - s.heap.size ≤ (headSpec w_MD_read { frames := 10, cells := Z.2.2.1 - s.heap.size, slots := Z.2.2.2 - k1, locals := 223 }).room.cells ∧ Z.2.2.2 - k1 ≤ (headSpec w_MD_read { frames := 10, cells := Z.2.2.1 - s.heap.size, slots := Z.2.2.2 - k1, locals := 223 }).room.slots := ⟨Nat.le_refl _, Nat.le_refl _⟩
  have hRf : 10 ≤ (headSpec w_MD_read { frames := 10, cells := Z.2.2.1 - s.heap.size, slots := Z.2.2.2 - k1, locals := 223 }).room.frames ∧ 223 ≤ (headSpec w_MD_read { frames := 10, cells := Z.2.2.1 - s.heap.size, slots := Z.2.2.2 - k1, locals := 223 }).room.locals := ⟨Nat.le_refl _, Nat.le_refl _⟩
  generalize (headSpec w_MD_read { frames := 10, cells := Z.2.2.1 - s.heap.size, slots := Z.2.2.2 - k1, locals := 223 }).room = R at hret hR hRf ⊢
  generalize (MQ below (hm_Q D dA hCl (hTy dA) sT aK aV z (some (.int Z.1)) Z.2) args s (Z.2.2.1 - s.heap.size) (Z.2.2.2 - k1) (fun q => z ≤ q)) = Q at hret ⊢
  rw [e_MD_read] at hf
  refine lv_aload_n S.1 S.2.1 d_MD_read_0 rfl (lv_at hl 0 rfl) ?_
  refine lv_iconst (v := 0) S.1 S.2.1 d_MD_read_1 (by decide) ?_
  refine x_put (ci := 1) (k := 0) S hK hI (fun w h => List.mem_cons_of_mem _ (i_MD w h)) t_MD t_MD_ok n_MD rfl (by decide) (List.mem_cons_of_mem _ wd_559) rfl (Or.inl rfl) (by rfl) rfl d_MD_read_2 hf (fun M H locs hf hI => ?_)
  refine lv_aload_n S.1 S.2.1 d_MD_read_5 rfl (lv_at hl 0 rfl) ?_
  obtain ⟨⟨fs4, hefs4⟩, hf⟩ := b_is_inv hf
  obtain ⟨r1, N2, hg3, hf⟩ := b_call_inv hf
  refine x_call hI (hm_mo hg3) (va_runV (As := []) (rest := []) S (c_MD_readAll l hg3) (cwV 0 S.2.2.2.2 (gi_V wd_713 wd_714 wd_715 wd_564 wd_716) rfl rfl rfl (by decide +kernel) ⟨Nat.le_trans (Nat.le_of_ble_eq_true rfl) hRf.1, Nat.le_trans (Nat.le_of_ble_eq_true rfl) hRf.2⟩) ⟨hm_B.blind, va_recv hK (hI.1.one hefs4) (ci := 1) (q0 := 0) rfl rfl, fun U hU hW => ⟨rfl, hm_B.of hK hG hI hU hW⟩⟩ rfl rfl hl.1 rfl (lv_room (Nat.le_of_ble_eq_true rfl)) d_MD_read_6 (hx_fit hI hR (hm_mo hg3) (hm_mo hf))) (fun H locs cells slots hI => ?_)
  refine W.eq (g2 := F0 m 9 ls []) rfl ?_
  refine lv_aload_n S.1 S.2.1 d_MD_read_9 rfl (lv_at hl 0 rfl) ?_
  refine lv_iconst (v := 0) S.1 S.2.1 d_MD_read_10 (by decide) ?_
  refine x_put (ci := 1) (k := 2) S hK hI (fun w h => List.mem_cons_of_mem _ (i_MD w h)) t_MD t_MD_ok n_MD rfl (by decide) (List.mem_cons_of_mem _ wd_558) rfl (Or.inl rfl) (by rfl) rfl d_MD_read_11 hf (fun M H locs hf hI => ?_)
  refine lv_aload_n S.1 S.2.1 d_MD_read_14 rfl (lv_at hl 0 rfl) ?_
  obtain ⟨⟨fs8, hefs8⟩, hf⟩ := b_is_inv hf
  obtain ⟨v5, N6, hg7, hf⟩ := b_call_inv hf
  refine x_call hI (hm_mo hg7) (va_runV (As := []) (rest := []) S (c_MD_isWrong l hg7) (cwV 0 S.2.2.2.2 (gi_V wd_575 wd_576 wd_577 wd_564 wd_578) rfl rfl rfl (by decide +kernel) ⟨Nat.le_trans (Nat.le_of_ble_eq_true rfl) hRf.1, Nat.le_trans (Nat.le_of_ble_eq_true rfl) hRf.2⟩) ⟨hm_B.blind, va_recv hK (hI.1.one hefs8) (ci := 1) (q0 := 0) rfl rfl, fun U hU hW => ⟨rfl, hm_B.of hK hG hI hU hW⟩⟩ rfl rfl hl.1 rfl (lv_room (Nat.le_of_ble_eq_true rfl)) d_MD_read_15 (hx_fit hI hR (hm_mo hg7) (hm_mo hf))) (fun H locs cells slots hI => ?_)
  refine W.eq (g2 := F0 m 18 ls [.int v5]) rfl ?_
  refine lv_if_eq (tgt := 26) S.1 S.2.1 d_MD_read_18 (by decide) (fun hc => ?_) (fun hc => ?_)
  · have hf := b_if_t hc hf
    refine lv_aload_n S.1 S.2.1 d_MD_read_26 rfl (lv_at hl 0 rfl) ?_
    refine x_getI (ci := 1) (k := 11) S hK hI (fun w h => List.mem_cons_of_mem _ (i_MD w h)) rfl (by decide) (List.mem_cons_of_mem _ wd_624) rfl d_MD_read_27 hf (fun v9 hf => ?_)
    refine lv_bipush (v := 40) S.1 S.2.1 d_MD_read_30 (by decide) ?_
    refine lv_icmp_ne (tgt := 39) S.1 S.2.1 d_MD_read_32 (by decide) (fun hc => ?_) (fun hc => ?_)
    · have hf := b_if_f hc hf
      refine lv_aload_n S.1 S.2.1 d_MD_read_39 rfl (lv_at hl 0 rfl) ?_
      obtain ⟨⟨fs13, hefs13⟩, hf⟩ := b_is_inv hf
      obtain ⟨r10, N11, hg12, hf⟩ := b_call_inv hf
      refine x_call hI (hm_mo hg12) (va_runV (As := []) (rest := []) S (c_MD_settle l hg12) (cwV 0 S.2.2.2.2 (gi_V wd_717 wd_718 wd_719 wd_564 wd_720) rfl rfl rfl (by decide +kernel) ⟨Nat.le_trans (Nat.le_of_ble_eq_true rfl) hRf.1, Nat.le_trans (Nat.le_of_ble_eq_true rfl) hRf.2⟩) ⟨hm_B.blind, va_recv hK (hI.1.one hefs13) (ci := 1) (q0 := 0) rfl rfl, fun U hU hW => ⟨rfl, hm_B.of hK hG hI hU hW⟩⟩ rfl rfl hl.1 rfl (lv_room (Nat.le_of_ble_eq_true rfl)) d_MD_read_40 (hx_fit hI hR (hm_mo hg12) (hm_mo hf))) (fun H locs cells slots hI => ?_)
      refine W.eq (g2 := F0 m 43 ls []) rfl ?_
      refine lv_aload_n S.1 S.2.1 d_MD_read_43 rfl (lv_at hl 0 rfl) ?_
      refine lv_dup S.1 S.2.1 d_MD_read_44 rfl ?_
      refine x_getI (ci := 1) (k := 11) S hK hI (fun w h => List.mem_cons_of_mem _ (i_MD w h)) rfl (by decide) (List.mem_cons_of_mem _ wd_624) rfl d_MD_read_45 hf (fun v14 hf => ?_)
      refine lv_iconst (v := 1) S.1 S.2.1 d_MD_read_48 (by decide) ?_
      refine lv_iadd S.1 S.2.1 d_MD_read_49 ?_
      refine x_put (ci := 1) (k := 11) S hK hI (fun w h => List.mem_cons_of_mem _ (i_MD w h)) t_MD t_MD_ok n_MD rfl (by decide) (List.mem_cons_of_mem _ wd_624) rfl (Or.inl rfl) (by rfl) rfl d_MD_read_50 hf (fun M H locs hf hI => ?_)
      refine lv_aload_n S.1 S.2.1 d_MD_read_53 rfl (lv_at hl 0 rfl) ?_
      refine x_getI (ci := 1) (k := 11) S hK hI (fun w h => List.mem_cons_of_mem _ (i_MD w h)) rfl (by decide) (List.mem_cons_of_mem _ wd_624) rfl d_MD_read_54 hf (fun v15 hf => ?_)
      refine lv_iconst (v := 1) S.1 S.2.1 d_MD_read_57 (by decide) ?_
      refine lv_isub S.1 S.2.1 d_MD_read_58 ?_
      exact hret _ _ _ _ _ _ _ _ d_MD_read_59 hf hI
    · have hf := b_if_t hc hf
      refine lv_sipush (v := (-10000)) S.1 S.2.1 d_MD_read_35 (by decide) ?_
      exact hret _ _ _ _ _ _ _ _ d_MD_read_38 hf hI
  · have hf := b_if_f hc hf
    refine lv_aload_n S.1 S.2.1 d_MD_read_21 rfl (lv_at hl 0 rfl) ?_
    refine x_getI (ci := 1) (k := 7) S hK hI (fun w h => List.mem_cons_of_mem _ (i_MD w h)) rfl (by decide) (List.mem_cons_of_mem _ wd_574) rfl d_MD_read_22 hf (fun v16 hf => ?_)
    exact hret _ _ _ _ _ _ _ _ d_MD_read_25 hf hI
set_option maxHeartbeats 4000000 in
set_option maxRecDepth 100000 in
theorem c_MD_isPackage (l : Launch) {D : va_G} {dA : Nat → ClassId} {aK aV : Nat → Nat} {z : Nat} {N : Nat} {h0 : Nat} {p0 : Int32} {M : hM} {Z : Int32 × hM} (hf : (f_MD_isPackage N h0 p0).1 M = some Z) : Met l y_MD_isPackage w_MD_isPackage ({ frames := 0, cells := Z.2.2.1 - M.2.1, slots := Z.2.2.2 - M.2.2, locals := 0 }) (va_Pc [.ref h0, .int p0] (hm_B D dA hCl (hTy dA) sT aK aV z M)) (hm_Q D dA hCl (hTy dA) sT aK aV z (some (.int Z.1)) Z.2) (Z.2.2.1 - M.2.1) (Z.2.2.2 - M.2.2) (fun q => z ≤ q) := by
  refine Met.ofW (cc := b_MD_isPackage) (maxL := 2) (ret := (some .boolean)) (by decide) rfl ?_
  intro p e s m args below meth c s₁ B hml hv
  obtain ⟨hav, hB⟩ := hv
  have S : CallFix p m c b_MD_isPackage 2 s args w_MD_isPackage R_MD := ⟨B.exec, B.bytes, hml, findClass_of_methodNamed B.named, atoms_spec (ws := w_MD_isPackage) B.pre⟩
  have hr : meth.sig.returnType = (some .boolean) := B.returns
  have hlocks := B.notSynchronized
  have hK := hB.2.2.1
  have hG := hB.2.2.2.2.2
  have hI := hm_I.start hB
  rw [← hB.2.1]
  generalize M.2.2 = k1 at hI ⊢
  refine W.eq (g2 := F0 m 0 ((lg_sl ([.ref h0, .int p0]) ++ List.replicate (2 - (lg_sl ([.ref h0, .int p0])).length) Slot.unset).toArray) []) (by rw [hav]; exact lg_entry_eq m ([.ref h0, .int p0]) 2) ?_
  have hl := lv_entry ([.ref h0, .int p0]) (n := 2) (Nat.le_of_ble_eq_true rfl)
  generalize (lg_sl ([.ref h0, .int p0]) ++ List.replicate (2 - (lg_sl ([.ref h0, .int p0])).length) Slot.unset).toArray = ls at hl ⊢
  simp only [lvA_nil, lvA_i, lvA_l, lvA_a, lvA_r, Nat.zero_add, Nat.reduceAdd] at hl
  have hret : ∀ (v : Int32) (M : hM) (H : Heap) (locs : List Loc) (cells slots : Nat) (ls : Array Slot) (pc : Nat), decode b_MD_isPackage pc = .ok (.ireturn, 1) → (b_retN .boolean v).1 M = some Z → hm_I D dA hCl z k1 s M H locs cells slots → W p l e (headSpec w_MD_isPackage { frames := 0, cells := Z.2.2.1 - s.heap.size, slots := Z.2.2.2 - k1, locals := 0 }).room s m args below meth c H locs cells slots (MQ below (hm_Q D dA hCl (hTy dA) sT aK aV z (some (.int Z.1)) Z.2) args s (Z.2.2.1 - s.heap.size) (Z.2.2.2 - k1) (fun q => z ≤ q)) (F0 m pc ls [.int v]) := fun v M H locs cells slots ls pc hdg hf hI => x_retn S hK hG hI hr hlocks hdg hf
  have hR : Z.2.2.1 - s.heap.size ≤ (headSpec w_MD_isPackage { frames := 0, cells := Z.2.2.1 - s.heap.size, slots := Z.2.2.2 - k1, locals := 0 }).room.cells ∧ Z.2.2.2 - k1 ≤ (headSpec w_MD_isPackage { frames := 0, cells := Z.2.2.1 - s.heap.size, slots := Z.2.2.2 - k1, locals := 0 }).room.slots := ⟨Nat.le_refl _, Nat.le_refl _⟩
  have hRf : 0 ≤ (headSpec w_MD_isPackage { frames := 0, cells := Z.2.2.1 - s.heap.size, slots := Z.2.2.2 - k1, locals := 0 }).room.frames ∧ 0 ≤ (headSpec w_MD_isPackage { frames := 0, cells := Z.2.2.1 - s.heap.size, slots := Z.2.2.2 - k1, locals := 0 }).room.locals := ⟨Nat.le_refl _, Nat.le_refl _⟩
  generalize (headSpec w_MD_isPackage { frames := 0, cells := Z.2.2.1 - s.heap.size, slots := Z.2.2.2 - k1, locals := 0 }).room = R at hret hR hRf ⊢
  generalize (MQ below (hm_Q D dA hCl (hTy dA) sT aK aV z (some (.int Z.1)) Z.2) args s (Z.2.2.1 - s.heap.size) (Z.2.2.2 - k1) (fun q => z ≤ q)) = Q at hret ⊢
  rw [e_MD_isPackage] at hf
  obtain ⟨J17, eJ17, hf⟩ := b_let_inv hf
  have w17 : ∀ (y0 : Int32) (M : hM) (H : Heap) (locs : List Loc) (ls : Array Slot) (cells slots : Nat), (J17 y0).1 M = some Z → hm_I D dA hCl z k1 s M H locs cells slots → lv_has ls 2 [] → W p l e R s m args below meth c H locs cells slots Q (F0 m 17 ls [.int y0]) := by
    intro y0 M H locs ls cells slots hf hI hl
    rw [eJ17] at hf
    exact hret _ _ _ _ _ _ _ _ d_MD_isPackage_17 hf hI
  obtain ⟨J16, eJ16, hf⟩ := b_let_inv hf
  have w16 : ∀  (M : hM) (H : Heap) (locs : List Loc) (ls : Array Slot) (cells slots : Nat), (J16).1 M = some Z → hm_I D dA hCl z k1 s M H locs cells slots → lv_has ls 2 [] → W p l e R s m args below meth c H locs cells slots Q (F0 m 16 ls []) := by
    intro M H locs ls cells slots hf hI hl
    rw [eJ16] at hf
    refine lv_iconst (v := 0) S.1 S.2.1 d_MD_isPackage_16 (by decide) ?_
    exact w17 0 _ _ _ _ _ _ hf hI (lv_sub hl [] rfl)
  refine lv_iload_n S.1 S.2.1 d_MD_isPackage_0 rfl (lv_at hl 1 rfl) ?_
  refine lv_if_lt (tgt := 16) S.1 S.2.1 d_MD_isPackage_1 (by decide) (fun hc => ?_) (fun hc => ?_)
  · have hf := b_if_t hc hf
    exact w16  _ _ _ _ _ _ hf hI (lv_sub hl [] rfl)
  · have hf := b_if_f hc hf
    refine lv_iload_n S.1 S.2.1 d_MD_isPackage_4 rfl (lv_at hl 1 rfl) ?_
    refine lv_aload_n S.1 S.2.1 d_MD_isPackage_5 rfl (lv_at hl 0 rfl) ?_
    refine x_getI (ci := 1) (k := 11) S hK hI (fun w h => List.mem_cons_of_mem _ (i_MD w h)) rfl (by decide) (List.mem_cons_of_mem _ wd_624) rfl d_MD_isPackage_6 hf (fun v1 hf => ?_)
    refine lv_icmp_ge (tgt := 16) S.1 S.2.1 d_MD_isPackage_9 (by decide) (fun hc => ?_) (fun hc => ?_)
    · have hf := b_if_t hc hf
      exact w16  _ _ _ _ _ _ hf hI (lv_sub hl [] rfl)
    · have hf := b_if_f hc hf
      refine lv_iconst (v := 1) S.1 S.2.1 d_MD_isPackage_12 (by decide) ?_
      refine lv_goto (tgt := 17) S.1 S.2.1 d_MD_isPackage_13 (by decide) ?_
      exact w17 1 _ _ _ _ _ _ hf hI (lv_sub hl [] rfl)
set_option maxHeartbeats 4000000 in
set_option maxRecDepth 100000 in
theorem c_MD_isRow (l : Launch) {D : va_G} {dA : Nat → ClassId} {aK aV : Nat → Nat} {z : Nat} {N : Nat} {h0 : Nat} {p0 : Int32} {p1 : Int32} {M : hM} {Z : Int32 × hM} (hf : (f_MD_isRow N h0 p0 p1).1 M = some Z) : Met l y_MD_isRow w_MD_isRow ({ frames := 1, cells := Z.2.2.1 - M.2.1, slots := Z.2.2.2 - M.2.2, locals := 21 }) (va_Pc [.ref h0, .int p0, .int p1] (hm_B D dA hCl (hTy dA) sT aK aV z M)) (hm_Q D dA hCl (hTy dA) sT aK aV z (some (.int Z.1)) Z.2) (Z.2.2.1 - M.2.1) (Z.2.2.2 - M.2.2) (fun q => z ≤ q) := by
  refine Met.ofW (cc := b_MD_isRow) (maxL := 3) (ret := (some .boolean)) (by decide) rfl ?_
  intro p e s m args below meth c s₁ B hml hv
  obtain ⟨hav, hB⟩ := hv
  have S : CallFix p m c b_MD_isRow 3 s args w_MD_isRow R_MD := ⟨B.exec, B.bytes, hml, findClass_of_methodNamed B.named, atoms_spec (ws := w_MD_isRow) B.pre⟩
  have hr : meth.sig.returnType = (some .boolean) := B.returns
  have hlocks := B.notSynchronized
  have hK := hB.2.2.1
  have hG := hB.2.2.2.2.2
  have hI := hm_I.start hB
  rw [← hB.2.1]
  generalize M.2.2 = k1 at hI ⊢
  refine W.eq (g2 := F0 m 0 ((lg_sl ([.ref h0, .int p0, .int p1]) ++ List.replicate (3 - (lg_sl ([.ref h0, .int p0, .int p1])).length) Slot.unset).toArray) []) (by rw [hav]; exact lg_entry_eq m ([.ref h0, .int p0, .int p1]) 3) ?_
  have hl := lv_entry ([.ref h0, .int p0, .int p1]) (n := 3) (Nat.le_of_ble_eq_true rfl)
  generalize (lg_sl ([.ref h0, .int p0, .int p1]) ++ List.replicate (3 - (lg_sl ([.ref h0, .int p0, .int p1])).length) Slot.unset).toArray = ls at hl ⊢
  simp only [lvA_nil, lvA_i, lvA_l, lvA_a, lvA_r, Nat.zero_add, Nat.reduceAdd] at hl
  have hret : ∀ (v : Int32) (M : hM) (H : Heap) (locs : List Loc) (cells slots : Nat) (ls : Array Slot) (pc : Nat), decode b_MD_isRow pc = .ok (.ireturn, 1) → (b_retN .boolean v).1 M = some Z → hm_I D dA hCl z k1 s M H locs cells slots → W p l e (headSpec w_MD_isRow { frames := 1, cells := Z.2.2.1 - s.heap.size, slots := Z.2.2.2 - k1, locals := 21 }).room s m args below meth c H locs cells slots (MQ below (hm_Q D dA hCl (hTy dA) sT aK aV z (some (.int Z.1)) Z.2) args s (Z.2.2.1 - s.heap.size) (Z.2.2.2 - k1) (fun q => z ≤ q)) (F0 m pc ls [.int v]) := fun v M H locs cells slots ls pc hdg hf hI => x_retn S hK hG hI hr hlocks hdg hf
  have hR : Z.2.2.1 - s.heap.size ≤ (headSpec w_MD_isRow { frames := 1, cells := Z.2.2.1 - s.heap.size, slots := Z.2.2.2 - k1, locals := 21 }).room.cells ∧ Z.2.2.2 - k1 ≤ (headSpec w_MD_isRow { frames := 1, cells := Z.2.2.1 - s.heap.size, slots := Z.2.2.2 - k1, locals := 21 }).room.slots := ⟨Nat.le_refl _, Nat.le_refl _⟩
  have hRf : 1 ≤ (headSpec w_MD_isRow { frames := 1, cells := Z.2.2.1 - s.heap.size, slots := Z.2.2.2 - k1, locals := 21 }).room.frames ∧ 21 ≤ (headSpec w_MD_isRow { frames := 1, cells := Z.2.2.1 - s.heap.size, slots := Z.2.2.2 - k1, locals := 21 }).room.locals := ⟨Nat.le_refl _, Nat.le_refl _⟩
  generalize (headSpec w_MD_isRow { frames := 1, cells := Z.2.2.1 - s.heap.size, slots := Z.2.2.2 - k1, locals := 21 }).room = R at hret hR hRf ⊢
  generalize (MQ below (hm_Q D dA hCl (hTy dA) sT aK aV z (some (.int Z.1)) Z.2) args s (Z.2.2.1 - s.heap.size) (Z.2.2.2 - k1) (fun q => z ≤ q)) = Q at hret ⊢
  rw [e_MD_isRow] at hf
  obtain ⟨J27, eJ27, hf⟩ := b_let_inv hf
  have w27 : ∀ (y0 : Int32) (M : hM) (H : Heap) (locs : List Loc) (ls : Array Slot) (cells slots : Nat), (J27 y0).1 M = some Z → hm_I D dA hCl z k1 s M H locs cells slots → lv_has ls 3 [] → W p l e R s m args below meth c H locs cells slots Q (F0 m 27 ls [.int y0]) := by
    intro y0 M H locs ls cells slots hf hI hl
    rw [eJ27] at hf
    exact hret _ _ _ _ _ _ _ _ d_MD_isRow_27 hf hI
  obtain ⟨J26, eJ26, hf⟩ := b_let_inv hf
  have w26 : ∀  (M : hM) (H : Heap) (locs : List Loc) (ls : Array Slot) (cells slots : Nat), (J26).1 M = some Z → hm_I D dA hCl z k1 s M H locs cells slots → lv_has ls 3 [] → W p l e R s m args below meth c H locs cells slots Q (F0 m 26 ls []) := by
    intro M H locs ls cells slots hf hI hl
    rw [eJ26] at hf
    refine lv_iconst (v := 0) S.1 S.2.1 d_MD_isRow_26 (by decide) ?_
    exact w27 0 _ _ _ _ _ _ hf hI (lv_sub hl [] rfl)
  refine lv_aload_n S.1 S.2.1 d_MD_isRow_0 rfl (lv_at hl 0 rfl) ?_
  refine lv_iload_n S.1 S.2.1 d_MD_isRow_1 rfl (lv_at hl 1 rfl) ?_
  obtain ⟨⟨fs4, hefs4⟩, hf⟩ := b_is_inv hf
  obtain ⟨v1, N2, hg3, hf⟩ := b_call_inv hf
  refine x_call hI (hm_mo hg3) (va_runV (As := [.int p0]) (rest := []) S (c_MD_isPackage l hg3) (cwV 1 S.2.2.2.2 (gi_V wd_721 wd_722 wd_723 wd_564 wd_724) rfl rfl rfl (by decide +kernel) ⟨Nat.le_trans (Nat.le_of_ble_eq_true rfl) hRf.1, Nat.le_trans (Nat.le_of_ble_eq_true rfl) hRf.2⟩) ⟨hm_B.blind, va_recv hK (hI.1.one hefs4) (ci := 1) (q0 := 0) rfl rfl, fun U hU hW => ⟨rfl, hm_B.of hK hG hI hU hW⟩⟩ rfl rfl hl.1 rfl (lv_room (Nat.le_of_ble_eq_true rfl)) d_MD_isRow_2 (hx_fit hI hR (hm_mo hg3) (hm_mo hf))) (fun H locs cells slots hI => ?_)
  refine W.eq (g2 := F0 m 5 ls [.int v1]) rfl ?_
  refine lv_if_eq (tgt := 26) S.1 S.2.1 d_MD_isRow_5 (by decide) (fun hc => ?_) (fun hc => ?_)
  · have hf := b_if_t hc hf
    exact w26  _ _ _ _ _ _ hf hI (lv_sub hl [] rfl)
  · have hf := b_if_f hc hf
    refine lv_iload_n S.1 S.2.1 d_MD_isRow_8 rfl (lv_at hl 2 rfl) ?_
    refine lv_if_lt (tgt := 26) S.1 S.2.1 d_MD_isRow_9 (by decide) (fun hc => ?_) (fun hc => ?_)
    · have hf := b_if_t hc hf
      exact w26  _ _ _ _ _ _ hf hI (lv_sub hl [] rfl)
    · have hf := b_if_f hc hf
      refine lv_iload_n S.1 S.2.1 d_MD_isRow_12 rfl (lv_at hl 2 rfl) ?_
      refine lv_aload_n S.1 S.2.1 d_MD_isRow_13 rfl (lv_at hl 0 rfl) ?_
      refine x_getR (ci := 1) (k := 13) S hK hI (fun w h => List.mem_cons_of_mem _ (i_MD w h)) rfl (by decide) (List.mem_cons_of_mem _ wd_532) rfl d_MD_isRow_14 hf (fun r5 hf => ?_)
      refine lv_iload_n S.1 S.2.1 d_MD_isRow_17 rfl (lv_at hl 1 rfl) ?_
      obtain ⟨a6, ea6, hg⟩ := b_nn_inv hf
      have hI0 := hI
      have hl0 := hl
      clear hf hI hl
      subst ea6
      have hf := hg
      have hI := hI0
      have hl := hl0
      clear hg hI0 hl0
      refine x_iald (t := 2) S hK hI rfl d_MD_isRow_18 hf (fun v7 hf => ?_)
      refine lv_icmp_ge (tgt := 26) S.1 S.2.1 d_MD_isRow_19 (by decide) (fun hc => ?_) (fun hc => ?_)
      · have hf := b_if_t hc hf
        exact w26  _ _ _ _ _ _ hf hI (lv_sub hl [] rfl)
      · have hf := b_if_f hc hf
        refine lv_iconst (v := 1) S.1 S.2.1 d_MD_isRow_22 (by decide) ?_
        refine lv_goto (tgt := 27) S.1 S.2.1 d_MD_isRow_23 (by decide) ?_
        exact w27 1 _ _ _ _ _ _ hf hI (lv_sub hl [] rfl)
set_option maxHeartbeats 4000000 in
set_option maxRecDepth 100000 in
theorem c_MD_rows (l : Launch) {D : va_G} {dA : Nat → ClassId} {aK aV : Nat → Nat} {z : Nat} {N : Nat} {h0 : Nat} {p0 : Int32} {M : hM} {Z : Int32 × hM} (hf : (f_MD_rows N h0 p0).1 M = some Z) : Met l y_MD_rows w_MD_rows ({ frames := 1, cells := Z.2.2.1 - M.2.1, slots := Z.2.2.2 - M.2.2, locals := 21 }) (va_Pc [.ref h0, .int p0] (hm_B D dA hCl (hTy dA) sT aK aV z M)) (hm_Q D dA hCl (hTy dA) sT aK aV z (some (.int Z.1)) Z.2) (Z.2.2.1 - M.2.1) (Z.2.2.2 - M.2.2) (fun q => z ≤ q) := by
  refine Met.ofW (cc := b_MD_rows) (maxL := 2) (ret := (some .int)) (by decide) rfl ?_
  intro p e s m args below meth c s₁ B hml hv
  obtain ⟨hav, hB⟩ := hv
  have S : CallFix p m c b_MD_rows 2 s args w_MD_rows R_MD := ⟨B.exec, B.bytes, hml, findClass_of_methodNamed B.named, atoms_spec (ws := w_MD_rows) B.pre⟩
  have hr : meth.sig.returnType = (some .int) := B.returns
  have hlocks := B.notSynchronized
  have hK := hB.2.2.1
  have hG := hB.2.2.2.2.2
  have hI := hm_I.start hB
  rw [← hB.2.1]
  generalize M.2.2 = k1 at hI ⊢
  refine W.eq (g2 := F0 m 0 ((lg_sl ([.ref h0, .int p0]) ++ List.replicate (2 - (lg_sl ([.ref h0, .int p0])).length) Slot.unset).toArray) []) (by rw [hav]; exact lg_entry_eq m ([.ref h0, .int p0]) 2) ?_
  have hl := lv_entry ([.ref h0, .int p0]) (n := 2) (Nat.le_of_ble_eq_true rfl)
  generalize (lg_sl ([.ref h0, .int p0]) ++ List.replicate (2 - (lg_sl ([.ref h0, .int p0])).length) Slot.unset).toArray = ls at hl ⊢
  simp only [lvA_nil, lvA_i, lvA_l, lvA_a, lvA_r, Nat.zero_add, Nat.reduceAdd] at hl
  have hret : ∀ (v : Int32) (M : hM) (H : Heap) (locs : List Loc) (cells slots : Nat) (ls : Array Slot) (pc : Nat), decode b_MD_rows pc = .ok (.ireturn, 1) → (b_ret v).1 M = some Z → hm_I D dA hCl z k1 s M H locs cells slots → W p l e (headSpec w_MD_rows { frames := 1, cells := Z.2.2.1 - s.heap.size, slots := Z.2.2.2 - k1, locals := 21 }).room s m args below meth c H locs cells slots (MQ below (hm_Q D dA hCl (hTy dA) sT aK aV z (some (.int Z.1)) Z.2) args s (Z.2.2.1 - s.heap.size) (Z.2.2.2 - k1) (fun q => z ≤ q)) (F0 m pc ls [.int v]) := fun v M H locs cells slots ls pc hdg hf hI => x_reti S hK hG hI hr hlocks hdg hf
  have hR : Z.2.2.1 - s.heap.size ≤ (headSpec w_MD_rows { frames := 1, cells := Z.2.2.1 - s.heap.size, slots := Z.2.2.2 - k1, locals := 21 }).room.cells ∧ Z.2.2.2 - k1 ≤ (headSpec w_MD_rows { frames := 1, cells := Z.2.2.1 - s.heap.size, slots := Z.2.2.2 - k1, locals := 21 }).room.slots := ⟨Nat.le_refl _, Nat.le_refl _⟩
  have hRf : 1 ≤ (headSpec w_MD_rows { frames := 1, cells := Z.2.2.1 - s.heap.size, slots := Z.2.2.2 - k1, locals := 21 }).room.frames ∧ 21 ≤ (headSpec w_MD_rows { frames := 1, cells := Z.2.2.1 - s.heap.size, slots := Z.2.2.2 - k1, locals := 21 }).room.locals := ⟨Nat.le_refl _, Nat.le_refl _⟩
  generalize (headSpec w_MD_rows { frames := 1, cells := Z.2.2.1 - s.heap.size, slots := Z.2.2.2 - k1, locals := 21 }).room = R at hret hR hRf ⊢
  generalize (MQ below (hm_Q D dA hCl (hTy dA) sT aK aV z (some (.int Z.1)) Z.2) args s (Z.2.2.1 - s.heap.size) (Z.2.2.2 - k1) (fun q => z ≤ q)) = Q at hret ⊢
  rw [e_MD_rows] at hf
  obtain ⟨J23, eJ23, hf⟩ := b_let_inv hf
  have w23 : ∀ (y0 : Int32) (M : hM) (H : Heap) (locs : List Loc) (ls : Array Slot) (cells slots : Nat), (J23 y0).1 M = some Z → hm_I D dA hCl z k1 s M H locs cells slots → lv_has ls 2 [] → W p l e R s m args below meth c H locs cells slots Q (F0 m 23 ls [.int y0]) := by
    intro y0 M H locs ls cells slots hf hI hl
    rw [eJ23] at hf
    exact hret _ _ _ _ _ _ _ _ d_MD_rows_23 hf hI
  refine lv_aload_n S.1 S.2.1 d_MD_rows_0 rfl (lv_at hl 0 rfl) ?_
  refine lv_iconst (v := 0) S.1 S.2.1 d_MD_rows_1 (by decide) ?_
  refine x_put (ci := 1) (k := 0) S hK hI (fun w h => List.mem_cons_of_mem _ (i_MD w h)) t_MD t_MD_ok n_MD rfl (by decide) (List.mem_cons_of_mem _ wd_559) rfl (Or.inl rfl) (by rfl) rfl d_MD_rows_2 hf (fun M H locs hf hI => ?_)
  refine lv_aload_n S.1 S.2.1 d_MD_rows_5 rfl (lv_at hl 0 rfl) ?_
  refine lv_iload_n S.1 S.2.1 d_MD_rows_6 rfl (lv_at hl 1 rfl) ?_
  obtain ⟨⟨fs4, hefs4⟩, hf⟩ := b_is_inv hf
  obtain ⟨v1, N2, hg3, hf⟩ := b_call_inv hf
  refine x_call hI (hm_mo hg3) (va_runV (As := [.int p0]) (rest := []) S (c_MD_isPackage l hg3) (cwV 1 S.2.2.2.2 (gi_V wd_721 wd_722 wd_723 wd_564 wd_724) rfl rfl rfl (by decide +kernel) ⟨Nat.le_trans (Nat.le_of_ble_eq_true rfl) hRf.1, Nat.le_trans (Nat.le_of_ble_eq_true rfl) hRf.2⟩) ⟨hm_B.blind, va_recv hK (hI.1.one hefs4) (ci := 1) (q0 := 0) rfl rfl, fun U hU hW => ⟨rfl, hm_B.of hK hG hI hU hW⟩⟩ rfl rfl hl.1 rfl (lv_room (Nat.le_of_ble_eq_true rfl)) d_MD_rows_7 (hx_fit hI hR (hm_mo hg3) (hm_mo hf))) (fun H locs cells slots hI => ?_)
  refine W.eq (g2 := F0 m 10 ls [.int v1]) rfl ?_
  refine lv_if_eq (tgt := 22) S.1 S.2.1 d_MD_rows_10 (by decide) (fun hc => ?_) (fun hc => ?_)
  · have hf := b_if_t hc hf
    refine lv_iconst (v := (-1)) S.1 S.2.1 d_MD_rows_22 (by decide) ?_
    exact w23 (-1) _ _ _ _ _ _ hf hI (lv_sub hl [] rfl)
  · have hf := b_if_f hc hf
    refine lv_aload_n S.1 S.2.1 d_MD_rows_13 rfl (lv_at hl 0 rfl) ?_
    refine x_getR (ci := 1) (k := 13) S hK hI (fun w h => List.mem_cons_of_mem _ (i_MD w h)) rfl (by decide) (List.mem_cons_of_mem _ wd_532) rfl d_MD_rows_14 hf (fun r5 hf => ?_)
    refine lv_iload_n S.1 S.2.1 d_MD_rows_17 rfl (lv_at hl 1 rfl) ?_
    obtain ⟨a6, ea6, hg⟩ := b_nn_inv hf
    have hI0 := hI
    have hl0 := hl
    clear hf hI hl
    subst ea6
    have hf := hg
    have hI := hI0
    have hl := hl0
    clear hg hI0 hl0
    refine x_iald (t := 2) S hK hI rfl d_MD_rows_18 hf (fun v7 hf => ?_)
    refine lv_goto (tgt := 23) S.1 S.2.1 d_MD_rows_19 (by decide) ?_
    exact w23 v7 _ _ _ _ _ _ hf hI (lv_sub hl [] rfl)
set_option maxHeartbeats 4000000 in
set_option maxRecDepth 100000 in
theorem c_MD_isOptional (l : Launch) {D : va_G} {dA : Nat → ClassId} {aK aV : Nat → Nat} {z : Nat} {N : Nat} {h0 : Nat} {p0 : Int32} {p1 : Int32} {M : hM} {Z : Int32 × hM} (hf : (f_MD_isOptional N h0 p0 p1).1 M = some Z) : Met l y_MD_isOptional w_MD_isOptional ({ frames := 3, cells := Z.2.2.1 - M.2.1, slots := Z.2.2.2 - M.2.2, locals := 75 }) (va_Pc [.ref h0, .int p0, .int p1] (hm_B D dA hCl (hTy dA) sT aK aV z M)) (hm_Q D dA hCl (hTy dA) sT aK aV z (some (.int Z.1)) Z.2) (Z.2.2.1 - M.2.1) (Z.2.2.2 - M.2.2) (fun q => z ≤ q) := by
  refine Met.ofW (cc := b_MD_isOptional) (maxL := 4) (ret := (some .boolean)) (by decide) rfl ?_
  intro p e s m args below meth c s₁ B hml hv
  obtain ⟨hav, hB⟩ := hv
  have S : CallFix p m c b_MD_isOptional 4 s args w_MD_isOptional R_MD := ⟨B.exec, B.bytes, hml, findClass_of_methodNamed B.named, atoms_spec (ws := w_MD_isOptional) B.pre⟩
  have hr : meth.sig.returnType = (some .boolean) := B.returns
  have hlocks := B.notSynchronized
  have hK := hB.2.2.1
  have hG := hB.2.2.2.2.2
  have hI := hm_I.start hB
  rw [← hB.2.1]
  generalize M.2.2 = k1 at hI ⊢
  refine W.eq (g2 := F0 m 0 ((lg_sl ([.ref h0, .int p0, .int p1]) ++ List.replicate (4 - (lg_sl ([.ref h0, .int p0, .int p1])).length) Slot.unset).toArray) []) (by rw [hav]; exact lg_entry_eq m ([.ref h0, .int p0, .int p1]) 4) ?_
  have hl := lv_entry ([.ref h0, .int p0, .int p1]) (n := 4) (Nat.le_of_ble_eq_true rfl)
  generalize (lg_sl ([.ref h0, .int p0, .int p1]) ++ List.replicate (4 - (lg_sl ([.ref h0, .int p0, .int p1])).length) Slot.unset).toArray = ls at hl ⊢
  simp only [lvA_nil, lvA_i, lvA_l, lvA_a, lvA_r, Nat.zero_add, Nat.reduceAdd] at hl
  have hret : ∀ (v : Int32) (M : hM) (H : Heap) (locs : List Loc) (cells slots : Nat) (ls : Array Slot) (pc : Nat), decode b_MD_isOptional pc = .ok (.ireturn, 1) → (b_retN .boolean v).1 M = some Z → hm_I D dA hCl z k1 s M H locs cells slots → W p l e (headSpec w_MD_isOptional { frames := 3, cells := Z.2.2.1 - s.heap.size, slots := Z.2.2.2 - k1, locals := 75 }).room s m args below meth c H locs cells slots (MQ below (hm_Q D dA hCl (hTy dA) sT aK aV z (some (.int Z.1)) Z.2) args s (Z.2.2.1 - s.heap.size) (Z.2.2.2 - k1) (fun q => z ≤ q)) (F0 m pc ls [.int v]) := fun v M H locs cells slots ls pc hdg hf hI => x_retn S hK hG hI hr hlocks hdg hf
  have hR : Z.2.2.1 - s.heap.size ≤ (headSpec w_MD_isOptional { frames := 3, cells := Z.2.2.1 - s.heap.size, slots := Z.2.2.2 - k1, locals := 75 }).room.cells ∧ Z.2.2.2 - k1 ≤ (headSpec w_MD_isOptional { frames := 3, cells := Z.2.2.1 - s.heap.size, slots := Z.2.2.2 - k1, locals := 75 }).room.slots := ⟨Nat.le_refl _, Nat.le_refl _⟩
  have hRf : 3 ≤ (headSpec w_MD_isOptional { frames := 3, cells := Z.2.2.1 - s.heap.size, slots := Z.2.2.2 - k1, locals := 75 }).room.frames ∧ 75 ≤ (headSpec w_MD_isOptional { frames := 3, cells := Z.2.2.1 - s.heap.size, slots := Z.2.2.2 - k1, locals := 75 }).room.locals := ⟨Nat.le_refl _, Nat.le_refl _⟩
  generalize (headSpec w_MD_isOptional { frames := 3, cells := Z.2.2.1 - s.heap.size, slots := Z.2.2.2 - k1, locals := 75 }).room = R at hret hR hRf ⊢
  generalize (MQ below (hm_Q D dA hCl (hTy dA) sT aK aV z (some (.int Z.1)) Z.2) args s (Z.2.2.1 - s.heap.size) (Z.2.2.2 - k1) (fun q => z ≤ q)) = Q at hret ⊢
  rw [e_MD_isOptional] at hf
  have w6 : ∀ (n : Nat) (x3 : Int32) (M : hM) (H : Heap) (locs : List Loc) (ls : Array Slot) (cells slots : Nat), (f_MD_isOptional_6 N h0 p0 p1  n x3).1 M = some Z → hm_I D dA hCl z k1 s M H locs cells slots → lv_has ls 4 [(0, .ref h0), (1, .int p0), (2, .int p1), (3, .int x3)] → W p l e R s m args below meth c H locs cells slots Q (F0 m 6 ls []) := by
    intro n
    induction n with
    | zero => intro x3 M H locs ls cells slots hf hI hl; cases hf
    | succ n6 ih6 =>
      intro x3 M H locs ls cells slots hf hI hl
      rw [e_MD_isOptional_6] at hf
      obtain ⟨J69, eJ69, hf⟩ := b_let_inv hf
      have w69 : ∀ (x3 : Int32) (M : hM) (H : Heap) (locs : List Loc) (ls : Array Slot) (cells slots : Nat), (J69 x3).1 M = some Z → hm_I D dA hCl z k1 s M H locs cells slots → lv_has ls 4 [(0, .ref h0), (1, .int p0), (2, .int p1), (3, .int x3)] → W p l e R s m args below meth c H locs cells slots Q (F0 m 69 ls []) := by
        intro x3 M H locs ls cells slots hf hI hl
        rw [eJ69] at hf
        refine x_iinc (v := 1) (lv2 := [(0, .ref h0), (1, .int p0), (2, .int p1)]) S d_MD_isOptional_69 hl 3 rfl (by decide) (by decide) [0, 1, 2] rfl ⟨⟨(by decide : (0 : Nat) ≠ 3), fun h => absurd (show (0 : Nat) + 1 = 3 from h) (by decide)⟩, ⟨⟨(by decide : (1 : Nat) ≠ 3), fun h => absurd (show (1 : Nat) + 1 = 3 from h) (by decide)⟩, ⟨⟨(by decide : (2 : Nat) ≠ 3), fun _ => rfl⟩, trivial⟩⟩⟩ (fun ls hl => ?_)
        refine lv_goto (tgt := 6) S.1 S.2.1 d_MD_isOptional_72 (by decide) ?_
        exact ih6 (x3 + 1) _ _ _ _ _ _ hf hI (lv_sub hl [1, 2, 3, 0] rfl)
      refine lv_iload_n S.1 S.2.1 d_MD_isOptional_6 rfl (lv_at hl 3 rfl) ?_
      refine lv_sipush (v := 200) S.1 S.2.1 d_MD_isOptional_7 (by decide) ?_
      refine lv_iload_n S.1 S.2.1 d_MD_isOptional_10 rfl (lv_at hl 1 rfl) ?_
      refine lv_imul S.1 S.2.1 d_MD_isOptional_11 ?_
      refine lv_aload_n S.1 S.2.1 d_MD_isOptional_12 rfl (lv_at hl 0 rfl) ?_
      refine x_getR (ci := 1) (k := 13) S hK hI (fun w h => List.mem_cons_of_mem _ (i_MD w h)) rfl (by decide) (List.mem_cons_of_mem _ wd_532) rfl d_MD_isOptional_13 hf (fun r1 hf => ?_)
      refine lv_iload_n S.1 S.2.1 d_MD_isOptional_16 rfl (lv_at hl 1 rfl) ?_
      obtain ⟨a2, ea2, hg⟩ := b_nn_inv hf
      have hI0 := hI
      have hl0 := hl
      clear hf hI hl
      subst ea2
      have hf := hg
      have hI := hI0
      have hl := hl0
      clear hg hI0 hl0
      refine x_iald (t := 2) S hK hI rfl d_MD_isOptional_17 hf (fun v3 hf => ?_)
      refine lv_iadd S.1 S.2.1 d_MD_isOptional_18 ?_
      refine lv_icmp_ge (tgt := 75) S.1 S.2.1 d_MD_isOptional_19 (by decide) (fun hc => ?_) (fun hc => ?_)
      · have hf := b_if_t hc hf
        refine lv_iconst (v := 0) S.1 S.2.1 d_MD_isOptional_75 (by decide) ?_
        exact hret _ _ _ _ _ _ _ _ d_MD_isOptional_76 hf hI
      · have hf := b_if_f hc hf
        refine lv_aload_n S.1 S.2.1 d_MD_isOptional_22 rfl (lv_at hl 0 rfl) ?_
        refine x_getR (ci := 1) (k := 19) S hK hI (fun w h => List.mem_cons_of_mem _ (i_MD w h)) rfl (by decide) (List.mem_cons_of_mem _ wd_539) rfl d_MD_isOptional_23 hf (fun r4 hf => ?_)
        refine lv_iload_n S.1 S.2.1 d_MD_isOptional_26 rfl (lv_at hl 3 rfl) ?_
        obtain ⟨a5, ea5, hg⟩ := b_nn_inv hf
        have hI0 := hI
        have hl0 := hl
        clear hf hI hl
        subst ea5
        have hf := hg
        have hI := hI0
        have hl := hl0
        clear hg hI0 hl0
        refine x_bald (t := 6) S hK hI rfl d_MD_isOptional_27 hf (fun v6 hf => ?_)
        refine lv_iconst (v := 3) S.1 S.2.1 d_MD_isOptional_28 (by decide) ?_
        refine lv_icmp_ne (tgt := 69) S.1 S.2.1 d_MD_isOptional_29 (by decide) (fun hc => ?_) (fun hc => ?_)
        · have hf := b_if_f hc hf
          exact w69 x3 _ _ _ _ _ _ hf hI (lv_sub hl [0, 1, 2, 3] rfl)
        · have hf := b_if_t hc hf
          refine lv_aload_n S.1 S.2.1 d_MD_isOptional_32 rfl (lv_at hl 0 rfl) ?_
          refine lv_aload_n S.1 S.2.1 d_MD_isOptional_33 rfl (lv_at hl 0 rfl) ?_
          refine x_getR (ci := 1) (k := 23) S hK hI (fun w h => List.mem_cons_of_mem _ (i_MD w h)) rfl (by decide) (List.mem_cons_of_mem _ wd_544) rfl d_MD_isOptional_34 hf (fun r7 hf => ?_)
          refine lv_bipush (v := 20) S.1 S.2.1 d_MD_isOptional_37 (by decide) ?_
          refine lv_iload_n S.1 S.2.1 d_MD_isOptional_39 rfl (lv_at hl 3 rfl) ?_
          refine lv_imul S.1 S.2.1 d_MD_isOptional_40 ?_
          refine lv_aload_n S.1 S.2.1 d_MD_isOptional_41 rfl (lv_at hl 0 rfl) ?_
          refine x_getR (ci := 1) (k := 21) S hK hI (fun w h => List.mem_cons_of_mem _ (i_MD w h)) rfl (by decide) (List.mem_cons_of_mem _ wd_541) rfl d_MD_isOptional_42 hf (fun r8 hf => ?_)
          refine lv_iload_n S.1 S.2.1 d_MD_isOptional_45 rfl (lv_at hl 3 rfl) ?_
          obtain ⟨a9, ea9, hg⟩ := b_nn_inv hf
          have hI0 := hI
          have hl0 := hl
          clear hf hI hl
          subst ea9
          have hf := hg
          have hI := hI0
          have hl := hl0
          clear hg hI0 hl0
          refine x_iald (t := 2) S hK hI rfl d_MD_isOptional_46 hf (fun v10 hf => ?_)
          refine lv_aload_n S.1 S.2.1 d_MD_isOptional_47 rfl (lv_at hl 0 rfl) ?_
          refine x_getR (ci := 1) (k := 23) S hK hI (fun w h => List.mem_cons_of_mem _ (i_MD w h)) rfl (by decide) (List.mem_cons_of_mem _ wd_544) rfl d_MD_isOptional_48 hf (fun r11 hf => ?_)
          refine lv_bipush (v := 20) S.1 S.2.1 d_MD_isOptional_51 (by decide) ?_
          refine lv_iload_n S.1 S.2.1 d_MD_isOptional_53 rfl (lv_at hl 2 rfl) ?_
          refine lv_imul S.1 S.2.1 d_MD_isOptional_54 ?_
          refine lv_aload_n S.1 S.2.1 d_MD_isOptional_55 rfl (lv_at hl 0 rfl) ?_
          refine x_getR (ci := 1) (k := 21) S hK hI (fun w h => List.mem_cons_of_mem _ (i_MD w h)) rfl (by decide) (List.mem_cons_of_mem _ wd_541) rfl d_MD_isOptional_56 hf (fun r12 hf => ?_)
          refine lv_iload_n S.1 S.2.1 d_MD_isOptional_59 rfl (lv_at hl 2 rfl) ?_
          obtain ⟨a13, ea13, hg⟩ := b_nn_inv hf
          have hI0 := hI
          have hl0 := hl
          clear hf hI hl
          subst ea13
          have hf := hg
          have hI := hI0
          have hl := hl0
          clear hg hI0 hl0
          refine x_iald (t := 2) S hK hI rfl d_MD_isOptional_60 hf (fun v14 hf => ?_)
          obtain ⟨⟨fs18, hefs18⟩, hf⟩ := b_is_inv hf
          obtain ⟨v15, N16, hg17, hf⟩ := b_call_inv hf
          refine x_call hI (hm_mo hg17) (va_runV (As := [va_rf r7, .int (20 * x3), .int v10, va_rf r11, .int (20 * p1), .int v14]) (rest := []) S (c_MD_compare l hg17) (cwV 6 S.2.2.2.2 (gi_V wd_684 wd_685 wd_686 wd_564 wd_687) rfl rfl rfl (by decide +kernel) ⟨Nat.le_trans (Nat.le_of_ble_eq_true rfl) hRf.1, Nat.le_trans (Nat.le_of_ble_eq_true rfl) hRf.2⟩) ⟨hm_B.blind, va_recv hK (hI.1.one hefs18) (ci := 1) (q0 := 0) rfl rfl, fun U hU hW => ⟨rfl, hm_B.of hK hG hI hU hW⟩⟩ rfl rfl hl.1 rfl (lv_room (Nat.le_of_ble_eq_true rfl)) d_MD_isOptional_61 (hx_fit hI hR (hm_mo hg17) (hm_mo hf))) (fun H locs cells slots hI => ?_)
          refine W.eq (g2 := F0 m 64 ls [.int v15]) rfl ?_
          refine lv_if_ne (tgt := 69) S.1 S.2.1 d_MD_isOptional_64 (by decide) (fun hc => ?_) (fun hc => ?_)
          · have hf := b_if_f hc hf
            exact w69 x3 _ _ _ _ _ _ hf hI (lv_sub hl [0, 1, 2, 3] rfl)
          · have hf := b_if_t hc hf
            refine lv_iconst (v := 1) S.1 S.2.1 d_MD_isOptional_67 (by decide) ?_
            exact hret _ _ _ _ _ _ _ _ d_MD_isOptional_68 hf hI
  refine lv_sipush (v := 200) S.1 S.2.1 d_MD_isOptional_0 (by decide) ?_
  refine lv_iload_n S.1 S.2.1 d_MD_isOptional_3 rfl (lv_at hl 1 rfl) ?_
  refine lv_imul S.1 S.2.1 d_MD_isOptional_4 ?_
  refine x_istore_n (lv2 := [(0, .ref h0), (1, .int p0), (2, .int p1)]) S d_MD_isOptional_5 rfl hl (by decide) [0, 1, 2] rfl ⟨⟨(by decide : (0 : Nat) ≠ 3), fun h => absurd (show (0 : Nat) + 1 = 3 from h) (by decide)⟩, ⟨⟨(by decide : (1 : Nat) ≠ 3), fun h => absurd (show (1 : Nat) + 1 = 3 from h) (by decide)⟩, ⟨⟨(by decide : (2 : Nat) ≠ 3), fun _ => rfl⟩, trivial⟩⟩⟩ (fun ls hl => ?_)
  exact w6 N (200 * p0) _ _ _ _ _ _ hf hI (lv_sub hl [1, 2, 3, 0] rfl)
set_option maxHeartbeats 4000000 in
set_option maxRecDepth 100000 in
theorem c_MD_why (l : Launch) {D : va_G} {dA : Nat → ClassId} {aK aV : Nat → Nat} {z : Nat} {N : Nat} {h0 : Nat} {p0 : Int32} {p1 : Int32} {M : hM} {Z : Int32 × hM} (hf : (f_MD_why N h0 p0 p1).1 M = some Z) : Met l y_MD_why w_MD_why ({ frames := 4, cells := Z.2.2.1 - M.2.1, slots := Z.2.2.2 - M.2.2, locals := 100 }) (va_Pc [.ref h0, .int p0, .int p1] (hm_B D dA hCl (hTy dA) sT aK aV z M)) (hm_Q D dA hCl (hTy dA) sT aK aV z (some (.int Z.1)) Z.2) (Z.2.2.1 - M.2.1) (Z.2.2.2 - M.2.2) (fun q => z ≤ q) := by
  refine Met.ofW (cc := b_MD_why) (maxL := 4) (ret := (some .int)) (by decide) rfl ?_
  intro p e s m args below meth c s₁ B hml hv
  obtain ⟨hav, hB⟩ := hv
  have S : CallFix p m c b_MD_why 4 s args w_MD_why R_MD := ⟨B.exec, B.bytes, hml, findClass_of_methodNamed B.named, atoms_spec (ws := w_MD_why) B.pre⟩
  have hr : meth.sig.returnType = (some .int) := B.returns
  have hlocks := B.notSynchronized
  have hK := hB.2.2.1
  have hG := hB.2.2.2.2.2
  have hI := hm_I.start hB
  rw [← hB.2.1]
  generalize M.2.2 = k1 at hI ⊢
  refine W.eq (g2 := F0 m 0 ((lg_sl ([.ref h0, .int p0, .int p1]) ++ List.replicate (4 - (lg_sl ([.ref h0, .int p0, .int p1])).length) Slot.unset).toArray) []) (by rw [hav]; exact lg_entry_eq m ([.ref h0, .int p0, .int p1]) 4) ?_
  have hl := lv_entry ([.ref h0, .int p0, .int p1]) (n := 4) (Nat.le_of_ble_eq_true rfl)
  generalize (lg_sl ([.ref h0, .int p0, .int p1]) ++ List.replicate (4 - (lg_sl ([.ref h0, .int p0, .int p1])).length) Slot.unset).toArray = ls at hl ⊢
  simp only [lvA_nil, lvA_i, lvA_l, lvA_a, lvA_r, Nat.zero_add, Nat.reduceAdd] at hl
  have hret : ∀ (v : Int32) (M : hM) (H : Heap) (locs : List Loc) (cells slots : Nat) (ls : Array Slot) (pc : Nat), decode b_MD_why pc = .ok (.ireturn, 1) → (b_ret v).1 M = some Z → hm_I D dA hCl z k1 s M H locs cells slots → W p l e (headSpec w_MD_why { frames := 4, cells := Z.2.2.1 - s.heap.size, slots := Z.2.2.2 - k1, locals := 100 }).room s m args below meth c H locs cells slots (MQ below (hm_Q D dA hCl (hTy dA) sT aK aV z (some (.int Z.1)) Z.2) args s (Z.2.2.1 - s.heap.size) (Z.2.2.2 - k1) (fun q => z ≤ q)) (F0 m pc ls [.int v]) := fun v M H locs cells slots ls pc hdg hf hI => x_reti S hK hG hI hr hlocks hdg hf
  have hR : Z.2.2.1 - s.heap.size ≤ (headSpec w_MD_why { frames := 4, cells := Z.2.2.1 - s.heap.size, slots := Z.2.2.2 - k1, locals := 100 }).room.cells ∧ Z.2.2.2 - k1 ≤ (headSpec w_MD_why { frames := 4, cells := Z.2.2.1 - s.heap.size, slots := Z.2.2.2 - k1, locals := 100 }).room.slots := ⟨Nat.le_refl _, Nat.le_refl _⟩
  have hRf : 4 ≤ (headSpec w_MD_why { frames := 4, cells := Z.2.2.1 - s.heap.size, slots := Z.2.2.2 - k1, locals := 100 }).room.frames ∧ 100 ≤ (headSpec w_MD_why { frames := 4, cells := Z.2.2.1 - s.heap.size, slots := Z.2.2.2 - k1, locals := 100 }).room.locals := ⟨Nat.le_refl _, Nat.le_refl _⟩
  generalize (headSpec w_MD_why { frames := 4, cells := Z.2.2.1 - s.heap.size, slots := Z.2.2.2 - k1, locals := 100 }).room = R at hret hR hRf ⊢
  generalize (MQ below (hm_Q D dA hCl (hTy dA) sT aK aV z (some (.int Z.1)) Z.2) args s (Z.2.2.1 - s.heap.size) (Z.2.2.2 - k1) (fun q => z ≤ q)) = Q at hret ⊢
  rw [e_MD_why] at hf
  obtain ⟨J55, eJ55, hf⟩ := b_let_inv hf
  have w55 : ∀ (x3 : Int32) (M : hM) (H : Heap) (locs : List Loc) (ls : Array Slot) (cells slots : Nat), (J55 x3).1 M = some Z → hm_I D dA hCl z k1 s M H locs cells slots → lv_has ls 4 [(0, .ref h0), (1, .int p0), (2, .int p1), (3, .int x3)] → W p l e R s m args below meth c H locs cells slots Q (F0 m 55 ls []) := by
    intro x3 M H locs ls cells slots hf hI hl
    rw [eJ55] at hf
    obtain ⟨J85, eJ85, hf⟩ := b_let_inv hf
    have w85 : ∀ (x3 : Int32) (M : hM) (H : Heap) (locs : List Loc) (ls : Array Slot) (cells slots : Nat), (J85 x3).1 M = some Z → hm_I D dA hCl z k1 s M H locs cells slots → lv_has ls 4 [(0, .ref h0), (1, .int p0), (2, .int p1), (3, .int x3)] → W p l e R s m args below meth c H locs cells slots Q (F0 m 85 ls []) := by
      intro x3 M H locs ls cells slots hf hI hl
      rw [eJ85] at hf
      obtain ⟨J124, eJ124, hf⟩ := b_let_inv hf
      have w124 : ∀  (M : hM) (H : Heap) (locs : List Loc) (ls : Array Slot) (cells slots : Nat), (J124).1 M = some Z → hm_I D dA hCl z k1 s M H locs cells slots → lv_has ls 4 [(0, .ref h0), (2, .int p1)] → W p l e R s m args below meth c H locs cells slots Q (F0 m 124 ls []) := by
        intro M H locs ls cells slots hf hI hl
        rw [eJ124] at hf
        obtain ⟨J138, eJ138, hf⟩ := b_let_inv hf
        have w138 : ∀ (y0 : Int32) (M : hM) (H : Heap) (locs : List Loc) (ls : Array Slot) (cells slots : Nat), (J138 y0).1 M = some Z → hm_I D dA hCl z k1 s M H locs cells slots → lv_has ls 4 [] → W p l e R s m args below meth c H locs cells slots Q (F0 m 138 ls [.int y0]) := by
          intro y0 M H locs ls cells slots hf hI hl
          rw [eJ138] at hf
          exact hret _ _ _ _ _ _ _ _ d_MD_why_138 hf hI
        refine lv_aload_n S.1 S.2.1 d_MD_why_124 rfl (lv_at hl 0 rfl) ?_
        refine x_getR (ci := 1) (k := 27) S hK hI (fun w h => List.mem_cons_of_mem _ (i_MD w h)) rfl (by decide) (List.mem_cons_of_mem _ wd_548) rfl d_MD_why_125 hf (fun r1 hf => ?_)
        refine lv_iload_n S.1 S.2.1 d_MD_why_128 rfl (lv_at hl 1 rfl) ?_
        obtain ⟨a2, ea2, hg⟩ := b_nn_inv hf
        have hI0 := hI
        have hl0 := hl
        clear hf hI hl
        subst ea2
        have hf := hg
        have hI := hI0
        have hl := hl0
        clear hg hI0 hl0
        refine x_zald (t := 5) S hK hI rfl d_MD_why_129 hf (fun v3 hf => ?_)
        refine lv_if_eq (tgt := 137) S.1 S.2.1 d_MD_why_130 (by decide) (fun hc => ?_) (fun hc => ?_)
        · have hf := b_if_t hc hf
          refine lv_iconst (v := 0) S.1 S.2.1 d_MD_why_137 (by decide) ?_
          exact w138 0 _ _ _ _ _ _ hf hI (lv_sub hl [] rfl)
        · have hf := b_if_f hc hf
          refine lv_iconst (v := 4) S.1 S.2.1 d_MD_why_133 (by decide) ?_
          refine lv_goto (tgt := 138) S.1 S.2.1 d_MD_why_134 (by decide) ?_
          exact w138 4 _ _ _ _ _ _ hf hI (lv_sub hl [] rfl)
      refine lv_iload_n S.1 S.2.1 d_MD_why_85 rfl (lv_at hl 3 rfl) ?_
      refine lv_bipush (v := 9) S.1 S.2.1 d_MD_why_86 (by decide) ?_
      refine lv_icmp_ne (tgt := 124) S.1 S.2.1 d_MD_why_88 (by decide) (fun hc => ?_) (fun hc => ?_)
      · have hf := b_if_f hc hf
        exact w124  _ _ _ _ _ _ hf hI (lv_sub hl [0, 2] rfl)
      · have hf := b_if_t hc hf
        refine lv_aload_n S.1 S.2.1 d_MD_why_91 rfl (lv_at hl 0 rfl) ?_
        refine lv_iload_n S.1 S.2.1 d_MD_why_92 rfl (lv_at hl 1 rfl) ?_
        refine lv_aload_n S.1 S.2.1 d_MD_why_93 rfl (lv_at hl 0 rfl) ?_
        refine x_getR (ci := 1) (k := 23) S hK hI (fun w h => List.mem_cons_of_mem _ (i_MD w h)) rfl (by decide) (List.mem_cons_of_mem _ wd_544) rfl d_MD_why_94 hf (fun r4 hf => ?_)
        refine lv_bipush (v := 20) S.1 S.2.1 d_MD_why_97 (by decide) ?_
        refine lv_iload_n S.1 S.2.1 d_MD_why_99 rfl (lv_at hl 2 rfl) ?_
        refine lv_imul S.1 S.2.1 d_MD_why_100 ?_
        refine lv_aload_n S.1 S.2.1 d_MD_why_101 rfl (lv_at hl 0 rfl) ?_
        refine x_getR (ci := 1) (k := 21) S hK hI (fun w h => List.mem_cons_of_mem _ (i_MD w h)) rfl (by decide) (List.mem_cons_of_mem _ wd_541) rfl d_MD_why_102 hf (fun r5 hf => ?_)
        refine lv_iload_n S.1 S.2.1 d_MD_why_105 rfl (lv_at hl 2 rfl) ?_
        obtain ⟨a6, ea6, hg⟩ := b_nn_inv hf
        have hI0 := hI
        have hl0 := hl
        clear hf hI hl
        subst ea6
        have hf := hg
        have hI := hI0
        have hl := hl0
        clear hg hI0 hl0
        refine x_iald (t := 2) S hK hI rfl d_MD_why_106 hf (fun v7 hf => ?_)
        obtain ⟨⟨fs11, hefs11⟩, hf⟩ := b_is_inv hf
        obtain ⟨v8, N9, hg10, hf⟩ := b_call_inv hf
        refine x_call hI (hm_mo hg10) (va_runV (As := [.int p0, va_rf r4, .int (20 * p1), .int v7]) (rest := []) S (c_MD_isFeature l hg10) (cwV 4 S.2.2.2.2 (gi_V wd_688 wd_689 wd_690 wd_564 wd_691) rfl rfl rfl (by decide +kernel) ⟨Nat.le_trans (Nat.le_of_ble_eq_true rfl) hRf.1, Nat.le_trans (Nat.le_of_ble_eq_true rfl) hRf.2⟩) ⟨hm_B.blind, va_recv hK (hI.1.one hefs11) (ci := 1) (q0 := 0) rfl rfl, fun U hU hW => ⟨rfl, hm_B.of hK hG hI hU hW⟩⟩ rfl rfl hl.1 rfl (lv_room (Nat.le_of_ble_eq_true rfl)) d_MD_why_107 (hx_fit hI hR (hm_mo hg10) (hm_mo hf))) (fun H locs cells slots hI => ?_)
        refine W.eq (g2 := F0 m 110 ls [.int v8]) rfl ?_
        refine lv_if_ne (tgt := 124) S.1 S.2.1 d_MD_why_110 (by decide) (fun hc => ?_) (fun hc => ?_)
        · have hf := b_if_f hc hf
          exact w124  _ _ _ _ _ _ hf hI (lv_sub hl [0, 2] rfl)
        · have hf := b_if_t hc hf
          refine lv_aload_n S.1 S.2.1 d_MD_why_113 rfl (lv_at hl 0 rfl) ?_
          refine lv_iload_n S.1 S.2.1 d_MD_why_114 rfl (lv_at hl 1 rfl) ?_
          refine lv_iload_n S.1 S.2.1 d_MD_why_115 rfl (lv_at hl 2 rfl) ?_
          obtain ⟨⟨fs15, hefs15⟩, hf⟩ := b_is_inv hf
          obtain ⟨v12, N13, hg14, hf⟩ := b_call_inv hf
          refine x_call hI (hm_mo hg14) (va_runV (As := [.int p0, .int p1]) (rest := []) S (c_MD_isOptional l hg14) (cwV 2 S.2.2.2.2 (gi_V wd_725 wd_726 wd_727 wd_564 wd_728) rfl rfl rfl (by decide +kernel) ⟨Nat.le_trans (Nat.le_of_ble_eq_true rfl) hRf.1, Nat.le_trans (Nat.le_of_ble_eq_true rfl) hRf.2⟩) ⟨hm_B.blind, va_recv hK (hI.1.one hefs15) (ci := 1) (q0 := 0) rfl rfl, fun U hU hW => ⟨rfl, hm_B.of hK hG hI hU hW⟩⟩ rfl rfl hl.1 rfl (lv_room (Nat.le_of_ble_eq_true rfl)) d_MD_why_116 (hx_fit hI hR (hm_mo hg14) (hm_mo hf))) (fun H locs cells slots hI => ?_)
          refine W.eq (g2 := F0 m 119 ls [.int v12]) rfl ?_
          refine lv_if_ne (tgt := 124) S.1 S.2.1 d_MD_why_119 (by decide) (fun hc => ?_) (fun hc => ?_)
          · have hf := b_if_f hc hf
            exact w124  _ _ _ _ _ _ hf hI (lv_sub hl [0, 2] rfl)
          · have hf := b_if_t hc hf
            refine lv_iconst (v := 3) S.1 S.2.1 d_MD_why_122 (by decide) ?_
            exact hret _ _ _ _ _ _ _ _ d_MD_why_123 hf hI
    obtain ⟨J67, eJ67, hf⟩ := b_let_inv hf
    have w67 : ∀ (x3 : Int32) (M : hM) (H : Heap) (locs : List Loc) (ls : Array Slot) (cells slots : Nat), (J67 x3).1 M = some Z → hm_I D dA hCl z k1 s M H locs cells slots → lv_has ls 4 [(0, .ref h0), (1, .int p0), (2, .int p1), (3, .int x3)] → W p l e R s m args below meth c H locs cells slots Q (F0 m 67 ls []) := by
      intro x3 M H locs ls cells slots hf hI hl
      rw [eJ67] at hf
      refine lv_aload_n S.1 S.2.1 d_MD_why_67 rfl (lv_at hl 0 rfl) ?_
      refine x_getR (ci := 1) (k := 25) S hK hI (fun w h => List.mem_cons_of_mem _ (i_MD w h)) rfl (by decide) (List.mem_cons_of_mem _ wd_546) rfl d_MD_why_68 hf (fun r16 hf => ?_)
      refine lv_iload_n S.1 S.2.1 d_MD_why_71 rfl (lv_at hl 2 rfl) ?_
      obtain ⟨a17, ea17, hg⟩ := b_nn_inv hf
      have hI0 := hI
      have hl0 := hl
      clear hf hI hl
      subst ea17
      have hf := hg
      have hI := hI0
      have hl := hl0
      clear hg hI0 hl0
      refine x_lald (t := 7) S hK hI rfl d_MD_why_72 hf (fun v18 hf => ?_)
      refine lv_aload_n S.1 S.2.1 d_MD_why_73 rfl (lv_at hl 0 rfl) ?_
      refine x_getR (ci := 1) (k := 26) S hK hI (fun w h => List.mem_cons_of_mem _ (i_MD w h)) rfl (by decide) (List.mem_cons_of_mem _ wd_547) rfl d_MD_why_74 hf (fun r19 hf => ?_)
      refine lv_iload_n S.1 S.2.1 d_MD_why_77 rfl (lv_at hl 2 rfl) ?_
      obtain ⟨a20, ea20, hg⟩ := b_nn_inv hf
      have hI0 := hI
      have hl0 := hl
      clear hf hI hl
      subst ea20
      have hf := hg
      have hI := hI0
      have hl := hl0
      clear hg hI0 hl0
      refine x_lald (t := 7) S hK hI rfl d_MD_why_78 hf (fun v21 hf => ?_)
      refine W.lcmp S.1 S.2.1 d_MD_why_79 ?_
      refine lv_if_lt (tgt := 85) S.1 S.2.1 d_MD_why_80 (by decide) (fun hc => ?_) (fun hc => ?_)
      · have hf := b_if_t hc hf
        exact w85 x3 _ _ _ _ _ _ hf hI (lv_sub hl [0, 1, 2, 3] rfl)
      · have hf := b_if_f hc hf
        refine lv_iconst (v := 2) S.1 S.2.1 d_MD_why_83 (by decide) ?_
        exact hret _ _ _ _ _ _ _ _ d_MD_why_84 hf hI
    refine lv_iload_n S.1 S.2.1 d_MD_why_55 rfl (lv_at hl 3 rfl) ?_
    refine lv_bipush (v := 7) S.1 S.2.1 d_MD_why_56 (by decide) ?_
    refine lv_icmp_lt (tgt := 67) S.1 S.2.1 d_MD_why_58 (by decide) (fun hc => ?_) (fun hc => ?_)
    · have hf := b_if_t hc hf
      exact w67 x3 _ _ _ _ _ _ hf hI (lv_sub hl [0, 1, 2, 3] rfl)
    · have hf := b_if_f hc hf
      refine lv_iload_n S.1 S.2.1 d_MD_why_61 rfl (lv_at hl 3 rfl) ?_
      refine lv_bipush (v := 8) S.1 S.2.1 d_MD_why_62 (by decide) ?_
      refine lv_icmp_ne (tgt := 85) S.1 S.2.1 d_MD_why_64 (by decide) (fun hc => ?_) (fun hc => ?_)
      · have hf := b_if_f hc hf
        exact w85 x3 _ _ _ _ _ _ hf hI (lv_sub hl [0, 1, 2, 3] rfl)
      · have hf := b_if_t hc hf
        exact w67 x3 _ _ _ _ _ _ hf hI (lv_sub hl [0, 1, 2, 3] rfl)
  obtain ⟨J18, eJ18, hf⟩ := b_let_inv hf
  have w18 : ∀ (x3 : Int32) (M : hM) (H : Heap) (locs : List Loc) (ls : Array Slot) (cells slots : Nat), (J18 x3).1 M = some Z → hm_I D dA hCl z k1 s M H locs cells slots → lv_has ls 4 [(0, .ref h0), (1, .int p0), (2, .int p1), (3, .int x3)] → W p l e R s m args below meth c H locs cells slots Q (F0 m 18 ls []) := by
    intro x3 M H locs ls cells slots hf hI hl
    rw [eJ18] at hf
    refine lv_aload_n S.1 S.2.1 d_MD_why_18 rfl (lv_at hl 0 rfl) ?_
    refine lv_aload_n S.1 S.2.1 d_MD_why_19 rfl (lv_at hl 0 rfl) ?_
    refine x_getR (ci := 1) (k := 23) S hK hI (fun w h => List.mem_cons_of_mem _ (i_MD w h)) rfl (by decide) (List.mem_cons_of_mem _ wd_544) rfl d_MD_why_20 hf (fun r22 hf => ?_)
    refine lv_bipush (v := 20) S.1 S.2.1 d_MD_why_23 (by decide) ?_
    refine lv_iload_n S.1 S.2.1 d_MD_why_25 rfl (lv_at hl 2 rfl) ?_
    refine lv_imul S.1 S.2.1 d_MD_why_26 ?_
    refine lv_aload_n S.1 S.2.1 d_MD_why_27 rfl (lv_at hl 0 rfl) ?_
    refine x_getR (ci := 1) (k := 21) S hK hI (fun w h => List.mem_cons_of_mem _ (i_MD w h)) rfl (by decide) (List.mem_cons_of_mem _ wd_541) rfl d_MD_why_28 hf (fun r23 hf => ?_)
    refine lv_iload_n S.1 S.2.1 d_MD_why_31 rfl (lv_at hl 2 rfl) ?_
    obtain ⟨a24, ea24, hg⟩ := b_nn_inv hf
    have hI0 := hI
    have hl0 := hl
    clear hf hI hl
    subst ea24
    have hf := hg
    have hI := hI0
    have hl := hl0
    clear hg hI0 hl0
    refine x_iald (t := 2) S hK hI rfl d_MD_why_32 hf (fun v25 hf => ?_)
    refine lv_aload_n S.1 S.2.1 d_MD_why_33 rfl (lv_at hl 0 rfl) ?_
    refine x_getR (ci := 1) (k := 15) S hK hI (fun w h => List.mem_cons_of_mem _ (i_MD w h)) rfl (by decide) (List.mem_cons_of_mem _ wd_534) rfl d_MD_why_34 hf (fun r26 hf => ?_)
    refine lv_bipush (v := 20) S.1 S.2.1 d_MD_why_37 (by decide) ?_
    refine lv_iload_n S.1 S.2.1 d_MD_why_39 rfl (lv_at hl 1 rfl) ?_
    refine lv_imul S.1 S.2.1 d_MD_why_40 ?_
    refine lv_aload_n S.1 S.2.1 d_MD_why_41 rfl (lv_at hl 0 rfl) ?_
    refine x_getR (ci := 1) (k := 12) S hK hI (fun w h => List.mem_cons_of_mem _ (i_MD w h)) rfl (by decide) (List.mem_cons_of_mem _ wd_531) rfl d_MD_why_42 hf (fun r27 hf => ?_)
    refine lv_iload_n S.1 S.2.1 d_MD_why_45 rfl (lv_at hl 1 rfl) ?_
    obtain ⟨a28, ea28, hg⟩ := b_nn_inv hf
    have hI0 := hI
    have hl0 := hl
    clear hf hI hl
    subst ea28
    have hf := hg
    have hI := hI0
    have hl := hl0
    clear hg hI0 hl0
    refine x_iald (t := 2) S hK hI rfl d_MD_why_46 hf (fun v29 hf => ?_)
    obtain ⟨⟨fs33, hefs33⟩, hf⟩ := b_is_inv hf
    obtain ⟨v30, N31, hg32, hf⟩ := b_call_inv hf
    refine x_call hI (hm_mo hg32) (va_runV (As := [va_rf r22, .int (20 * p1), .int v25, va_rf r26, .int (20 * p0), .int v29]) (rest := []) S (c_MD_compare l hg32) (cwV 6 S.2.2.2.2 (gi_V wd_684 wd_685 wd_686 wd_564 wd_687) rfl rfl rfl (by decide +kernel) ⟨Nat.le_trans (Nat.le_of_ble_eq_true rfl) hRf.1, Nat.le_trans (Nat.le_of_ble_eq_true rfl) hRf.2⟩) ⟨hm_B.blind, va_recv hK (hI.1.one hefs33) (ci := 1) (q0 := 0) rfl rfl, fun U hU hW => ⟨rfl, hm_B.of hK hG hI hU hW⟩⟩ rfl rfl hl.1 rfl (lv_room (Nat.le_of_ble_eq_true rfl)) d_MD_why_47 (hx_fit hI hR (hm_mo hg32) (hm_mo hf))) (fun H locs cells slots hI => ?_)
    refine W.eq (g2 := F0 m 50 ls [.int v30]) rfl ?_
    refine lv_if_ne (tgt := 55) S.1 S.2.1 d_MD_why_50 (by decide) (fun hc => ?_) (fun hc => ?_)
    · have hf := b_if_f hc hf
      exact w55 x3 _ _ _ _ _ _ hf hI (lv_sub hl [0, 1, 2, 3] rfl)
    · have hf := b_if_t hc hf
      refine lv_iconst (v := 1) S.1 S.2.1 d_MD_why_53 (by decide) ?_
      exact hret _ _ _ _ _ _ _ _ d_MD_why_54 hf hI
  refine lv_aload_n S.1 S.2.1 d_MD_why_0 rfl (lv_at hl 0 rfl) ?_
  refine x_getR (ci := 1) (k := 19) S hK hI (fun w h => List.mem_cons_of_mem _ (i_MD w h)) rfl (by decide) (List.mem_cons_of_mem _ wd_539) rfl d_MD_why_1 hf (fun r34 hf => ?_)
  refine lv_iload_n S.1 S.2.1 d_MD_why_4 rfl (lv_at hl 2 rfl) ?_
  obtain ⟨a35, ea35, hg⟩ := b_nn_inv hf
  have hI0 := hI
  have hl0 := hl
  clear hf hI hl
  subst ea35
  have hf := hg
  have hI := hI0
  have hl := hl0
  clear hg hI0 hl0
  refine x_bald (t := 6) S hK hI rfl d_MD_why_5 hf (fun v36 hf => ?_)
  refine x_istore_n (lv2 := [(0, .ref h0), (1, .int p0), (2, .int p1)]) S d_MD_why_6 rfl hl (by decide) [0, 1, 2] rfl ⟨⟨(by decide : (0 : Nat) ≠ 3), fun h => absurd (show (0 : Nat) + 1 = 3 from h) (by decide)⟩, ⟨⟨(by decide : (1 : Nat) ≠ 3), fun h => absurd (show (1 : Nat) + 1 = 3 from h) (by decide)⟩, ⟨⟨(by decide : (2 : Nat) ≠ 3), fun _ => rfl⟩, trivial⟩⟩⟩ (fun ls hl => ?_)
  refine lv_iload_n S.1 S.2.1 d_MD_why_7 rfl (lv_at hl 0 rfl) ?_
  refine lv_iconst (v := 5) S.1 S.2.1 d_MD_why_8 (by decide) ?_
  refine lv_icmp_lt (tgt := 18) S.1 S.2.1 d_MD_why_9 (by decide) (fun hc => ?_) (fun hc => ?_)
  · have hf := b_if_t hc hf
    exact w18 v36 _ _ _ _ _ _ hf hI (lv_sub hl [1, 2, 3, 0] rfl)
  · have hf := b_if_f hc hf
    refine lv_iload_n S.1 S.2.1 d_MD_why_12 rfl (lv_at hl 0 rfl) ?_
    refine lv_bipush (v := 8) S.1 S.2.1 d_MD_why_13 (by decide) ?_
    refine lv_icmp_ne (tgt := 55) S.1 S.2.1 d_MD_why_15 (by decide) (fun hc => ?_) (fun hc => ?_)
    · have hf := b_if_f hc hf
      exact w55 v36 _ _ _ _ _ _ hf hI (lv_sub hl [1, 2, 3, 0] rfl)
    · have hf := b_if_t hc hf
      exact w18 v36 _ _ _ _ _ _ hf hI (lv_sub hl [1, 2, 3, 0] rfl)
set_option maxHeartbeats 4000000 in
set_option maxRecDepth 100000 in
theorem c_MD_row (l : Launch) {D : va_G} {dA : Nat → ClassId} {aK aV : Nat → Nat} {z : Nat} {N : Nat} {h0 : Nat} {p0 : Int32} {p1 : Int32} {p2 : Int32} {M : hM} {Z : Int32 × hM} (hf : (f_MD_row N h0 p0 p1 p2).1 M = some Z) : Met l y_MD_row w_MD_row ({ frames := 5, cells := Z.2.2.1 - M.2.1, slots := Z.2.2.2 - M.2.2, locals := 123 }) (va_Pc [.ref h0, .int p0, .int p1, .int p2] (hm_B D dA hCl (hTy dA) sT aK aV z M)) (hm_Q D dA hCl (hTy dA) sT aK aV z (some (.int Z.1)) Z.2) (Z.2.2.1 - M.2.1) (Z.2.2.2 - M.2.2) (fun q => z ≤ q) := by
  refine Met.ofW (cc := b_MD_row) (maxL := 5) (ret := (some .int)) (by decide) rfl ?_
  intro p e s m args below meth c s₁ B hml hv
  obtain ⟨hav, hB⟩ := hv
  have S : CallFix p m c b_MD_row 5 s args w_MD_row R_MD := ⟨B.exec, B.bytes, hml, findClass_of_methodNamed B.named, atoms_spec (ws := w_MD_row) B.pre⟩
  have hr : meth.sig.returnType = (some .int) := B.returns
  have hlocks := B.notSynchronized
  have hK := hB.2.2.1
  have hG := hB.2.2.2.2.2
  have hI := hm_I.start hB
  rw [← hB.2.1]
  generalize M.2.2 = k1 at hI ⊢
  refine W.eq (g2 := F0 m 0 ((lg_sl ([.ref h0, .int p0, .int p1, .int p2]) ++ List.replicate (5 - (lg_sl ([.ref h0, .int p0, .int p1, .int p2])).length) Slot.unset).toArray) []) (by rw [hav]; exact lg_entry_eq m ([.ref h0, .int p0, .int p1, .int p2]) 5) ?_
  have hl := lv_entry ([.ref h0, .int p0, .int p1, .int p2]) (n := 5) (Nat.le_of_ble_eq_true rfl)
  generalize (lg_sl ([.ref h0, .int p0, .int p1, .int p2]) ++ List.replicate (5 - (lg_sl ([.ref h0, .int p0, .int p1, .int p2])).length) Slot.unset).toArray = ls at hl ⊢
  simp only [lvA_nil, lvA_i, lvA_l, lvA_a, lvA_r, Nat.zero_add, Nat.reduceAdd] at hl
  have hret : ∀ (v : Int32) (M : hM) (H : Heap) (locs : List Loc) (cells slots : Nat) (ls : Array Slot) (pc : Nat), decode b_MD_row pc = .ok (.ireturn, 1) → (b_ret v).1 M = some Z → hm_I D dA hCl z k1 s M H locs cells slots → W p l e (headSpec w_MD_row { frames := 5, cells := Z.2.2.1 - s.heap.size, slots := Z.2.2.2 - k1, locals := 123 }).room s m args below meth c H locs cells slots (MQ below (hm_Q D dA hCl (hTy dA) sT aK aV z (some (.int Z.1)) Z.2) args s (Z.2.2.1 - s.heap.size) (Z.2.2.2 - k1) (fun q => z ≤ q)) (F0 m pc ls [.int v]) := fun v M H locs cells slots ls pc hdg hf hI => x_reti S hK hG hI hr hlocks hdg hf
  have hR : Z.2.2.1 - s.heap.size ≤ (headSpec w_MD_row { frames := 5, cells := Z.2.2.1 - s.heap.size, slots := Z.2.2.2 - k1, locals := 123 }).room.cells ∧ Z.2.2.2 - k1 ≤ (headSpec w_MD_row { frames := 5, cells := Z.2.2.1 - s.heap.size, slots := Z.2.2.2 - k1, locals := 123 }).room.slots := ⟨Nat.le_refl _, Nat.le_refl _⟩
  have hRf : 5 ≤ (headSpec w_MD_row { frames := 5, cells := Z.2.2.1 - s.heap.size, slots := Z.2.2.2 - k1, locals := 123 }).room.frames ∧ 123 ≤ (headSpec w_MD_row { frames := 5, cells := Z.2.2.1 - s.heap.size, slots := Z.2.2.2 - k1, locals := 123 }).room.locals := ⟨Nat.le_refl _, Nat.le_refl _⟩
  generalize (headSpec w_MD_row { frames := 5, cells := Z.2.2.1 - s.heap.size, slots := Z.2.2.2 - k1, locals := 123 }).room = R at hret hR hRf ⊢
  generalize (MQ below (hm_Q D dA hCl (hTy dA) sT aK aV z (some (.int Z.1)) Z.2) args s (Z.2.2.1 - s.heap.size) (Z.2.2.2 - k1) (fun q => z ≤ q)) = Q at hret ⊢
  rw [e_MD_row] at hf
  refine lv_aload_n S.1 S.2.1 d_MD_row_0 rfl (lv_at hl 0 rfl) ?_
  refine lv_iconst (v := 0) S.1 S.2.1 d_MD_row_1 (by decide) ?_
  refine x_put (ci := 1) (k := 0) S hK hI (fun w h => List.mem_cons_of_mem _ (i_MD w h)) t_MD t_MD_ok n_MD rfl (by decide) (List.mem_cons_of_mem _ wd_559) rfl (Or.inl rfl) (by rfl) rfl d_MD_row_2 hf (fun M H locs hf hI => ?_)
  refine lv_aload_n S.1 S.2.1 d_MD_row_5 rfl (lv_at hl 0 rfl) ?_
  refine lv_iload_n S.1 S.2.1 d_MD_row_6 rfl (lv_at hl 1 rfl) ?_
  refine lv_iload_n S.1 S.2.1 d_MD_row_7 rfl (lv_at hl 2 rfl) ?_
  obtain ⟨⟨fs4, hefs4⟩, hf⟩ := b_is_inv hf
  obtain ⟨v1, N2, hg3, hf⟩ := b_call_inv hf
  refine x_call hI (hm_mo hg3) (va_runV (As := [.int p0, .int p1]) (rest := []) S (c_MD_isRow l hg3) (cwV 2 S.2.2.2.2 (gi_V wd_729 wd_730 wd_731 wd_564 wd_732) rfl rfl rfl (by decide +kernel) ⟨Nat.le_trans (Nat.le_of_ble_eq_true rfl) hRf.1, Nat.le_trans (Nat.le_of_ble_eq_true rfl) hRf.2⟩) ⟨hm_B.blind, va_recv hK (hI.1.one hefs4) (ci := 1) (q0 := 0) rfl rfl, fun U hU hW => ⟨rfl, hm_B.of hK hG hI hU hW⟩⟩ rfl rfl hl.1 rfl (lv_room (Nat.le_of_ble_eq_true rfl)) d_MD_row_8 (hx_fit hI hR (hm_mo hg3) (hm_mo hf))) (fun H locs cells slots hI => ?_)
  refine W.eq (g2 := F0 m 11 ls [.int v1]) rfl ?_
  refine lv_if_ne (tgt := 16) S.1 S.2.1 d_MD_row_11 (by decide) (fun hc => ?_) (fun hc => ?_)
  · have hf := b_if_f hc hf
    refine lv_sipush (v := 200) S.1 S.2.1 d_MD_row_16 (by decide) ?_
    refine lv_iload_n S.1 S.2.1 d_MD_row_19 rfl (lv_at hl 1 rfl) ?_
    refine lv_imul S.1 S.2.1 d_MD_row_20 ?_
    refine lv_iload_n S.1 S.2.1 d_MD_row_21 rfl (lv_at hl 2 rfl) ?_
    refine lv_iadd S.1 S.2.1 d_MD_row_22 ?_
    refine x_istore (lv2 := [(0, .ref h0), (1, .int p0), (2, .int p1), (3, .int p2)]) S d_MD_row_23 hl (by decide) [0, 1, 2, 3] rfl ⟨⟨(by decide : (0 : Nat) ≠ 4), fun h => absurd (show (0 : Nat) + 1 = 4 from h) (by decide)⟩, ⟨⟨(by decide : (1 : Nat) ≠ 4), fun h => absurd (show (1 : Nat) + 1 = 4 from h) (by decide)⟩, ⟨⟨(by decide : (2 : Nat) ≠ 4), fun h => absurd (show (2 : Nat) + 1 = 4 from h) (by decide)⟩, ⟨⟨(by decide : (3 : Nat) ≠ 4), fun _ => rfl⟩, trivial⟩⟩⟩⟩ (fun ls hl => ?_)
    refine lv_iload_n S.1 S.2.1 d_MD_row_25 rfl (lv_at hl 4 rfl) ?_
    by_cases hc0 : p2 = 0
    · have hf := b_if_t hc0 hf
      refine lv_tableIn (tgt := 60) S.1 S.2.1 d_MD_row_26 (by rw [hc0]; decide) (by rw [hc0]; decide) (by rw [hc0] <;> rfl) (by decide) ?_
      refine lv_aload_n S.1 S.2.1 d_MD_row_60 rfl (lv_at hl 1 rfl) ?_
      refine x_getR (ci := 1) (k := 19) S hK hI (fun w h => List.mem_cons_of_mem _ (i_MD w h)) rfl (by decide) (List.mem_cons_of_mem _ wd_539) rfl d_MD_row_61 hf (fun r5 hf => ?_)
      refine lv_iload S.1 S.2.1 d_MD_row_64 (lv_at hl 0 rfl) ?_
      obtain ⟨a6, ea6, hg⟩ := b_nn_inv hf
      have hI0 := hI
      have hl0 := hl
      clear hf hI hl
      subst ea6
      have hf := hg
      have hI := hI0
      have hl := hl0
      clear hg hI0 hl0
      refine x_bald (t := 6) S hK hI rfl d_MD_row_66 hf (fun v7 hf => ?_)
      exact hret _ _ _ _ _ _ _ _ d_MD_row_67 hf hI
    · have hf := b_if_f hc0 hf
      by_cases hc1 : p2 = 1
      · have hf := b_if_t hc1 hf
        refine lv_tableIn (tgt := 68) S.1 S.2.1 d_MD_row_26 (by rw [hc1]; decide) (by rw [hc1]; decide) (by rw [hc1] <;> rfl) (by decide) ?_
        refine lv_aload_n S.1 S.2.1 d_MD_row_68 rfl (lv_at hl 1 rfl) ?_
        refine x_getR (ci := 1) (k := 20) S hK hI (fun w h => List.mem_cons_of_mem _ (i_MD w h)) rfl (by decide) (List.mem_cons_of_mem _ wd_540) rfl d_MD_row_69 hf (fun r8 hf => ?_)
        refine lv_iload S.1 S.2.1 d_MD_row_72 (lv_at hl 0 rfl) ?_
        obtain ⟨a9, ea9, hg⟩ := b_nn_inv hf
        have hI0 := hI
        have hl0 := hl
        clear hf hI hl
        subst ea9
        have hf := hg
        have hI := hI0
        have hl := hl0
        clear hg hI0 hl0
        refine x_iald (t := 2) S hK hI rfl d_MD_row_74 hf (fun v10 hf => ?_)
        exact hret _ _ _ _ _ _ _ _ d_MD_row_75 hf hI
      · have hf := b_if_f hc1 hf
        by_cases hc2 : p2 = 2
        · have hf := b_if_t hc2 hf
          refine lv_tableIn (tgt := 76) S.1 S.2.1 d_MD_row_26 (by rw [hc2]; decide) (by rw [hc2]; decide) (by rw [hc2] <;> rfl) (by decide) ?_
          refine lv_aload_n S.1 S.2.1 d_MD_row_76 rfl (lv_at hl 1 rfl) ?_
          refine x_getR (ci := 1) (k := 21) S hK hI (fun w h => List.mem_cons_of_mem _ (i_MD w h)) rfl (by decide) (List.mem_cons_of_mem _ wd_541) rfl d_MD_row_77 hf (fun r11 hf => ?_)
          refine lv_iload S.1 S.2.1 d_MD_row_80 (lv_at hl 0 rfl) ?_
          obtain ⟨a12, ea12, hg⟩ := b_nn_inv hf
          have hI0 := hI
          have hl0 := hl
          clear hf hI hl
          subst ea12
          have hf := hg
          have hI := hI0
          have hl := hl0
          clear hg hI0 hl0
          refine x_iald (t := 2) S hK hI rfl d_MD_row_82 hf (fun v13 hf => ?_)
          exact hret _ _ _ _ _ _ _ _ d_MD_row_83 hf hI
        · have hf := b_if_f hc2 hf
          by_cases hc3 : p2 = 3
          · have hf := b_if_t hc3 hf
            refine lv_tableIn (tgt := 84) S.1 S.2.1 d_MD_row_26 (by rw [hc3]; decide) (by rw [hc3]; decide) (by rw [hc3] <;> rfl) (by decide) ?_
            refine lv_aload_n S.1 S.2.1 d_MD_row_84 rfl (lv_at hl 1 rfl) ?_
            refine x_getR (ci := 1) (k := 23) S hK hI (fun w h => List.mem_cons_of_mem _ (i_MD w h)) rfl (by decide) (List.mem_cons_of_mem _ wd_544) rfl d_MD_row_85 hf (fun r14 hf => ?_)
            refine lv_bipush (v := 20) S.1 S.2.1 d_MD_row_88 (by decide) ?_
            refine lv_iload S.1 S.2.1 d_MD_row_90 (lv_at hl 0 rfl) ?_
            refine lv_imul S.1 S.2.1 d_MD_row_92 ?_
            refine lv_aload_n S.1 S.2.1 d_MD_row_93 rfl (lv_at hl 1 rfl) ?_
            refine x_getR (ci := 1) (k := 21) S hK hI (fun w h => List.mem_cons_of_mem _ (i_MD w h)) rfl (by decide) (List.mem_cons_of_mem _ wd_541) rfl d_MD_row_94 hf (fun r15 hf => ?_)
            refine lv_iload S.1 S.2.1 d_MD_row_97 (lv_at hl 0 rfl) ?_
            obtain ⟨a16, ea16, hg⟩ := b_nn_inv hf
            have hI0 := hI
            have hl0 := hl
            clear hf hI hl
            subst ea16
            have hf := hg
            have hI := hI0
            have hl := hl0
            clear hg hI0 hl0
            refine x_iald (t := 2) S hK hI rfl d_MD_row_99 hf (fun v17 hf => ?_)
            refine lv_aload_n S.1 S.2.1 d_MD_row_100 rfl (lv_at hl 1 rfl) ?_
            refine x_getR (ci := 1) (k := 37) S hK hI (fun w h => List.mem_cons_of_mem _ (i_MD w h)) rfl (by decide) (List.mem_cons_of_mem _ wd_551) rfl d_MD_row_101 hf (fun r18 hf => ?_)
            obtain ⟨v19, N20, hg21, hf⟩ := b_call_inv hf
            refine x_call hI (hm_mo hg21) (va_runS (As := [va_rf r14, .int (20 * ((200 * p0) + p1)), .int v17, va_rf r18]) (rest := []) S (c_MD_folded l hg21) (va_cwS 4 S.2.2.2.2 (gi_S wd_621 wd_622 wd_564 wd_623) rfl rfl rfl (by decide +kernel) ⟨Nat.le_trans (Nat.le_of_ble_eq_true rfl) hRf.1, Nat.le_trans (Nat.le_of_ble_eq_true rfl) hRf.2⟩) ⟨hm_B.blind, fun U hU hW => ⟨rfl, hm_B.of hK hG hI hU hW⟩⟩ rfl rfl hl.1 rfl (lv_room (Nat.le_of_ble_eq_true rfl)) d_MD_row_104 (hx_fit hI hR (hm_mo hg21) (hm_mo hf))) (fun H locs cells slots hI => ?_)
            refine W.eq (g2 := F0 m 107 ls [.int v19]) rfl ?_
            exact hret _ _ _ _ _ _ _ _ d_MD_row_107 hf hI
          · have hf := b_if_f hc3 hf
            by_cases hc4 : p2 = 4
            · have hf := b_if_t hc4 hf
              refine lv_tableIn (tgt := 108) S.1 S.2.1 d_MD_row_26 (by rw [hc4]; decide) (by rw [hc4]; decide) (by rw [hc4] <;> rfl) (by decide) ?_
              refine lv_aload_n S.1 S.2.1 d_MD_row_108 rfl (lv_at hl 1 rfl) ?_
              refine lv_iload_n S.1 S.2.1 d_MD_row_109 rfl (lv_at hl 2 rfl) ?_
              refine lv_iload S.1 S.2.1 d_MD_row_110 (lv_at hl 0 rfl) ?_
              obtain ⟨⟨fs25, hefs25⟩, hf⟩ := b_is_inv hf
              obtain ⟨v22, N23, hg24, hf⟩ := b_call_inv hf
              refine x_call hI (hm_mo hg24) (va_runV (As := [.int p0, .int ((200 * p0) + p1)]) (rest := []) S (c_MD_why l hg24) (cwV 2 S.2.2.2.2 (gi_V wd_733 wd_734 wd_735 wd_564 wd_736) rfl rfl rfl (by decide +kernel) ⟨Nat.le_trans (Nat.le_of_ble_eq_true rfl) hRf.1, Nat.le_trans (Nat.le_of_ble_eq_true rfl) hRf.2⟩) ⟨hm_B.blind, va_recv hK (hI.1.one hefs25) (ci := 1) (q0 := 0) rfl rfl, fun U hU hW => ⟨rfl, hm_B.of hK hG hI hU hW⟩⟩ rfl rfl hl.1 rfl (lv_room (Nat.le_of_ble_eq_true rfl)) d_MD_row_112 (hx_fit hI hR (hm_mo hg24) (hm_mo hf))) (fun H locs cells slots hI => ?_)
              refine W.eq (g2 := F0 m 115 ls [.int v22]) rfl ?_
              exact hret _ _ _ _ _ _ _ _ d_MD_row_115 hf hI
            · have hf := b_if_f hc4 hf
              refine lv_tableOut (tgt := 116) S.1 S.2.1 d_MD_row_26 (by have g0 := lv_neT (a := 0) hc0 (by decide); have g1 := lv_neT (a := 1) hc1 (by decide); have g2 := lv_neT (a := 2) hc2 (by decide); have g3 := lv_neT (a := 3) hc3 (by decide); have g4 := lv_neT (a := 4) hc4 (by decide); omega) (by decide) ?_
              refine lv_iconst (v := (-1)) S.1 S.2.1 d_MD_row_116 (by decide) ?_
              exact hret _ _ _ _ _ _ _ _ d_MD_row_117 hf hI
  · have hf := b_if_t hc hf
    refine lv_iconst (v := (-1)) S.1 S.2.1 d_MD_row_14 (by decide) ?_
    exact hret _ _ _ _ _ _ _ _ d_MD_row_15 hf hI
set_option maxHeartbeats 4000000 in
set_option maxRecDepth 100000 in
theorem c_MD_letter (l : Launch) {D : va_G} {dA : Nat → ClassId} {aK aV : Nat → Nat} {z : Nat} {N : Nat} {h0 : Nat} {p0 : Int32} {p1 : Int32} {p2 : Int32} {p3 : Int32} {M : hM} {Z : Int32 × hM} (hf : (f_MD_letter N h0 p0 p1 p2 p3).1 M = some Z) : Met l y_MD_letter w_MD_letter ({ frames := 2, cells := Z.2.2.1 - M.2.1, slots := Z.2.2.2 - M.2.2, locals := 46 }) (va_Pc [.ref h0, .int p0, .int p1, .int p2, .int p3] (hm_B D dA hCl (hTy dA) sT aK aV z M)) (hm_Q D dA hCl (hTy dA) sT aK aV z (some (.int Z.1)) Z.2) (Z.2.2.1 - M.2.1) (Z.2.2.2 - M.2.2) (fun q => z ≤ q) := by
  refine Met.ofW (cc := b_MD_letter) (maxL := 6) (ret := (some .int)) (by decide) rfl ?_
  intro p e s m args below meth c s₁ B hml hv
  obtain ⟨hav, hB⟩ := hv
  have S : CallFix p m c b_MD_letter 6 s args w_MD_letter R_MD := ⟨B.exec, B.bytes, hml, findClass_of_methodNamed B.named, atoms_spec (ws := w_MD_letter) B.pre⟩
  have hr : meth.sig.returnType = (some .int) := B.returns
  have hlocks := B.notSynchronized
  have hK := hB.2.2.1
  have hG := hB.2.2.2.2.2
  have hI := hm_I.start hB
  rw [← hB.2.1]
  generalize M.2.2 = k1 at hI ⊢
  refine W.eq (g2 := F0 m 0 ((lg_sl ([.ref h0, .int p0, .int p1, .int p2, .int p3]) ++ List.replicate (6 - (lg_sl ([.ref h0, .int p0, .int p1, .int p2, .int p3])).length) Slot.unset).toArray) []) (by rw [hav]; exact lg_entry_eq m ([.ref h0, .int p0, .int p1, .int p2, .int p3]) 6) ?_
  have hl := lv_entry ([.ref h0, .int p0, .int p1, .int p2, .int p3]) (n := 6) (Nat.le_of_ble_eq_true rfl)
  generalize (lg_sl ([.ref h0, .int p0, .int p1, .int p2, .int p3]) ++ List.replicate (6 - (lg_sl ([.ref h0, .int p0, .int p1, .int p2, .int p3])).length) Slot.unset).toArray = ls at hl ⊢
  simp only [lvA_nil, lvA_i, lvA_l, lvA_a, lvA_r, Nat.zero_add, Nat.reduceAdd] at hl
  have hret : ∀ (v : Int32) (M : hM) (H : Heap) (locs : List Loc) (cells slots : Nat) (ls : Array Slot) (pc : Nat), decode b_MD_letter pc = .ok (.ireturn, 1) → (b_ret v).1 M = some Z → hm_I D dA hCl z k1 s M H locs cells slots → W p l e (headSpec w_MD_letter { frames := 2, cells := Z.2.2.1 - s.heap.size, slots := Z.2.2.2 - k1, locals := 46 }).room s m args below meth c H locs cells slots (MQ below (hm_Q D dA hCl (hTy dA) sT aK aV z (some (.int Z.1)) Z.2) args s (Z.2.2.1 - s.heap.size) (Z.2.2.2 - k1) (fun q => z ≤ q)) (F0 m pc ls [.int v]) := fun v M H locs cells slots ls pc hdg hf hI => x_reti S hK hG hI hr hlocks hdg hf
  have hR : Z.2.2.1 - s.heap.size ≤ (headSpec w_MD_letter { frames := 2, cells := Z.2.2.1 - s.heap.size, slots := Z.2.2.2 - k1, locals := 46 }).room.cells ∧ Z.2.2.2 - k1 ≤ (headSpec w_MD_letter { frames := 2, cells := Z.2.2.1 - s.heap.size, slots := Z.2.2.2 - k1, locals := 46 }).room.slots := ⟨Nat.le_refl _, Nat.le_refl _⟩
  have hRf : 2 ≤ (headSpec w_MD_letter { frames := 2, cells := Z.2.2.1 - s.heap.size, slots := Z.2.2.2 - k1, locals := 46 }).room.frames ∧ 46 ≤ (headSpec w_MD_letter { frames := 2, cells := Z.2.2.1 - s.heap.size, slots := Z.2.2.2 - k1, locals := 46 }).room.locals := ⟨Nat.le_refl _, Nat.le_refl _⟩
  generalize (headSpec w_MD_letter { frames := 2, cells := Z.2.2.1 - s.heap.size, slots := Z.2.2.2 - k1, locals := 46 }).room = R at hret hR hRf ⊢
  generalize (MQ below (hm_Q D dA hCl (hTy dA) sT aK aV z (some (.int Z.1)) Z.2) args s (Z.2.2.1 - s.heap.size) (Z.2.2.2 - k1) (fun q => z ≤ q)) = Q at hret ⊢
  rw [e_MD_letter] at hf
  obtain ⟨J83, eJ83, hf⟩ := b_let_inv hf
  have w83 : ∀ (y0 : Int32) (M : hM) (H : Heap) (locs : List Loc) (ls : Array Slot) (cells slots : Nat), (J83 y0).1 M = some Z → hm_I D dA hCl z k1 s M H locs cells slots → lv_has ls 6 [] → W p l e R s m args below meth c H locs cells slots Q (F0 m 83 ls [.int y0]) := by
    intro y0 M H locs ls cells slots hf hI hl
    rw [eJ83] at hf
    exact hret _ _ _ _ _ _ _ _ d_MD_letter_83 hf hI
  obtain ⟨J117, eJ117, hf⟩ := b_let_inv hf
  have w117 : ∀ (y0 : Int32) (M : hM) (H : Heap) (locs : List Loc) (ls : Array Slot) (cells slots : Nat), (J117 y0).1 M = some Z → hm_I D dA hCl z k1 s M H locs cells slots → lv_has ls 6 [] → W p l e R s m args below meth c H locs cells slots Q (F0 m 117 ls [.int y0]) := by
    intro y0 M H locs ls cells slots hf hI hl
    rw [eJ117] at hf
    exact hret _ _ _ _ _ _ _ _ d_MD_letter_117 hf hI
  obtain ⟨J147, eJ147, hf⟩ := b_let_inv hf
  have w147 : ∀ (y0 : Int32) (M : hM) (H : Heap) (locs : List Loc) (ls : Array Slot) (cells slots : Nat), (J147 y0).1 M = some Z → hm_I D dA hCl z k1 s M H locs cells slots → lv_has ls 6 [] → W p l e R s m args below meth c H locs cells slots Q (F0 m 147 ls [.int y0]) := by
    intro y0 M H locs ls cells slots hf hI hl
    rw [eJ147] at hf
    exact hret _ _ _ _ _ _ _ _ d_MD_letter_147 hf hI
  refine lv_aload_n S.1 S.2.1 d_MD_letter_0 rfl (lv_at hl 0 rfl) ?_
  refine lv_iconst (v := 0) S.1 S.2.1 d_MD_letter_1 (by decide) ?_
  refine x_put (ci := 1) (k := 0) S hK hI (fun w h => List.mem_cons_of_mem _ (i_MD w h)) t_MD t_MD_ok n_MD rfl (by decide) (List.mem_cons_of_mem _ wd_559) rfl (Or.inl rfl) (by rfl) rfl d_MD_letter_2 hf (fun M H locs hf hI => ?_)
  refine lv_aload_n S.1 S.2.1 d_MD_letter_5 rfl (lv_at hl 0 rfl) ?_
  refine lv_iload_n S.1 S.2.1 d_MD_letter_6 rfl (lv_at hl 1 rfl) ?_
  refine lv_iload_n S.1 S.2.1 d_MD_letter_7 rfl (lv_at hl 2 rfl) ?_
  obtain ⟨⟨fs4, hefs4⟩, hf⟩ := b_is_inv hf
  obtain ⟨v1, N2, hg3, hf⟩ := b_call_inv hf
  refine x_call hI (hm_mo hg3) (va_runV (As := [.int p0, .int p1]) (rest := []) S (c_MD_isRow l hg3) (cwV 2 S.2.2.2.2 (gi_V wd_729 wd_730 wd_731 wd_564 wd_732) rfl rfl rfl (by decide +kernel) ⟨Nat.le_trans (Nat.le_of_ble_eq_true rfl) hRf.1, Nat.le_trans (Nat.le_of_ble_eq_true rfl) hRf.2⟩) ⟨hm_B.blind, va_recv hK (hI.1.one hefs4) (ci := 1) (q0 := 0) rfl rfl, fun U hU hW => ⟨rfl, hm_B.of hK hG hI hU hW⟩⟩ rfl rfl hl.1 rfl (lv_room (Nat.le_of_ble_eq_true rfl)) d_MD_letter_8 (hx_fit hI hR (hm_mo hg3) (hm_mo hf))) (fun H locs cells slots hI => ?_)
  refine W.eq (g2 := F0 m 11 ls [.int v1]) rfl ?_
  refine lv_if_eq (tgt := 28) S.1 S.2.1 d_MD_letter_11 (by decide) (fun hc => ?_) (fun hc => ?_)
  · have hf := b_if_t hc hf
    refine lv_iconst (v := (-1)) S.1 S.2.1 d_MD_letter_28 (by decide) ?_
    exact hret _ _ _ _ _ _ _ _ d_MD_letter_29 hf hI
  · have hf := b_if_f hc hf
    refine lv_iload_n S.1 S.2.1 d_MD_letter_14 rfl (lv_at hl 3 rfl) ?_
    refine lv_if_lt (tgt := 28) S.1 S.2.1 d_MD_letter_15 (by decide) (fun hc => ?_) (fun hc => ?_)
    · have hf := b_if_t hc hf
      refine lv_iconst (v := (-1)) S.1 S.2.1 d_MD_letter_28 (by decide) ?_
      exact hret _ _ _ _ _ _ _ _ d_MD_letter_29 hf hI
    · have hf := b_if_f hc hf
      refine lv_iload_n S.1 S.2.1 d_MD_letter_18 rfl (lv_at hl 3 rfl) ?_
      refine lv_iconst (v := 2) S.1 S.2.1 d_MD_letter_19 (by decide) ?_
      refine lv_icmp_gt (tgt := 28) S.1 S.2.1 d_MD_letter_20 (by decide) (fun hc => ?_) (fun hc => ?_)
      · have hf := b_if_t hc hf
        refine lv_iconst (v := (-1)) S.1 S.2.1 d_MD_letter_28 (by decide) ?_
        exact hret _ _ _ _ _ _ _ _ d_MD_letter_29 hf hI
      · have hf := b_if_f hc hf
        refine lv_iload S.1 S.2.1 d_MD_letter_23 (lv_at hl 4 rfl) ?_
        refine lv_if_ge (tgt := 30) S.1 S.2.1 d_MD_letter_25 (by decide) (fun hc => ?_) (fun hc => ?_)
        · have hf := b_if_t hc hf
          refine lv_sipush (v := 200) S.1 S.2.1 d_MD_letter_30 (by decide) ?_
          refine lv_iload_n S.1 S.2.1 d_MD_letter_33 rfl (lv_at hl 1 rfl) ?_
          refine lv_imul S.1 S.2.1 d_MD_letter_34 ?_
          refine lv_iload_n S.1 S.2.1 d_MD_letter_35 rfl (lv_at hl 2 rfl) ?_
          refine lv_iadd S.1 S.2.1 d_MD_letter_36 ?_
          refine x_istore (lv2 := [(0, .ref h0), (1, .int p0), (2, .int p1), (3, .int p2), (4, .int p3)]) S d_MD_letter_37 hl (by decide) [0, 1, 2, 3, 4] rfl ⟨⟨(by decide : (0 : Nat) ≠ 5), fun h => absurd (show (0 : Nat) + 1 = 5 from h) (by decide)⟩, ⟨⟨(by decide : (1 : Nat) ≠ 5), fun h => absurd (show (1 : Nat) + 1 = 5 from h) (by decide)⟩, ⟨⟨(by decide : (2 : Nat) ≠ 5), fun h => absurd (show (2 : Nat) + 1 = 5 from h) (by decide)⟩, ⟨⟨(by decide : (3 : Nat) ≠ 5), fun h => absurd (show (3 : Nat) + 1 = 5 from h) (by decide)⟩, ⟨⟨(by decide : (4 : Nat) ≠ 5), fun _ => rfl⟩, trivial⟩⟩⟩⟩⟩ (fun ls hl => ?_)
          refine lv_iload_n S.1 S.2.1 d_MD_letter_39 rfl (lv_at hl 4 rfl) ?_
          refine lv_iconst (v := 1) S.1 S.2.1 d_MD_letter_40 (by decide) ?_
          refine lv_icmp_ne (tgt := 84) S.1 S.2.1 d_MD_letter_41 (by decide) (fun hc => ?_) (fun hc => ?_)
          · have hf := b_if_f hc hf
            refine lv_iload_n S.1 S.2.1 d_MD_letter_84 rfl (lv_at hl 4 rfl) ?_
            refine lv_if_ne (tgt := 118) S.1 S.2.1 d_MD_letter_85 (by decide) (fun hc => ?_) (fun hc => ?_)
            · have hf := b_if_f hc hf
              refine lv_iload S.1 S.2.1 d_MD_letter_118 (lv_at hl 5 rfl) ?_
              refine lv_aload_n S.1 S.2.1 d_MD_letter_120 rfl (lv_at hl 1 rfl) ?_
              refine x_getR (ci := 1) (k := 22) S hK hI (fun w h => List.mem_cons_of_mem _ (i_MD w h)) rfl (by decide) (List.mem_cons_of_mem _ wd_542) rfl d_MD_letter_121 hf (fun r5 hf => ?_)
              refine lv_iload S.1 S.2.1 d_MD_letter_124 (lv_at hl 0 rfl) ?_
              obtain ⟨a6, ea6, hg⟩ := b_nn_inv hf
              have hI0 := hI
              have hl0 := hl
              clear hf hI hl
              subst ea6
              have hf := hg
              have hI := hI0
              have hl := hl0
              clear hg hI0 hl0
              refine x_iald (t := 2) S hK hI rfl d_MD_letter_126 hf (fun v7 hf => ?_)
              refine lv_icmp_ge (tgt := 146) S.1 S.2.1 d_MD_letter_127 (by decide) (fun hc => ?_) (fun hc => ?_)
              · have hf := b_if_t hc hf
                refine lv_iconst (v := (-1)) S.1 S.2.1 d_MD_letter_146 (by decide) ?_
                exact w147 (-1) _ _ _ _ _ _ hf hI (lv_sub hl [] rfl)
              · have hf := b_if_f hc hf
                refine lv_aload_n S.1 S.2.1 d_MD_letter_130 rfl (lv_at hl 1 rfl) ?_
                refine x_getR (ci := 1) (k := 24) S hK hI (fun w h => List.mem_cons_of_mem _ (i_MD w h)) rfl (by decide) (List.mem_cons_of_mem _ wd_545) rfl d_MD_letter_131 hf (fun r8 hf => ?_)
                refine lv_bipush (v := 20) S.1 S.2.1 d_MD_letter_134 (by decide) ?_
                refine lv_iload S.1 S.2.1 d_MD_letter_136 (lv_at hl 0 rfl) ?_
                refine lv_imul S.1 S.2.1 d_MD_letter_138 ?_
                refine lv_iload S.1 S.2.1 d_MD_letter_139 (lv_at hl 5 rfl) ?_
                refine lv_iadd S.1 S.2.1 d_MD_letter_141 ?_
                obtain ⟨a9, ea9, hg⟩ := b_nn_inv hf
                have hI0 := hI
                have hl0 := hl
                clear hf hI hl
                subst ea9
                have hf := hg
                have hI := hI0
                have hl := hl0
                clear hg hI0 hl0
                refine x_bald (t := 6) S hK hI rfl d_MD_letter_142 hf (fun v10 hf => ?_)
                refine lv_goto (tgt := 147) S.1 S.2.1 d_MD_letter_143 (by decide) ?_
                exact w147 v10 _ _ _ _ _ _ hf hI (lv_sub hl [] rfl)
            · have hf := b_if_t hc hf
              refine lv_iload S.1 S.2.1 d_MD_letter_88 (lv_at hl 5 rfl) ?_
              refine lv_aload_n S.1 S.2.1 d_MD_letter_90 rfl (lv_at hl 1 rfl) ?_
              refine x_getR (ci := 1) (k := 21) S hK hI (fun w h => List.mem_cons_of_mem _ (i_MD w h)) rfl (by decide) (List.mem_cons_of_mem _ wd_541) rfl d_MD_letter_91 hf (fun r11 hf => ?_)
              refine lv_iload S.1 S.2.1 d_MD_letter_94 (lv_at hl 0 rfl) ?_
              obtain ⟨a12, ea12, hg⟩ := b_nn_inv hf
              have hI0 := hI
              have hl0 := hl
              clear hf hI hl
              subst ea12
              have hf := hg
              have hI := hI0
              have hl := hl0
              clear hg hI0 hl0
              refine x_iald (t := 2) S hK hI rfl d_MD_letter_96 hf (fun v13 hf => ?_)
              refine lv_icmp_ge (tgt := 116) S.1 S.2.1 d_MD_letter_97 (by decide) (fun hc => ?_) (fun hc => ?_)
              · have hf := b_if_t hc hf
                refine lv_iconst (v := (-1)) S.1 S.2.1 d_MD_letter_116 (by decide) ?_
                exact w117 (-1) _ _ _ _ _ _ hf hI (lv_sub hl [] rfl)
              · have hf := b_if_f hc hf
                refine lv_aload_n S.1 S.2.1 d_MD_letter_100 rfl (lv_at hl 1 rfl) ?_
                refine x_getR (ci := 1) (k := 23) S hK hI (fun w h => List.mem_cons_of_mem _ (i_MD w h)) rfl (by decide) (List.mem_cons_of_mem _ wd_544) rfl d_MD_letter_101 hf (fun r14 hf => ?_)
                refine lv_bipush (v := 20) S.1 S.2.1 d_MD_letter_104 (by decide) ?_
                refine lv_iload S.1 S.2.1 d_MD_letter_106 (lv_at hl 0 rfl) ?_
                refine lv_imul S.1 S.2.1 d_MD_letter_108 ?_
                refine lv_iload S.1 S.2.1 d_MD_letter_109 (lv_at hl 5 rfl) ?_
                refine lv_iadd S.1 S.2.1 d_MD_letter_111 ?_
                obtain ⟨a15, ea15, hg⟩ := b_nn_inv hf
                have hI0 := hI
                have hl0 := hl
                clear hf hI hl
                subst ea15
                have hf := hg
                have hI := hI0
                have hl := hl0
                clear hg hI0 hl0
                refine x_bald (t := 6) S hK hI rfl d_MD_letter_112 hf (fun v16 hf => ?_)
                refine lv_goto (tgt := 117) S.1 S.2.1 d_MD_letter_113 (by decide) ?_
                exact w117 v16 _ _ _ _ _ _ hf hI (lv_sub hl [] rfl)
          · have hf := b_if_t hc hf
            refine lv_iload S.1 S.2.1 d_MD_letter_44 (lv_at hl 5 rfl) ?_
            refine lv_aload_n S.1 S.2.1 d_MD_letter_46 rfl (lv_at hl 1 rfl) ?_
            refine x_getR (ci := 1) (k := 23) S hK hI (fun w h => List.mem_cons_of_mem _ (i_MD w h)) rfl (by decide) (List.mem_cons_of_mem _ wd_544) rfl d_MD_letter_47 hf (fun r17 hf => ?_)
            refine lv_bipush (v := 20) S.1 S.2.1 d_MD_letter_50 (by decide) ?_
            refine lv_iload S.1 S.2.1 d_MD_letter_52 (lv_at hl 0 rfl) ?_
            refine lv_imul S.1 S.2.1 d_MD_letter_54 ?_
            refine lv_aload_n S.1 S.2.1 d_MD_letter_55 rfl (lv_at hl 1 rfl) ?_
            refine x_getR (ci := 1) (k := 21) S hK hI (fun w h => List.mem_cons_of_mem _ (i_MD w h)) rfl (by decide) (List.mem_cons_of_mem _ wd_541) rfl d_MD_letter_56 hf (fun r18 hf => ?_)
            refine lv_iload S.1 S.2.1 d_MD_letter_59 (lv_at hl 0 rfl) ?_
            obtain ⟨a19, ea19, hg⟩ := b_nn_inv hf
            have hI0 := hI
            have hl0 := hl
            clear hf hI hl
            subst ea19
            have hf := hg
            have hI := hI0
            have hl := hl0
            clear hg hI0 hl0
            refine x_iald (t := 2) S hK hI rfl d_MD_letter_61 hf (fun v20 hf => ?_)
            refine lv_aload_n S.1 S.2.1 d_MD_letter_62 rfl (lv_at hl 1 rfl) ?_
            refine x_getR (ci := 1) (k := 37) S hK hI (fun w h => List.mem_cons_of_mem _ (i_MD w h)) rfl (by decide) (List.mem_cons_of_mem _ wd_551) rfl d_MD_letter_63 hf (fun r21 hf => ?_)
            obtain ⟨v22, N23, hg24, hf⟩ := b_call_inv hf
            refine x_call hI (hm_mo hg24) (va_runS (As := [va_rf r17, .int (20 * ((200 * p0) + p1)), .int v20, va_rf r21]) (rest := [.int p3]) S (c_MD_folded l hg24) (va_cwS 4 S.2.2.2.2 (gi_S wd_621 wd_622 wd_564 wd_623) rfl rfl rfl (by decide +kernel) ⟨Nat.le_trans (Nat.le_of_ble_eq_true rfl) hRf.1, Nat.le_trans (Nat.le_of_ble_eq_true rfl) hRf.2⟩) ⟨hm_B.blind, fun U hU hW => ⟨rfl, hm_B.of hK hG hI hU hW⟩⟩ rfl rfl hl.1 rfl (lv_room (Nat.le_of_ble_eq_true rfl)) d_MD_letter_66 (hx_fit hI hR (hm_mo hg24) (hm_mo hf))) (fun H locs cells slots hI => ?_)
            refine W.eq (g2 := F0 m 69 ls [.int v22, .int p3]) rfl ?_
            refine lv_icmp_ge (tgt := 82) S.1 S.2.1 d_MD_letter_69 (by decide) (fun hc => ?_) (fun hc => ?_)
            · have hf := b_if_t hc hf
              refine lv_iconst (v := (-1)) S.1 S.2.1 d_MD_letter_82 (by decide) ?_
              exact w83 (-1) _ _ _ _ _ _ hf hI (lv_sub hl [] rfl)
            · have hf := b_if_f hc hf
              refine lv_aload_n S.1 S.2.1 d_MD_letter_72 rfl (lv_at hl 1 rfl) ?_
              refine x_getR (ci := 1) (k := 37) S hK hI (fun w h => List.mem_cons_of_mem _ (i_MD w h)) rfl (by decide) (List.mem_cons_of_mem _ wd_551) rfl d_MD_letter_73 hf (fun r25 hf => ?_)
              refine lv_iload S.1 S.2.1 d_MD_letter_76 (lv_at hl 5 rfl) ?_
              obtain ⟨a26, ea26, hg⟩ := b_nn_inv hf
              have hI0 := hI
              have hl0 := hl
              clear hf hI hl
              subst ea26
              have hf := hg
              have hI := hI0
              have hl := hl0
              clear hg hI0 hl0
              refine x_bald (t := 6) S hK hI rfl d_MD_letter_78 hf (fun v27 hf => ?_)
              refine lv_goto (tgt := 83) S.1 S.2.1 d_MD_letter_79 (by decide) ?_
              exact w83 v27 _ _ _ _ _ _ hf hI (lv_sub hl [] rfl)
        · have hf := b_if_f hc hf
          refine lv_iconst (v := (-1)) S.1 S.2.1 d_MD_letter_28 (by decide) ?_
          exact hret _ _ _ _ _ _ _ _ d_MD_letter_29 hf hI
set_option maxHeartbeats 4000000 in
set_option maxRecDepth 100000 in
theorem c_MD_low (l : Launch) {D : va_G} {dA : Nat → ClassId} {aK aV : Nat → Nat} {z : Nat} {N : Nat} {h0 : Nat} {p0 : Int32} {p1 : Int32} {M : hM} {Z : Int64 × hM} (hf : (f_MD_low N h0 p0 p1).1 M = some Z) : Met l y_MD_low w_MD_low ({ frames := 2, cells := Z.2.2.1 - M.2.1, slots := Z.2.2.2 - M.2.2, locals := 43 }) (va_Pc [.ref h0, .int p0, .int p1] (hm_B D dA hCl (hTy dA) sT aK aV z M)) (hm_Q D dA hCl (hTy dA) sT aK aV z (some (.long Z.1)) Z.2) (Z.2.2.1 - M.2.1) (Z.2.2.2 - M.2.2) (fun q => z ≤ q) := by
  refine Met.ofW (cc := b_MD_low) (maxL := 3) (ret := (some .long)) (by decide) rfl ?_
  intro p e s m args below meth c s₁ B hml hv
  obtain ⟨hav, hB⟩ := hv
  have S : CallFix p m c b_MD_low 3 s args w_MD_low R_MD := ⟨B.exec, B.bytes, hml, findClass_of_methodNamed B.named, atoms_spec (ws := w_MD_low) B.pre⟩
  have hr : meth.sig.returnType = (some .long) := B.returns
  have hlocks := B.notSynchronized
  have hK := hB.2.2.1
  have hG := hB.2.2.2.2.2
  have hI := hm_I.start hB
  rw [← hB.2.1]
  generalize M.2.2 = k1 at hI ⊢
  refine W.eq (g2 := F0 m 0 ((lg_sl ([.ref h0, .int p0, .int p1]) ++ List.replicate (3 - (lg_sl ([.ref h0, .int p0, .int p1])).length) Slot.unset).toArray) []) (by rw [hav]; exact lg_entry_eq m ([.ref h0, .int p0, .int p1]) 3) ?_
  have hl := lv_entry ([.ref h0, .int p0, .int p1]) (n := 3) (Nat.le_of_ble_eq_true rfl)
  generalize (lg_sl ([.ref h0, .int p0, .int p1]) ++ List.replicate (3 - (lg_sl ([.ref h0, .int p0, .int p1])).length) Slot.unset).toArray = ls at hl ⊢
  simp only [lvA_nil, lvA_i, lvA_l, lvA_a, lvA_r, Nat.zero_add, Nat.reduceAdd] at hl
  have hret : ∀ (v : Int64) (M : hM) (H : Heap) (locs : List Loc) (cells slots : Nat) (ls : Array Slot) (pc : Nat), decode b_MD_low pc = .ok (.lreturn, 1) → (b_ret v).1 M = some Z → hm_I D dA hCl z k1 s M H locs cells slots → W p l e (headSpec w_MD_low { frames := 2, cells := Z.2.2.1 - s.heap.size, slots := Z.2.2.2 - k1, locals := 43 }).room s m args below meth c H locs cells slots (MQ below (hm_Q D dA hCl (hTy dA) sT aK aV z (some (.long Z.1)) Z.2) args s (Z.2.2.1 - s.heap.size) (Z.2.2.2 - k1) (fun q => z ≤ q)) (F0 m pc ls [.long v]) := fun v M H locs cells slots ls pc hdg hf hI => x_retl S hK hG hI hr hlocks hdg hf
  have hR : Z.2.2.1 - s.heap.size ≤ (headSpec w_MD_low { frames := 2, cells := Z.2.2.1 - s.heap.size, slots := Z.2.2.2 - k1, locals := 43 }).room.cells ∧ Z.2.2.2 - k1 ≤ (headSpec w_MD_low { frames := 2, cells := Z.2.2.1 - s.heap.size, slots := Z.2.2.2 - k1, locals := 43 }).room.slots := ⟨Nat.le_refl _, Nat.le_refl _⟩
  have hRf : 2 ≤ (headSpec w_MD_low { frames := 2, cells := Z.2.2.1 - s.heap.size, slots := Z.2.2.2 - k1, locals := 43 }).room.frames ∧ 43 ≤ (headSpec w_MD_low { frames := 2, cells := Z.2.2.1 - s.heap.size, slots := Z.2.2.2 - k1, locals := 43 }).room.locals := ⟨Nat.le_refl _, Nat.le_refl _⟩
  generalize (headSpec w_MD_low { frames := 2, cells := Z.2.2.1 - s.heap.size, slots := Z.2.2.2 - k1, locals := 43 }).room = R at hret hR hRf ⊢
  generalize (MQ below (hm_Q D dA hCl (hTy dA) sT aK aV z (some (.long Z.1)) Z.2) args s (Z.2.2.1 - s.heap.size) (Z.2.2.2 - k1) (fun q => z ≤ q)) = Q at hret ⊢
  rw [e_MD_low] at hf
  obtain ⟨J32, eJ32, hf⟩ := b_let_inv hf
  have w32 : ∀ (y0 : Int64) (M : hM) (H : Heap) (locs : List Loc) (ls : Array Slot) (cells slots : Nat), (J32 y0).1 M = some Z → hm_I D dA hCl z k1 s M H locs cells slots → lv_has ls 3 [] → W p l e R s m args below meth c H locs cells slots Q (F0 m 32 ls [.long y0]) := by
    intro y0 M H locs ls cells slots hf hI hl
    rw [eJ32] at hf
    exact hret _ _ _ _ _ _ _ _ d_MD_low_32 hf hI
  refine lv_aload_n S.1 S.2.1 d_MD_low_0 rfl (lv_at hl 0 rfl) ?_
  refine lv_iconst (v := 0) S.1 S.2.1 d_MD_low_1 (by decide) ?_
  refine x_put (ci := 1) (k := 0) S hK hI (fun w h => List.mem_cons_of_mem _ (i_MD w h)) t_MD t_MD_ok n_MD rfl (by decide) (List.mem_cons_of_mem _ wd_559) rfl (Or.inl rfl) (by rfl) rfl d_MD_low_2 hf (fun M H locs hf hI => ?_)
  refine lv_aload_n S.1 S.2.1 d_MD_low_5 rfl (lv_at hl 0 rfl) ?_
  refine lv_iload_n S.1 S.2.1 d_MD_low_6 rfl (lv_at hl 1 rfl) ?_
  refine lv_iload_n S.1 S.2.1 d_MD_low_7 rfl (lv_at hl 2 rfl) ?_
  obtain ⟨⟨fs4, hefs4⟩, hf⟩ := b_is_inv hf
  obtain ⟨v1, N2, hg3, hf⟩ := b_call_inv hf
  refine x_call hI (hm_mo hg3) (va_runV (As := [.int p0, .int p1]) (rest := []) S (c_MD_isRow l hg3) (cwV 2 S.2.2.2.2 (gi_V wd_729 wd_730 wd_731 wd_564 wd_732) rfl rfl rfl (by decide +kernel) ⟨Nat.le_trans (Nat.le_of_ble_eq_true rfl) hRf.1, Nat.le_trans (Nat.le_of_ble_eq_true rfl) hRf.2⟩) ⟨hm_B.blind, va_recv hK (hI.1.one hefs4) (ci := 1) (q0 := 0) rfl rfl, fun U hU hW => ⟨rfl, hm_B.of hK hG hI hU hW⟩⟩ rfl rfl hl.1 rfl (lv_room (Nat.le_of_ble_eq_true rfl)) d_MD_low_8 (hx_fit hI hR (hm_mo hg3) (hm_mo hf))) (fun H locs cells slots hI => ?_)
  refine W.eq (g2 := F0 m 11 ls [.int v1]) rfl ?_
  refine lv_if_eq (tgt := 29) S.1 S.2.1 d_MD_low_11 (by decide) (fun hc => ?_) (fun hc => ?_)
  · have hf := b_if_t hc hf
    refine lv_ldc2 (v := (-1)) S.1 S.2.1 S.2.2.2.1 (S.2.2.2.2 _ (List.mem_cons_of_mem _ wd_662)) d_MD_low_29 ?_
    exact w32 (-1) _ _ _ _ _ _ hf hI (lv_sub hl [] rfl)
  · have hf := b_if_f hc hf
    refine lv_aload_n S.1 S.2.1 d_MD_low_14 rfl (lv_at hl 0 rfl) ?_
    refine x_getR (ci := 1) (k := 25) S hK hI (fun w h => List.mem_cons_of_mem _ (i_MD w h)) rfl (by decide) (List.mem_cons_of_mem _ wd_546) rfl d_MD_low_15 hf (fun r5 hf => ?_)
    refine lv_sipush (v := 200) S.1 S.2.1 d_MD_low_18 (by decide) ?_
    refine lv_iload_n S.1 S.2.1 d_MD_low_21 rfl (lv_at hl 1 rfl) ?_
    refine lv_imul S.1 S.2.1 d_MD_low_22 ?_
    refine lv_iload_n S.1 S.2.1 d_MD_low_23 rfl (lv_at hl 2 rfl) ?_
    refine lv_iadd S.1 S.2.1 d_MD_low_24 ?_
    obtain ⟨a6, ea6, hg⟩ := b_nn_inv hf
    have hI0 := hI
    have hl0 := hl
    clear hf hI hl
    subst ea6
    have hf := hg
    have hI := hI0
    have hl := hl0
    clear hg hI0 hl0
    refine x_lald (t := 7) S hK hI rfl d_MD_low_25 hf (fun v7 hf => ?_)
    refine lv_goto (tgt := 32) S.1 S.2.1 d_MD_low_26 (by decide) ?_
    exact w32 v7 _ _ _ _ _ _ hf hI (lv_sub hl [] rfl)
