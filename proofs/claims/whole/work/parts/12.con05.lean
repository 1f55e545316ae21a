set_option maxHeartbeats 4000000 in
set_option maxRecDepth 100000 in
theorem c_Scan_refusal (l : Launch) {D : va_G} {dA : Nat → ClassId} {aK aV : Nat → Nat} {z : Nat} {N : Nat} {h0 : Nat} {M : hM} {Z : Int32 × hM} (hf : (f_Scan_refusal N h0 ).1 M = some Z) : Met l y_Scan_refusal w_Scan_refusal ({ frames := 0, cells := Z.2.2.1 - M.2.1, slots := Z.2.2.2 - M.2.2, locals := 0 }) (va_Pc [.ref h0] (hm_B D dA hCl (hTy dA) sT aK aV z M)) (hm_Q D dA hCl (hTy dA) sT aK aV z (some (.int Z.1)) Z.2) (Z.2.2.1 - M.2.1) (Z.2.2.2 - M.2.2) (fun q => z ≤ q) := by
  refine Met.ofW (cc := b_Scan_refusal) (maxL := 1) (ret := (some .int)) (by decide) rfl ?_
  intro p e s m args below meth c s₁ B hml hv
  obtain ⟨hav, hB⟩ := hv
  have S : CallFix p m c b_Scan_refusal 1 s args w_Scan_refusal R_Scan := ⟨B.exec, B.bytes, hml, findClass_of_methodNamed B.named, atoms_spec (ws := w_Scan_refusal) B.pre⟩
  have hr : meth.sig.returnType = (some .int) := B.returns
  have hlocks := B.notSynchronized
  have hK := hB.2.2.1
  have hG := hB.2.2.2.2.2
  have hI := hm_I.start hB
  rw [← hB.2.1]
  generalize M.2.2 = k1 at hI ⊢
  refine W.eq (g2 := F0 m 0 ((lg_sl ([.ref h0]) ++ List.replicate (1 - (lg_sl ([.ref h0])).length) Slot.unset).toArray) []) (by rw [hav]; exact lg_entry_eq m ([.ref h0]) 1) ?_
  have hl := lv_entry ([.ref h0]) (n := 1) (Nat.le_of_ble_eq_true rfl)
  generalize (lg_sl ([.ref h0]) ++ List.replicate (1 - (lg_sl ([.ref h0])).length) Slot.unset).toArray = ls at hl ⊢
  simp only [lvA_nil, lvA_i, lvA_l, lvA_a, lvA_r, Nat.zero_add, Nat.reduceAdd] at hl
  have hret : ∀ (v : Int32) (M : hM) (H : Heap) (locs : List Loc) (cells slots : Nat) (ls : Array Slot) (pc : Nat), decode b_Scan_refusal pc = .ok (.ireturn, 1) → (b_ret v).1 M = some Z → hm_I D dA hCl z k1 s M H locs cells slots → W p l e (headSpec w_Scan_refusal { frames := 0, cells := Z.2.2.1 - s.heap.size, slots := Z.2.2.2 - k1, locals := 0 }).room s m args below meth c H locs cells slots (MQ below (hm_Q D dA hCl (hTy dA) sT aK aV z (some (.int Z.1)) Z.2) args s (Z.2.2.1 - s.heap.size) (Z.2.2.2 - k1) (fun q => z ≤ q)) (F0 m pc ls [.int v]) := fun v M H locs cells slots ls pc hdg hf hI => x_reti S hK hG hI hr hlocks hdg hf
  have hR : Z.2.2.1 - s.heap.size ≤ (headSpec w_Scan_refusal { frames := 0, cells := Z.2.2.1 - s.heap.size, slots := Z.2.2.2 - k1, locals := 0 }).room.cells ∧ Z.2.2.2 - k1 ≤ (headSpec w_Scan_refusal { frames := 0, cells := Z.2.2.1 - s.heap.size, slots := Z.2.2.2 - k1, locals := 0 }).room.slots := ⟨Nat.le_refl _, Nat.le_refl _⟩
  have hRf : 0 ≤ (headSpec w_Scan_refusal { frames := 0, cells := Z.2.2.1 - s.heap.size, slots := Z.2.2.2 - k1, locals := 0 }).room.frames ∧ 0 ≤ (headSpec w_Scan_refusal { frames := 0, cells := Z.2.2.1 - s.heap.size, slots := Z.2.2.2 - k1, locals := 0 }).room.locals := ⟨Nat.le_refl _, Nat.le_refl _⟩
  generalize (headSpec w_Scan_refusal { frames := 0, cells := Z.2.2.1 - s.heap.size, slots := Z.2.2.2 - k1, locals := 0 }).room = R at hret hR hRf ⊢
  generalize (MQ below (hm_Q D dA hCl (hTy dA) sT aK aV z (some (.int Z.1)) Z.2) args s (Z.2.2.1 - s.heap.size) (Z.2.2.2 - k1) (fun q => z ≤ q)) = Q at hret ⊢
  rw [e_Scan_refusal] at hf
  refine lv_iconst (v := (-1)) S.1 S.2.1 d_Scan_refusal_0 (by decide) ?_
  refine lv_aload_n S.1 S.2.1 d_Scan_refusal_1 rfl (lv_at hl 0 rfl) ?_
  refine x_getI (ci := 8) (k := 3) S hK hI (fun w h => List.mem_cons_of_mem _ (i_Scan w h)) rfl (by decide) (List.mem_cons_of_mem _ wd_55) rfl d_Scan_refusal_2 hf (fun v1 hf => ?_)
  refine lv_isub S.1 S.2.1 d_Scan_refusal_5 ?_
  exact hret _ _ _ _ _ _ _ _ d_Scan_refusal_6 hf hI
set_option maxHeartbeats 4000000 in
set_option maxRecDepth 100000 in
theorem c_PR_read (l : Launch) {D : va_G} {dA : Nat → ClassId} {aK aV : Nat → Nat} {z : Nat} {N : Nat} {h0 : Nat} {M : hM} {Z : Int32 × hM} (hf : (f_PR_read N h0 ).1 M = some Z) : Met l y_PR_read w_PR_read ({ frames := 8, cells := Z.2.2.1 - M.2.1, slots := Z.2.2.2 - M.2.2, locals := 170 }) (va_Pc [.ref h0] (hm_B D dA hCl (hTy dA) sT aK aV z M)) (hm_Q D dA hCl (hTy dA) sT aK aV z (some (.int Z.1)) Z.2) (Z.2.2.1 - M.2.1) (Z.2.2.2 - M.2.2) (fun q => z ≤ q) := by
  refine Met.ofW (cc := b_PR_read) (maxL := 2) (ret := (some .int)) (by decide) rfl ?_
  intro p e s m args below meth c s₁ B hml hv
  obtain ⟨hav, hB⟩ := hv
  have S : CallFix p m c b_PR_read 2 s args w_PR_read R_PR := ⟨B.exec, B.bytes, hml, findClass_of_methodNamed B.named, atoms_spec (ws := w_PR_read) B.pre⟩
  have hr : meth.sig.returnType = (some .int) := B.returns
  have hlocks := B.notSynchronized
  have hK := hB.2.2.1
  have hG := hB.2.2.2.2.2
  have hI := hm_I.start hB
  rw [← hB.2.1]
  generalize M.2.2 = k1 at hI ⊢
  refine W.eq (g2 := F0 m 0 ((lg_sl ([.ref h0]) ++ List.replicate (2 - (lg_sl ([.ref h0])).length) Slot.unset).toArray) []) (by rw [hav]; exact lg_entry_eq m ([.ref h0]) 2) ?_
  have hl := lv_entry ([.ref h0]) (n := 2) (Nat.le_of_ble_eq_true rfl)
  generalize (lg_sl ([.ref h0]) ++ List.replicate (2 - (lg_sl ([.ref h0])).length) Slot.unset).toArray = ls at hl ⊢
  simp only [lvA_nil, lvA_i, lvA_l, lvA_a, lvA_r, Nat.zero_add, Nat.reduceAdd] at hl
  have hret : ∀ (v : Int32) (M : hM) (H : Heap) (locs : List Loc) (cells slots : Nat) (ls : Array Slot) (pc : Nat), decode b_PR_read pc = .ok (.ireturn, 1) → (b_ret v).1 M = some Z → hm_I D dA hCl z k1 s M H locs cells slots → W p l e (headSpec w_PR_read { frames := 8, cells := Z.2.2.1 - s.heap.size, slots := Z.2.2.2 - k1, locals := 170 }).room s m args below meth c H locs cells slots (MQ below (hm_Q D dA hCl (hTy dA) sT aK aV z (some (.int Z.1)) Z.2) args s (Z.2.2.1 - s.heap.size) (Z.2.2.2 - k1) (fun q => z ≤ q)) (F0 m pc ls [.int v]) := fun v M H locs cells slots ls pc hdg hf hI => x_reti S hK hG hI hr hlocks hdg hf
  have hR : Z.2.2.1 - s.heap.size ≤ (headSpec w_PR_read { frames := 8, cells := Z.2.2.1 - s.heap.size, slots := Z.2.2.2 - k1, locals := 170 }).room.cells ∧ Z.2.2.2 - k1 ≤ (headSpec w_PR_read { frames := 8, cells := Z.2.2.1 - s.heap.size, slots := Z.2.2.2 - k1, locals := 170 }).room.slots := ⟨Nat.le_refl _, Nat.le_refl _⟩
  have hRf : 8 ≤ (headSpec w_PR_read { frames := 8, cells := Z.2.2.1 - s.heap.size, slots := Z.2.2.2 - k1, locals := 170 }).room.frames ∧ 170 ≤ (headSpec w_PR_read { frames := 8, cells := Z.2.2.1 - s.heap.size, slots := Z.2.2.2 - k1, locals := 170 }).room.locals := ⟨Nat.le_refl _, Nat.le_refl _⟩
  generalize (headSpec w_PR_read { frames := 8, cells := Z.2.2.1 - s.heap.size, slots := Z.2.2.2 - k1, locals := 170 }).room = R at hret hR hRf ⊢
  generalize (MQ below (hm_Q D dA hCl (hTy dA) sT aK aV z (some (.int Z.1)) Z.2) args s (Z.2.2.1 - s.heap.size) (Z.2.2.2 - k1) (fun q => z ≤ q)) = Q at hret ⊢
  rw [e_PR_read] at hf
  refine lv_aload_n S.1 S.2.1 d_PR_read_0 rfl (lv_at hl 0 rfl) ?_
  refine x_getR (ci := 0) (k := 1) S hK hI (fun w h => List.mem_cons_of_mem _ (i_PR w h)) rfl (by decide) (List.mem_cons_of_mem _ wd_26) rfl d_PR_read_1 hf (fun r1 hf => ?_)
  obtain ⟨a2, ea2, hg⟩ := b_nn_inv hf
  have hI0 := hI
  have hl0 := hl
  clear hf hI hl
  subst ea2
  have hf := hg
  have hI := hI0
  have hl := hl0
  clear hg hI0 hl0
  obtain ⟨⟨fs6, hefs6⟩, hf⟩ := b_is_inv hf
  obtain ⟨r3, N4, hg5, hf⟩ := b_call_inv hf
  refine x_call hI (hm_mo hg5) (va_runV (As := []) (rest := []) S (c_Scan_begin l hg5) (cwV 0 S.2.2.2.2 (gi_V wd_58 wd_59 wd_60 wd_9 wd_61) rfl rfl rfl (by decide +kernel) ⟨Nat.le_trans (Nat.le_of_ble_eq_true rfl) hRf.1, Nat.le_trans (Nat.le_of_ble_eq_true rfl) hRf.2⟩) ⟨hm_B.blind, va_recv hK (hI.1.one hefs6) (ci := 8) (q0 := 0) rfl rfl, fun U hU hW => ⟨rfl, hm_B.of hK hG hI hU hW⟩⟩ rfl rfl hl.1 rfl (lv_room (Nat.le_of_ble_eq_true rfl)) d_PR_read_4 (hx_fit hI hR (hm_mo hg5) (hm_mo hf))) (fun H locs cells slots hI => ?_)
  refine W.eq (g2 := F0 m 7 ls []) rfl ?_
  refine lv_aload_n S.1 S.2.1 d_PR_read_7 rfl (lv_at hl 0 rfl) ?_
  refine x_getR (ci := 0) (k := 0) S hK hI (fun w h => List.mem_cons_of_mem _ (i_PR w h)) rfl (by decide) (List.mem_cons_of_mem _ wd_24) rfl d_PR_read_8 hf (fun r7 hf => ?_)
  obtain ⟨a8, ea8, hg⟩ := b_nn_inv hf
  have hI0 := hI
  have hl0 := hl
  clear hf hI hl
  subst ea8
  have hf := hg
  have hI := hI0
  have hl := hl0
  clear hg hI0 hl0
  obtain ⟨⟨fs12, hefs12⟩, hf⟩ := b_is_inv hf
  obtain ⟨v9, N10, hg11, hf⟩ := b_call_inv hf
  refine x_call hI (hm_mo hg11) (va_runV (As := []) (rest := []) S (c_Reader_takeText l hg11) (cwV 0 S.2.2.2.2 (gi_V wd_262 wd_263 wd_264 wd_5 wd_265) rfl rfl rfl (by decide +kernel) ⟨Nat.le_trans (Nat.le_of_ble_eq_true rfl) hRf.1, Nat.le_trans (Nat.le_of_ble_eq_true rfl) hRf.2⟩) ⟨hm_B.blind, va_recv hK (hI.1.one hefs12) (ci := 6) (q0 := 0) rfl rfl, fun U hU hW => ⟨rfl, hm_B.of hK hG hI hU hW⟩⟩ rfl rfl hl.1 rfl (lv_room (Nat.le_of_ble_eq_true rfl)) d_PR_read_11 (hx_fit hI hR (hm_mo hg11) (hm_mo hf))) (fun H locs cells slots hI => ?_)
  refine W.eq (g2 := F0 m 14 ls [.int v9]) rfl ?_
  refine x_istore_n (lv2 := [(0, .ref h0)]) S d_PR_read_14 rfl hl (by decide) [0] rfl ⟨⟨(by decide : (0 : Nat) ≠ 1), fun _ => rfl⟩, trivial⟩ (fun ls hl => ?_)
  refine lv_aload_n S.1 S.2.1 d_PR_read_15 rfl (lv_at hl 1 rfl) ?_
  refine x_getR (ci := 0) (k := 1) S hK hI (fun w h => List.mem_cons_of_mem _ (i_PR w h)) rfl (by decide) (List.mem_cons_of_mem _ wd_26) rfl d_PR_read_16 hf (fun r13 hf => ?_)
  obtain ⟨a14, ea14, hg⟩ := b_nn_inv hf
  have hI0 := hI
  have hl0 := hl
  clear hf hI hl
  subst ea14
  have hf := hg
  have hI := hI0
  have hl := hl0
  clear hg hI0 hl0
  obtain ⟨⟨fs18, hefs18⟩, hf⟩ := b_is_inv hf
  obtain ⟨r15, N16, hg17, hf⟩ := b_call_inv hf
  refine x_call hI (hm_mo hg17) (va_runV (As := []) (rest := []) S (c_Scan_useUp l hg17) (cwV 0 S.2.2.2.2 (gi_V wd_266 wd_267 wd_268 wd_9 wd_269) rfl rfl rfl (by decide +kernel) ⟨Nat.le_trans (Nat.le_of_ble_eq_true rfl) hRf.1, Nat.le_trans (Nat.le_of_ble_eq_true rfl) hRf.2⟩) ⟨hm_B.blind, va_recv hK (hI.1.one hefs18) (ci := 8) (q0 := 0) rfl rfl, fun U hU hW => ⟨rfl, hm_B.of hK hG hI hU hW⟩⟩ rfl rfl hl.1 rfl (lv_room (Nat.le_of_ble_eq_true rfl)) d_PR_read_19 (hx_fit hI hR (hm_mo hg17) (hm_mo hf))) (fun H locs cells slots hI => ?_)
  refine W.eq (g2 := F0 m 22 ls []) rfl ?_
  refine lv_iload_n S.1 S.2.1 d_PR_read_22 rfl (lv_at hl 0 rfl) ?_
  refine lv_if_ne (tgt := 34) S.1 S.2.1 d_PR_read_23 (by decide) (fun hc => ?_) (fun hc => ?_)
  · have hf := b_if_f hc hf
    refine lv_aload_n S.1 S.2.1 d_PR_read_34 rfl (lv_at hl 1 rfl) ?_
    refine x_getI (ci := 0) (k := 3) S hK hI (fun w h => List.mem_cons_of_mem _ (i_PR w h)) rfl (by decide) (List.mem_cons_of_mem _ wd_270) rfl d_PR_read_35 hf (fun v19 hf => ?_)
    refine lv_aload_n S.1 S.2.1 d_PR_read_38 rfl (lv_at hl 1 rfl) ?_
    refine x_getR (ci := 0) (k := 2) S hK hI (fun w h => List.mem_cons_of_mem _ (i_PR w h)) rfl (by decide) (List.mem_cons_of_mem _ wd_28) rfl d_PR_read_39 hf (fun r20 hf => ?_)
    obtain ⟨a21, ea21, hg⟩ := b_nn_inv hf
    have hI0 := hI
    have hl0 := hl
    clear hf hI hl
    subst ea21
    have hf := hg
    have hI := hI0
    have hl := hl0
    clear hg hI0 hl0
    refine x_len (t := 4) S hK hI rfl d_PR_read_42 hf (fun v22 hf => ?_)
    refine lv_icmp_lt (tgt := 50) S.1 S.2.1 d_PR_read_43 (by decide) (fun hc => ?_) (fun hc => ?_)
    · have hf := b_if_t hc hf
      refine lv_aload_n S.1 S.2.1 d_PR_read_50 rfl (lv_at hl 1 rfl) ?_
      refine x_getR (ci := 0) (k := 2) S hK hI (fun w h => List.mem_cons_of_mem _ (i_PR w h)) rfl (by decide) (List.mem_cons_of_mem _ wd_28) rfl d_PR_read_51 hf (fun r23 hf => ?_)
      refine lv_aload_n S.1 S.2.1 d_PR_read_54 rfl (lv_at hl 1 rfl) ?_
      refine x_getI (ci := 0) (k := 3) S hK hI (fun w h => List.mem_cons_of_mem _ (i_PR w h)) rfl (by decide) (List.mem_cons_of_mem _ wd_270) rfl d_PR_read_55 hf (fun v24 hf => ?_)
      refine lv_aload_n S.1 S.2.1 d_PR_read_58 rfl (lv_at hl 1 rfl) ?_
      refine x_getR (ci := 0) (k := 0) S hK hI (fun w h => List.mem_cons_of_mem _ (i_PR w h)) rfl (by decide) (List.mem_cons_of_mem _ wd_24) rfl d_PR_read_59 hf (fun r25 hf => ?_)
      obtain ⟨a26, ea26, hg⟩ := b_nn_inv hf
      have hI0 := hI
      have hl0 := hl
      clear hf hI hl
      subst ea26
      have hf := hg
      have hI := hI0
      have hl := hl0
      clear hg hI0 hl0
      obtain ⟨⟨fs30, hefs30⟩, hf⟩ := b_is_inv hf
      obtain ⟨r27, N28, hg29, hf⟩ := b_call_inv hf
      refine x_call hI (hm_mo hg29) (va_runV (As := []) (rest := [.int v24, va_rf r23]) S (c_Reader_makePack l hg29) (cwV 0 S.2.2.2.2 (gi_V wd_351 wd_352 wd_353 wd_5 wd_354) rfl rfl rfl (by decide +kernel) ⟨Nat.le_trans (Nat.le_of_ble_eq_true rfl) hRf.1, Nat.le_trans (Nat.le_of_ble_eq_true rfl) hRf.2⟩) ⟨hm_B.blind, va_recv hK (hI.1.one hefs30) (ci := 6) (q0 := 0) rfl rfl, fun U hU hW => ⟨rfl, hm_B.of hK hG hI hU hW⟩⟩ rfl rfl hl.1 rfl (lv_room (by simp only [List.map_cons, List.map_nil, List.sum_cons, List.sum_nil, rf_cat, cat_i, cat_l, cat_a, cat_n]; exact Nat.le_of_ble_eq_true rfl)) d_PR_read_62 (hx_fit hI hR (hm_mo hg29) (hm_mo hf))) (fun H locs cells slots hI => ?_)
      refine W.eq (g2 := F0 m 65 ls [va_rf r27, .int v24, va_rf r23]) rfl ?_
      obtain ⟨a31, ea31, hg⟩ := b_nn_inv hf
      have hI0 := hI
      have hl0 := hl
      clear hf hI hl
      subst ea31
      have hf := hg
      have hI := hI0
      have hl := hl0
      clear hg hI0 hl0
      refine x_aast (t := 4) (r := r27) S hK hI rfl rfl d_PR_read_65 hf (fun M H locs hf hI => ?_)
      refine lv_aload_n S.1 S.2.1 d_PR_read_66 rfl (lv_at hl 1 rfl) ?_
      refine lv_dup S.1 S.2.1 d_PR_read_67 rfl ?_
      refine x_getI (ci := 0) (k := 3) S hK hI (fun w h => List.mem_cons_of_mem _ (i_PR w h)) rfl (by decide) (List.mem_cons_of_mem _ wd_270) rfl d_PR_read_68 hf (fun v32 hf => ?_)
      refine lv_iconst (v := 1) S.1 S.2.1 d_PR_read_71 (by decide) ?_
      refine lv_iadd S.1 S.2.1 d_PR_read_72 ?_
      refine x_put (ci := 0) (k := 3) S hK hI (fun w h => List.mem_cons_of_mem _ (i_PR w h)) t_PR t_PR_ok n_PR rfl (by decide) (List.mem_cons_of_mem _ wd_270) rfl (Or.inl rfl) (by rfl) rfl d_PR_read_73 hf (fun M H locs hf hI => ?_)
      refine lv_aload_n S.1 S.2.1 d_PR_read_76 rfl (lv_at hl 1 rfl) ?_
      refine x_getI (ci := 0) (k := 3) S hK hI (fun w h => List.mem_cons_of_mem _ (i_PR w h)) rfl (by decide) (List.mem_cons_of_mem _ wd_270) rfl d_PR_read_77 hf (fun v33 hf => ?_)
      refine lv_iconst (v := 1) S.1 S.2.1 d_PR_read_80 (by decide) ?_
      refine lv_isub S.1 S.2.1 d_PR_read_81 ?_
      exact hret _ _ _ _ _ _ _ _ d_PR_read_82 hf hI
    · have hf := b_if_f hc hf
      refine lv_sipush (v := (-10000)) S.1 S.2.1 d_PR_read_46 (by decide) ?_
      exact hret _ _ _ _ _ _ _ _ d_PR_read_49 hf hI
  · have hf := b_if_t hc hf
    refine lv_aload_n S.1 S.2.1 d_PR_read_26 rfl (lv_at hl 1 rfl) ?_
    refine x_getR (ci := 0) (k := 1) S hK hI (fun w h => List.mem_cons_of_mem _ (i_PR w h)) rfl (by decide) (List.mem_cons_of_mem _ wd_26) rfl d_PR_read_27 hf (fun r34 hf => ?_)
    obtain ⟨a35, ea35, hg⟩ := b_nn_inv hf
    have hI0 := hI
    have hl0 := hl
    clear hf hI hl
    subst ea35
    have hf := hg
    have hI := hI0
    have hl := hl0
    clear hg hI0 hl0
    obtain ⟨⟨fs39, hefs39⟩, hf⟩ := b_is_inv hf
    obtain ⟨v36, N37, hg38, hf⟩ := b_call_inv hf
    refine x_call hI (hm_mo hg38) (va_runV (As := []) (rest := []) S (c_Scan_refusal l hg38) (cwV 0 S.2.2.2.2 (gi_V wd_355 wd_356 wd_357 wd_9 wd_358) rfl rfl rfl (by decide +kernel) ⟨Nat.le_trans (Nat.le_of_ble_eq_true rfl) hRf.1, Nat.le_trans (Nat.le_of_ble_eq_true rfl) hRf.2⟩) ⟨hm_B.blind, va_recv hK (hI.1.one hefs39) (ci := 8) (q0 := 0) rfl rfl, fun U hU hW => ⟨rfl, hm_B.of hK hG hI hU hW⟩⟩ rfl rfl hl.1 rfl (lv_room (Nat.le_of_ble_eq_true rfl)) d_PR_read_30 (hx_fit hI hR (hm_mo hg38) (hm_mo hf))) (fun H locs cells slots hI => ?_)
    refine W.eq (g2 := F0 m 33 ls [.int v36]) rfl ?_
    exact hret _ _ _ _ _ _ _ _ d_PR_read_33 hf hI
set_option maxHeartbeats 4000000 in
set_option maxRecDepth 100000 in
theorem c_PR_packOf (l : Launch) {D : va_G} {dA : Nat → ClassId} {aK aV : Nat → Nat} {z : Nat} {N : Nat} {h0 : Nat} {p0 : Int32} {M : hM} {Z : Option Nat × hM} (hf : (f_PR_packOf N h0 p0).1 M = some Z) : Met l y_PR_packOf w_PR_packOf ({ frames := 0, cells := Z.2.2.1 - M.2.1, slots := Z.2.2.2 - M.2.2, locals := 0 }) (va_Pc [.ref h0, .int p0] (hm_B D dA hCl (hTy dA) sT aK aV z M)) (hm_Q D dA hCl (hTy dA) sT aK aV z (some (va_rf Z.1)) Z.2) (Z.2.2.1 - M.2.1) (Z.2.2.2 - M.2.2) (fun q => z ≤ q) := by
  refine Met.ofW (cc := b_PR_packOf) (maxL := 2) (ret := (some (.object "PackageRows$Pack"))) (by decide) rfl ?_
  intro p e s m args below meth c s₁ B hml hv
  obtain ⟨hav, hB⟩ := hv
  have S : CallFix p m c b_PR_packOf 2 s args w_PR_packOf R_PR := ⟨B.exec, B.bytes, hml, findClass_of_methodNamed B.named, atoms_spec (ws := w_PR_packOf) B.pre⟩
  have hr : meth.sig.returnType = (some (.object "PackageRows$Pack")) := B.returns
  have hlocks := B.notSynchronized
  have hK := hB.2.2.1
  have hG := hB.2.2.2.2.2
  have hI := hm_I.start hB
  rw [← hB.2.1]
  generalize M.2.2 = k1 at hI ⊢
  refine W.eq (g2 := F0 m 0 ((lg_sl ([.ref h0, .int p0]) ++ List.replicate (2 - (lg_sl ([.ref h0, .int p0])).length) Slot.unset).toArray) []) (by rw [hav]; exact lg_entry_eq m ([.ref h0, .int p0]) 2) ?_
  have hl := lv_entry ([.ref h0, .int p0]) (n := 2) (Nat.le_of_ble_eq_true rfl)
  generalize (lg_sl ([.ref h0, .int p0]) ++ List.replicate (2 - (lg_sl ([.ref h0, .int p0])).length) Slot.unset).toArray = ls at hl ⊢
  simp only [lvA_nil, lvA_i, lvA_l, lvA_a, lvA_r, Nat.zero_add, Nat.reduceAdd] at hl
  have hret : ∀ (v : Option Nat) (M : hM) (H : Heap) (locs : List Loc) (cells slots : Nat) (ls : Array Slot) (pc : Nat), decode b_PR_packOf pc = .ok (.areturn, 1) → (b_ret v).1 M = some Z → hm_I D dA hCl z k1 s M H locs cells slots → W p l e (headSpec w_PR_packOf { frames := 0, cells := Z.2.2.1 - s.heap.size, slots := Z.2.2.2 - k1, locals := 0 }).room s m args below meth c H locs cells slots (MQ below (hm_Q D dA hCl (hTy dA) sT aK aV z (some (va_rf Z.1)) Z.2) args s (Z.2.2.1 - s.heap.size) (Z.2.2.2 - k1) (fun q => z ≤ q)) (F0 m pc ls [va_rf v]) := fun v M H locs cells slots ls pc hdg hf hI => x_retr S hK hG hI hr (Or.inl ⟨_, rfl⟩) hlocks hdg hf
  have hR : Z.2.2.1 - s.heap.size ≤ (headSpec w_PR_packOf { frames := 0, cells := Z.2.2.1 - s.heap.size, slots := Z.2.2.2 - k1, locals := 0 }).room.cells ∧ Z.2.2.2 - k1 ≤ (headSpec w_PR_packOf { frames := 0, cells := Z.2.2.1 - s.heap.size, slots := Z.2.2.2 - k1, locals := 0 }).room.slots := ⟨Nat.le_refl _, Nat.le_refl _⟩
  have hRf : 0 ≤ (headSpec w_PR_packOf { frames := 0, cells := Z.2.2.1 - s.heap.size, slots := Z.2.2.2 - k1, locals := 0 }).room.frames ∧ 0 ≤ (headSpec w_PR_packOf { frames := 0, cells := Z.2.2.1 - s.heap.size, slots := Z.2.2.2 - k1, locals := 0 }).room.locals := ⟨Nat.le_refl _, Nat.le_refl _⟩
  generalize (headSpec w_PR_packOf { frames := 0, cells := Z.2.2.1 - s.heap.size, slots := Z.2.2.2 - k1, locals := 0 }).room = R at hret hR hRf ⊢
  generalize (MQ below (hm_Q D dA hCl (hTy dA) sT aK aV z (some (va_rf Z.1)) Z.2) args s (Z.2.2.1 - s.heap.size) (Z.2.2.2 - k1) (fun q => z ≤ q)) = Q at hret ⊢
  rw [e_PR_packOf] at hf
  obtain ⟨J22, eJ22, hf⟩ := b_let_inv hf
  have w22 : ∀ (y0 : Option Nat) (M : hM) (H : Heap) (locs : List Loc) (ls : Array Slot) (cells slots : Nat), (J22 y0).1 M = some Z → hm_I D dA hCl z k1 s M H locs cells slots → lv_has ls 2 [] → W p l e R s m args below meth c H locs cells slots Q (F0 m 22 ls [va_rf y0]) := by
    intro y0 M H locs ls cells slots hf hI hl
    rw [eJ22] at hf
    exact hret y0 _ _ _ _ _ _ _ d_PR_packOf_22 hf hI
  obtain ⟨J12, eJ12, hf⟩ := b_let_inv hf
  have w12 : ∀  (M : hM) (H : Heap) (locs : List Loc) (ls : Array Slot) (cells slots : Nat), (J12).1 M = some Z → hm_I D dA hCl z k1 s M H locs cells slots → lv_has ls 2 [] → W p l e R s m args below meth c H locs cells slots Q (F0 m 12 ls []) := by
    intro M H locs ls cells slots hf hI hl
    rw [eJ12] at hf
    refine lv_null S.1 S.2.1 d_PR_packOf_12 ?_
    refine lv_goto (tgt := 22) S.1 S.2.1 d_PR_packOf_13 (by decide) ?_
    exact w22 none _ _ _ _ _ _ hf hI (lv_sub hl [] rfl)
  refine lv_iload_n S.1 S.2.1 d_PR_packOf_0 rfl (lv_at hl 1 rfl) ?_
  refine lv_if_lt (tgt := 12) S.1 S.2.1 d_PR_packOf_1 (by decide) (fun hc => ?_) (fun hc => ?_)
  · have hf := b_if_t hc hf
    exact w12  _ _ _ _ _ _ hf hI (lv_sub hl [] rfl)
  · have hf := b_if_f hc hf
    refine lv_iload_n S.1 S.2.1 d_PR_packOf_4 rfl (lv_at hl 1 rfl) ?_
    refine lv_aload_n S.1 S.2.1 d_PR_packOf_5 rfl (lv_at hl 0 rfl) ?_
    refine x_getI (ci := 0) (k := 3) S hK hI (fun w h => List.mem_cons_of_mem _ (i_PR w h)) rfl (by decide) (List.mem_cons_of_mem _ wd_270) rfl d_PR_packOf_6 hf (fun v1 hf => ?_)
    refine lv_icmp_lt (tgt := 16) S.1 S.2.1 d_PR_packOf_9 (by decide) (fun hc => ?_) (fun hc => ?_)
    · have hf := b_if_t hc hf
      refine lv_aload_n S.1 S.2.1 d_PR_packOf_16 rfl (lv_at hl 0 rfl) ?_
      refine x_getR (ci := 0) (k := 2) S hK hI (fun w h => List.mem_cons_of_mem _ (i_PR w h)) rfl (by decide) (List.mem_cons_of_mem _ wd_28) rfl d_PR_packOf_17 hf (fun r2 hf => ?_)
      refine lv_iload_n S.1 S.2.1 d_PR_packOf_20 rfl (lv_at hl 1 rfl) ?_
      obtain ⟨a3, ea3, hg⟩ := b_nn_inv hf
      have hI0 := hI
      have hl0 := hl
      clear hf hI hl
      subst ea3
      have hf := hg
      have hI := hI0
      have hl := hl0
      clear hg hI0 hl0
      refine x_aald (t := 4) S hK hI rfl d_PR_packOf_21 hf (fun r4 hf => ?_)
      exact w22 r4 _ _ _ _ _ _ hf hI (lv_sub hl [] rfl)
    · have hf := b_if_f hc hf
      exact w12  _ _ _ _ _ _ hf hI (lv_sub hl [] rfl)
set_option maxHeartbeats 4000000 in
set_option maxRecDepth 100000 in
theorem c_PR_rows (l : Launch) {D : va_G} {dA : Nat → ClassId} {aK aV : Nat → Nat} {z : Nat} {N : Nat} {h0 : Nat} {p0 : Int32} {M : hM} {Z : Int32 × hM} (hf : (f_PR_rows N h0 p0).1 M = some Z) : Met l y_PR_rows w_PR_rows ({ frames := 1, cells := Z.2.2.1 - M.2.1, slots := Z.2.2.2 - M.2.2, locals := 21 }) (va_Pc [.ref h0, .int p0] (hm_B D dA hCl (hTy dA) sT aK aV z M)) (hm_Q D dA hCl (hTy dA) sT aK aV z (some (.int Z.1)) Z.2) (Z.2.2.1 - M.2.1) (Z.2.2.2 - M.2.2) (fun q => z ≤ q) := by
  refine Met.ofW (cc := b_PR_rows) (maxL := 3) (ret := (some .int)) (by decide) rfl ?_
  intro p e s m args below meth c s₁ B hml hv
  obtain ⟨hav, hB⟩ := hv
  have S : CallFix p m c b_PR_rows 3 s args w_PR_rows R_PR := ⟨B.exec, B.bytes, hml, findClass_of_methodNamed B.named, atoms_spec (ws := w_PR_rows) B.pre⟩
  have hr : meth.sig.returnType = (some .int) := B.returns
  have hlocks := B.notSynchronized
  have hK := hB.2.2.1
  have hG := hB.2.2.2.2.2
  have hI := hm_I.start hB
  rw [← hB.2.1]
  generalize M.2.2 = k1 at hI ⊢
  refine W.eq (g2 := F0 m 0 ((lg_sl ([.ref h0, .int p0]) ++ List.replicate (3 - (lg_sl ([.ref h0, .int p0])).length) Slot.unset).toArray) []) (by rw [hav]; exact lg_entry_eq m ([.ref h0, .int p0]) 3) ?_
  have hl := lv_entry ([.ref h0, .int p0]) (n := 3) (Nat.le_of_ble_eq_true rfl)
  generalize (lg_sl ([.ref h0, .int p0]) ++ List.replicate (3 - (lg_sl ([.ref h0, .int p0])).length) Slot.unset).toArray = ls at hl ⊢
  simp only [lvA_nil, lvA_i, lvA_l, lvA_a, lvA_r, Nat.zero_add, Nat.reduceAdd] at hl
  have hret : ∀ (v : Int32) (M : hM) (H : Heap) (locs : List Loc) (cells slots : Nat) (ls : Array Slot) (pc : Nat), decode b_PR_rows pc = .ok (.ireturn, 1) → (b_ret v).1 M = some Z → hm_I D dA hCl z k1 s M H locs cells slots → W p l e (headSpec w_PR_rows { frames := 1, cells := Z.2.2.1 - s.heap.size, slots := Z.2.2.2 - k1, locals := 21 }).room s m args below meth c H locs cells slots (MQ below (hm_Q D dA hCl (hTy dA) sT aK aV z (some (.int Z.1)) Z.2) args s (Z.2.2.1 - s.heap.size) (Z.2.2.2 - k1) (fun q => z ≤ q)) (F0 m pc ls [.int v]) := fun v M H locs cells slots ls pc hdg hf hI => x_reti S hK hG hI hr hlocks hdg hf
  have hR : Z.2.2.1 - s.heap.size ≤ (headSpec w_PR_rows { frames := 1, cells := Z.2.2.1 - s.heap.size, slots := Z.2.2.2 - k1, locals := 21 }).room.cells ∧ Z.2.2.2 - k1 ≤ (headSpec w_PR_rows { frames := 1, cells := Z.2.2.1 - s.heap.size, slots := Z.2.2.2 - k1, locals := 21 }).room.slots := ⟨Nat.le_refl _, Nat.le_refl _⟩
  have hRf : 1 ≤ (headSpec w_PR_rows { frames := 1, cells := Z.2.2.1 - s.heap.size, slots := Z.2.2.2 - k1, locals := 21 }).room.frames ∧ 21 ≤ (headSpec w_PR_rows { frames := 1, cells := Z.2.2.1 - s.heap.size, slots := Z.2.2.2 - k1, locals := 21 }).room.locals := ⟨Nat.le_refl _, Nat.le_refl _⟩
  generalize (headSpec w_PR_rows { frames := 1, cells := Z.2.2.1 - s.heap.size, slots := Z.2.2.2 - k1, locals := 21 }).room = R at hret hR hRf ⊢
  generalize (MQ below (hm_Q D dA hCl (hTy dA) sT aK aV z (some (.int Z.1)) Z.2) args s (Z.2.2.1 - s.heap.size) (Z.2.2.2 - k1) (fun q => z ≤ q)) = Q at hret ⊢
  rw [e_PR_rows] at hf
  obtain ⟨J19, eJ19, hf⟩ := b_let_inv hf
  have w19 : ∀ (y0 : Int32) (M : hM) (H : Heap) (locs : List Loc) (ls : Array Slot) (cells slots : Nat), (J19 y0).1 M = some Z → hm_I D dA hCl z k1 s M H locs cells slots → lv_has ls 3 [] → W p l e R s m args below meth c H locs cells slots Q (F0 m 19 ls [.int y0]) := by
    intro y0 M H locs ls cells slots hf hI hl
    rw [eJ19] at hf
    exact hret _ _ _ _ _ _ _ _ d_PR_rows_19 hf hI
  refine lv_aload_n S.1 S.2.1 d_PR_rows_0 rfl (lv_at hl 0 rfl) ?_
  refine lv_iload_n S.1 S.2.1 d_PR_rows_1 rfl (lv_at hl 1 rfl) ?_
  obtain ⟨⟨fs4, hefs4⟩, hf⟩ := b_is_inv hf
  obtain ⟨r1, N2, hg3, hf⟩ := b_call_inv hf
  refine x_call hI (hm_mo hg3) (va_runV (As := [.int p0]) (rest := []) S (c_PR_packOf l hg3) (cwV 1 S.2.2.2.2 (gi_V wd_359 wd_360 wd_361 wd_362 wd_363) rfl rfl rfl (by decide +kernel) ⟨Nat.le_trans (Nat.le_of_ble_eq_true rfl) hRf.1, Nat.le_trans (Nat.le_of_ble_eq_true rfl) hRf.2⟩) ⟨hm_B.blind, va_recv hK (hI.1.one hefs4) (ci := 0) (q0 := 0) rfl rfl, fun U hU hW => ⟨rfl, hm_B.of hK hG hI hU hW⟩⟩ rfl rfl hl.1 rfl (lv_room (Nat.le_of_ble_eq_true rfl)) d_PR_rows_2 (hx_fit hI hR (hm_mo hg3) (hm_mo hf))) (fun H locs cells slots hI => ?_)
  refine W.eq (g2 := F0 m 5 ls [va_rf r1]) rfl ?_
  refine x_astore_n (r := r1) (lv2 := [(0, .ref h0), (1, .int p0)]) S d_PR_rows_5 rfl hl (by decide) [0, 1] rfl ⟨⟨(by decide : (0 : Nat) ≠ 2), fun h => absurd (show (0 : Nat) + 1 = 2 from h) (by decide)⟩, ⟨⟨(by decide : (1 : Nat) ≠ 2), fun _ => rfl⟩, trivial⟩⟩ (fun ls hl => ?_)
  refine x_aload_n (r := r1) S d_PR_rows_6 rfl (lv_at hl 0 rfl) ?_
  refine x_ifnonnull (r := r1) (tgt := 14) S d_PR_rows_7 (by decide) (fun hc => ?_) (fun hc => ?_)
  · have hf := b_if_f hc hf
    refine x_aload_n (r := r1) S d_PR_rows_14 rfl (lv_at hl 0 rfl) ?_
    obtain ⟨a5, ea5, hg⟩ := b_nn_inv hf
    have hI0 := hI
    have hl0 := hl
    clear hf hI hl
    subst ea5
    have hf := hg
    have hI := hI0
    have hl := hl0
    clear hg hI0 hl0
    refine x_getR (ci := 3) (k := 3) S hK hI (fun w h => List.mem_cons_of_mem _ (i_Pack w h)) rfl (by decide) (List.mem_cons_of_mem _ wd_364) rfl d_PR_rows_15 hf (fun r6 hf => ?_)
    obtain ⟨a7, ea7, hg⟩ := b_nn_inv hf
    have hI0 := hI
    have hl0 := hl
    clear hf hI hl
    subst ea7
    have hf := hg
    have hI := hI0
    have hl := hl0
    clear hg hI0 hl0
    refine x_len (t := 1) S hK hI rfl d_PR_rows_18 hf (fun v8 hf => ?_)
    exact w19 v8 _ _ _ _ _ _ hf hI (lv_sub hl [] rfl)
  · have hf := b_if_t hc hf
    refine lv_iconst (v := (-1)) S.1 S.2.1 d_PR_rows_10 (by decide) ?_
    refine lv_goto (tgt := 19) S.1 S.2.1 d_PR_rows_11 (by decide) ?_
    exact w19 (-1) _ _ _ _ _ _ hf hI (lv_sub hl [] rfl)
set_option maxHeartbeats 4000000 in
set_option maxRecDepth 100000 in
theorem c_PR_rowOf (l : Launch) {D : va_G} {dA : Nat → ClassId} {aK aV : Nat → Nat} {z : Nat} {N : Nat} {h0 : Nat} {p0 : Int32} {p1 : Int32} {M : hM} {Z : Option Nat × hM} (hf : (f_PR_rowOf N h0 p0 p1).1 M = some Z) : Met l y_PR_rowOf w_PR_rowOf ({ frames := 1, cells := Z.2.2.1 - M.2.1, slots := Z.2.2.2 - M.2.2, locals := 21 }) (va_Pc [.ref h0, .int p0, .int p1] (hm_B D dA hCl (hTy dA) sT aK aV z M)) (hm_Q D dA hCl (hTy dA) sT aK aV z (some (va_rf Z.1)) Z.2) (Z.2.2.1 - M.2.1) (Z.2.2.2 - M.2.2) (fun q => z ≤ q) := by
  refine Met.ofW (cc := b_PR_rowOf) (maxL := 4) (ret := (some (.object "PackageRows$Row"))) (by decide) rfl ?_
  intro p e s m args below meth c s₁ B hml hv
  obtain ⟨hav, hB⟩ := hv
  have S : CallFix p m c b_PR_rowOf 4 s args w_PR_rowOf R_PR := ⟨B.exec, B.bytes, hml, findClass_of_methodNamed B.named, atoms_spec (ws := w_PR_rowOf) B.pre⟩
  have hr : meth.sig.returnType = (some (.object "PackageRows$Row")) := B.returns
  have hlocks := B.notSynchronized
  have hK := hB.2.2.1
  have hG := hB.2.2.2.2.2
  have hI := hm_I.start hB
  rw [← hB.2.1]
  generalize M.2.2 = k1 at hI ⊢
  refine W.eq (g2 := F0 m 0 ((lg_sl ([.ref h0, .int p0, .int p1]) ++ List.replicate (4 - (lg_sl ([.ref h0, .int p0, .int p1])).length) Slot.unset).toArray) []) (by rw [hav]; exact lg_entry_eq m ([.ref h0, .int p0, .int p1]) 4) ?_
  have hl := lv_entry ([.ref h0, .int p0, .int p1]) (n := 4) (Nat.le_of_ble_eq_true rfl)
  generalize (lg_sl ([.ref h0, .int p0, .int p1]) ++ List.replicate (4 - (lg_sl ([.ref h0, .int p0, .int p1])).length) Slot.unset).toArray = ls at hl ⊢
  simp only [lvA_nil, lvA_i, lvA_l, lvA_a, lvA_r, Nat.zero_add, Nat.reduceAdd] at hl
  have hret : ∀ (v : Option Nat) (M : hM) (H : Heap) (locs : List Loc) (cells slots : Nat) (ls : Array Slot) (pc : Nat), decode b_PR_rowOf pc = .ok (.areturn, 1) → (b_ret v).1 M = some Z → hm_I D dA hCl z k1 s M H locs cells slots → W p l e (headSpec w_PR_rowOf { frames := 1, cells := Z.2.2.1 - s.heap.size, slots := Z.2.2.2 - k1, locals := 21 }).room s m args below meth c H locs cells slots (MQ below (hm_Q D dA hCl (hTy dA) sT aK aV z (some (va_rf Z.1)) Z.2) args s (Z.2.2.1 - s.heap.size) (Z.2.2.2 - k1) (fun q => z ≤ q)) (F0 m pc ls [va_rf v]) := fun v M H locs cells slots ls pc hdg hf hI => x_retr S hK hG hI hr (Or.inl ⟨_, rfl⟩) hlocks hdg hf
  have hR : Z.2.2.1 - s.heap.size ≤ (headSpec w_PR_rowOf { frames := 1, cells := Z.2.2.1 - s.heap.size, slots := Z.2.2.2 - k1, locals := 21 }).room.cells ∧ Z.2.2.2 - k1 ≤ (headSpec w_PR_rowOf { frames := 1, cells := Z.2.2.1 - s.heap.size, slots := Z.2.2.2 - k1, locals := 21 }).room.slots := ⟨Nat.le_refl _, Nat.le_refl _⟩
  have hRf : 1 ≤ (headSpec w_PR_rowOf { frames := 1, cells := Z.2.2.1 - s.heap.size, slots := Z.2.2.2 - k1, locals := 21 }).room.frames ∧ 21 ≤ (headSpec w_PR_rowOf { frames := 1, cells := Z.2.2.1 - s.heap.size, slots := Z.2.2.2 - k1, locals := 21 }).room.locals := ⟨Nat.le_refl _, Nat.le_refl _⟩
  generalize (headSpec w_PR_rowOf { frames := 1, cells := Z.2.2.1 - s.heap.size, slots := Z.2.2.2 - k1, locals := 21 }).room = R at hret hR hRf ⊢
  generalize (MQ below (hm_Q D dA hCl (hTy dA) sT aK aV z (some (va_rf Z.1)) Z.2) args s (Z.2.2.1 - s.heap.size) (Z.2.2.2 - k1) (fun q => z ≤ q)) = Q at hret ⊢
  rw [e_PR_rowOf] at hf
  obtain ⟨J33, eJ33, hf⟩ := b_let_inv hf
  have w33 : ∀ (y0 : Option Nat) (M : hM) (H : Heap) (locs : List Loc) (ls : Array Slot) (cells slots : Nat), (J33 y0).1 M = some Z → hm_I D dA hCl z k1 s M H locs cells slots → lv_has ls 4 [] → W p l e R s m args below meth c H locs cells slots Q (F0 m 33 ls [va_rf y0]) := by
    intro y0 M H locs ls cells slots hf hI hl
    rw [eJ33] at hf
    exact hret y0 _ _ _ _ _ _ _ d_PR_rowOf_33 hf hI
  obtain ⟨J23, eJ23, hf⟩ := b_let_inv hf
  have w23 : ∀  (M : hM) (H : Heap) (locs : List Loc) (ls : Array Slot) (cells slots : Nat), (J23).1 M = some Z → hm_I D dA hCl z k1 s M H locs cells slots → lv_has ls 4 [] → W p l e R s m args below meth c H locs cells slots Q (F0 m 23 ls []) := by
    intro M H locs ls cells slots hf hI hl
    rw [eJ23] at hf
    refine lv_null S.1 S.2.1 d_PR_rowOf_23 ?_
    refine lv_goto (tgt := 33) S.1 S.2.1 d_PR_rowOf_24 (by decide) ?_
    exact w33 none _ _ _ _ _ _ hf hI (lv_sub hl [] rfl)
  refine lv_aload_n S.1 S.2.1 d_PR_rowOf_0 rfl (lv_at hl 0 rfl) ?_
  refine lv_iload_n S.1 S.2.1 d_PR_rowOf_1 rfl (lv_at hl 1 rfl) ?_
  obtain ⟨⟨fs4, hefs4⟩, hf⟩ := b_is_inv hf
  obtain ⟨r1, N2, hg3, hf⟩ := b_call_inv hf
  refine x_call hI (hm_mo hg3) (va_runV (As := [.int p0]) (rest := []) S (c_PR_packOf l hg3) (cwV 1 S.2.2.2.2 (gi_V wd_359 wd_360 wd_361 wd_362 wd_363) rfl rfl rfl (by decide +kernel) ⟨Nat.le_trans (Nat.le_of_ble_eq_true rfl) hRf.1, Nat.le_trans (Nat.le_of_ble_eq_true rfl) hRf.2⟩) ⟨hm_B.blind, va_recv hK (hI.1.one hefs4) (ci := 0) (q0 := 0) rfl rfl, fun U hU hW => ⟨rfl, hm_B.of hK hG hI hU hW⟩⟩ rfl rfl hl.1 rfl (lv_room (Nat.le_of_ble_eq_true rfl)) d_PR_rowOf_2 (hx_fit hI hR (hm_mo hg3) (hm_mo hf))) (fun H locs cells slots hI => ?_)
  refine W.eq (g2 := F0 m 5 ls [va_rf r1]) rfl ?_
  refine x_astore_n (r := r1) (lv2 := [(0, .ref h0), (1, .int p0), (2, .int p1)]) S d_PR_rowOf_5 rfl hl (by decide) [0, 1, 2] rfl ⟨⟨(by decide : (0 : Nat) ≠ 3), fun h => absurd (show (0 : Nat) + 1 = 3 from h) (by decide)⟩, ⟨⟨(by decide : (1 : Nat) ≠ 3), fun h => absurd (show (1 : Nat) + 1 = 3 from h) (by decide)⟩, ⟨⟨(by decide : (2 : Nat) ≠ 3), fun _ => rfl⟩, trivial⟩⟩⟩ (fun ls hl => ?_)
  refine x_aload_n (r := r1) S d_PR_rowOf_6 rfl (lv_at hl 0 rfl) ?_
  refine x_ifnull (r := r1) (tgt := 23) S d_PR_rowOf_7 (by decide) (fun hc => ?_) (fun hc => ?_)
  · have hf := b_if_t hc hf
    exact w23  _ _ _ _ _ _ hf hI (lv_sub hl [] rfl)
  · have hf := b_if_f hc hf
    refine lv_iload_n S.1 S.2.1 d_PR_rowOf_10 rfl (lv_at hl 3 rfl) ?_
    refine lv_if_lt (tgt := 23) S.1 S.2.1 d_PR_rowOf_11 (by decide) (fun hc => ?_) (fun hc => ?_)
    · have hf := b_if_t hc hf
      exact w23  _ _ _ _ _ _ hf hI (lv_sub hl [] rfl)
    · have hf := b_if_f hc hf
      refine lv_iload_n S.1 S.2.1 d_PR_rowOf_14 rfl (lv_at hl 3 rfl) ?_
      refine x_aload_n (r := r1) S d_PR_rowOf_15 rfl (lv_at hl 0 rfl) ?_
      obtain ⟨a5, ea5, hg⟩ := b_nn_inv hf
      have hI0 := hI
      have hl0 := hl
      clear hf hI hl
      subst ea5
      have hf := hg
      have hI := hI0
      have hl := hl0
      clear hg hI0 hl0
      refine x_getR (ci := 3) (k := 3) S hK hI (fun w h => List.mem_cons_of_mem _ (i_Pack w h)) rfl (by decide) (List.mem_cons_of_mem _ wd_364) rfl d_PR_rowOf_16 hf (fun r6 hf => ?_)
      obtain ⟨a7, ea7, hg⟩ := b_nn_inv hf
      have hI0 := hI
      have hl0 := hl
      clear hf hI hl
      subst ea7
      have hf := hg
      have hI := hI0
      have hl := hl0
      clear hg hI0 hl0
      refine x_len (t := 1) S hK hI rfl d_PR_rowOf_19 hf (fun v8 hf => ?_)
      refine lv_icmp_lt (tgt := 27) S.1 S.2.1 d_PR_rowOf_20 (by decide) (fun hc => ?_) (fun hc => ?_)
      · have hf := b_if_t hc hf
        refine lv_aload_n S.1 S.2.1 d_PR_rowOf_27 rfl (lv_at hl 0 rfl) ?_
        refine x_getR (ci := 3) (k := 3) S hK hI (fun w h => List.mem_cons_of_mem _ (i_Pack w h)) rfl (by decide) (List.mem_cons_of_mem _ wd_364) rfl d_PR_rowOf_28 hf (fun r9 hf => ?_)
        refine lv_iload_n S.1 S.2.1 d_PR_rowOf_31 rfl (lv_at hl 3 rfl) ?_
        obtain ⟨a10, ea10, hg⟩ := b_nn_inv hf
        have hI0 := hI
        have hl0 := hl
        clear hf hI hl
        subst ea10
        have hf := hg
        have hI := hI0
        have hl := hl0
        clear hg hI0 hl0
        refine x_aald (t := 1) S hK hI rfl d_PR_rowOf_32 hf (fun r11 hf => ?_)
        exact w33 r11 _ _ _ _ _ _ hf hI (lv_sub hl [] rfl)
      · have hf := b_if_f hc hf
        exact w23  _ _ _ _ _ _ hf hI (lv_sub hl [] rfl)
set_option maxHeartbeats 4000000 in
set_option maxRecDepth 100000 in
theorem c_PR_row (l : Launch) {D : va_G} {dA : Nat → ClassId} {aK aV : Nat → Nat} {z : Nat} {N : Nat} {h0 : Nat} {p0 : Int32} {p1 : Int32} {p2 : Int32} {M : hM} {Z : Int32 × hM} (hf : (f_PR_row N h0 p0 p1 p2).1 M = some Z) : Met l y_PR_row w_PR_row ({ frames := 2, cells := Z.2.2.1 - M.2.1, slots := Z.2.2.2 - M.2.2, locals := 44 }) (va_Pc [.ref h0, .int p0, .int p1, .int p2] (hm_B D dA hCl (hTy dA) sT aK aV z M)) (hm_Q D dA hCl (hTy dA) sT aK aV z (some (.int Z.1)) Z.2) (Z.2.2.1 - M.2.1) (Z.2.2.2 - M.2.2) (fun q => z ≤ q) := by
  refine Met.ofW (cc := b_PR_row) (maxL := 5) (ret := (some .int)) (by decide) rfl ?_
  intro p e s m args below meth c s₁ B hml hv
  obtain ⟨hav, hB⟩ := hv
  have S : CallFix p m c b_PR_row 5 s args w_PR_row R_PR := ⟨B.exec, B.bytes, hml, findClass_of_methodNamed B.named, atoms_spec (ws := w_PR_row) B.pre⟩
  have hr : meth.sig.returnType = (some .int) := B.returns
  have hlocks := B.notSynchronized
  have hK := hB.2.2.1
  have hG := hB.2.2.2.2.2
  have hI := hm_I.start hB
  rw [← hB.2.1]
  generalize M.2.2 = k1 at hI ⊢
  refine W.eq (g2 := F0 m 0 ((lg_sl ([.ref h0, .int p0, .int p1, .int p2]) ++ List.replicate (5 - (lg_sl ([.ref h0, .int p0, .int p1, .int p2])).length) Slot.unset).toArray) []) (by rw [hav]; exact lg_entry_eq m ([.ref h0, .int p0, .int p1, .int p2]) 5) ?_
  have hl := lv_entry ([.ref h0, .int p0, .int p1, .int p2]) (n := 5) (Nat.le_of_ble_eq_true rfl)
  generalize (lg_sl ([.ref h0, .int p0, .int p1, .int p2]) ++ List.replicate (5 - (lg_sl ([.ref h0, .int p0, .int p1, .int p2])).length) Slot.unset).toArray = ls at hl ⊢
  simp only [lvA_nil, lvA_i, lvA_l, lvA_a, lvA_r, Nat.zero_add, Nat.reduceAdd] at hl
  have hret : ∀ (v : Int32) (M : hM) (H : Heap) (locs : List Loc) (cells slots : Nat) (ls : Array Slot) (pc : Nat), decode b_PR_row pc = .ok (.ireturn, 1) → (b_ret v).1 M = some Z → hm_I D dA hCl z k1 s M H locs cells slots → W p l e (headSpec w_PR_row { frames := 2, cells := Z.2.2.1 - s.heap.size, slots := Z.2.2.2 - k1, locals := 44 }).room s m args below meth c H locs cells slots (MQ below (hm_Q D dA hCl (hTy dA) sT aK aV z (some (.int Z.1)) Z.2) args s (Z.2.2.1 - s.heap.size) (Z.2.2.2 - k1) (fun q => z ≤ q)) (F0 m pc ls [.int v]) := fun v M H locs cells slots ls pc hdg hf hI => x_reti S hK hG hI hr hlocks hdg hf
  have hR : Z.2.2.1 - s.heap.size ≤ (headSpec w_PR_row { frames := 2, cells := Z.2.2.1 - s.heap.size, slots := Z.2.2.2 - k1, locals := 44 }).room.cells ∧ Z.2.2.2 - k1 ≤ (headSpec w_PR_row { frames := 2, cells := Z.2.2.1 - s.heap.size, slots := Z.2.2.2 - k1, locals := 44 }).room.slots := ⟨Nat.le_refl _, Nat.le_refl _⟩
  have hRf : 2 ≤ (headSpec w_PR_row { frames := 2, cells := Z.2.2.1 - s.heap.size, slots := Z.2.2.2 - k1, locals := 44 }).room.frames ∧ 44 ≤ (headSpec w_PR_row { frames := 2, cells := Z.2.2.1 - s.heap.size, slots := Z.2.2.2 - k1, locals := 44 }).room.locals := ⟨Nat.le_refl _, Nat.le_refl _⟩
  generalize (headSpec w_PR_row { frames := 2, cells := Z.2.2.1 - s.heap.size, slots := Z.2.2.2 - k1, locals := 44 }).room = R at hret hR hRf ⊢
  generalize (MQ below (hm_Q D dA hCl (hTy dA) sT aK aV z (some (.int Z.1)) Z.2) args s (Z.2.2.1 - s.heap.size) (Z.2.2.2 - k1) (fun q => z ≤ q)) = Q at hret ⊢
  rw [e_PR_row] at hf
  refine lv_aload_n S.1 S.2.1 d_PR_row_0 rfl (lv_at hl 0 rfl) ?_
  refine lv_iload_n S.1 S.2.1 d_PR_row_1 rfl (lv_at hl 1 rfl) ?_
  refine lv_iload_n S.1 S.2.1 d_PR_row_2 rfl (lv_at hl 2 rfl) ?_
  obtain ⟨⟨fs4, hefs4⟩, hf⟩ := b_is_inv hf
  obtain ⟨r1, N2, hg3, hf⟩ := b_call_inv hf
  refine x_call hI (hm_mo hg3) (va_runV (As := [.int p0, .int p1]) (rest := []) S (c_PR_rowOf l hg3) (cwV 2 S.2.2.2.2 (gi_V wd_365 wd_366 wd_367 wd_362 wd_368) rfl rfl rfl (by decide +kernel) ⟨Nat.le_trans (Nat.le_of_ble_eq_true rfl) hRf.1, Nat.le_trans (Nat.le_of_ble_eq_true rfl) hRf.2⟩) ⟨hm_B.blind, va_recv hK (hI.1.one hefs4) (ci := 0) (q0 := 0) rfl rfl, fun U hU hW => ⟨rfl, hm_B.of hK hG hI hU hW⟩⟩ rfl rfl hl.1 rfl (lv_room (Nat.le_of_ble_eq_true rfl)) d_PR_row_3 (hx_fit hI hR (hm_mo hg3) (hm_mo hf))) (fun H locs cells slots hI => ?_)
  refine W.eq (g2 := F0 m 6 ls [va_rf r1]) rfl ?_
  refine x_astore (r := r1) (lv2 := [(0, .ref h0), (1, .int p0), (2, .int p1), (3, .int p2)]) S d_PR_row_6 hl (by decide) [0, 1, 2, 3] rfl ⟨⟨(by decide : (0 : Nat) ≠ 4), fun h => absurd (show (0 : Nat) + 1 = 4 from h) (by decide)⟩, ⟨⟨(by decide : (1 : Nat) ≠ 4), fun h => absurd (show (1 : Nat) + 1 = 4 from h) (by decide)⟩, ⟨⟨(by decide : (2 : Nat) ≠ 4), fun h => absurd (show (2 : Nat) + 1 = 4 from h) (by decide)⟩, ⟨⟨(by decide : (3 : Nat) ≠ 4), fun _ => rfl⟩, trivial⟩⟩⟩⟩ (fun ls hl => ?_)
  refine x_aload (r := r1) S d_PR_row_8 (lv_at hl 0 rfl) ?_
  refine x_ifnonnull (r := r1) (tgt := 15) S d_PR_row_10 (by decide) (fun hc => ?_) (fun hc => ?_)
  · have hf := b_if_f hc hf
    refine lv_iload_n S.1 S.2.1 d_PR_row_15 rfl (lv_at hl 4 rfl) ?_
    by_cases hc0 : p2 = 0
    · have hf := b_if_t hc0 hf
      refine lv_tableIn (tgt := 52) S.1 S.2.1 d_PR_row_16 (by rw [hc0]; decide) (by rw [hc0]; decide) (by rw [hc0] <;> rfl) (by decide) ?_
      refine x_aload (r := r1) S d_PR_row_52 (lv_at hl 0 rfl) ?_
      obtain ⟨a5, ea5, hg⟩ := b_nn_inv hf
      have hI0 := hI
      have hl0 := hl
      clear hf hI hl
      subst ea5
      have hf := hg
      have hI := hI0
      have hl := hl0
      clear hg hI0 hl0
      refine x_getI (ci := 7) (k := 0) S hK hI (fun w h => List.mem_cons_of_mem _ (i_Row w h)) rfl (by decide) (List.mem_cons_of_mem _ wd_369) rfl d_PR_row_54 hf (fun v6 hf => ?_)
      exact hret _ _ _ _ _ _ _ _ d_PR_row_57 hf hI
    · have hf := b_if_f hc0 hf
      by_cases hc1 : p2 = 1
      · have hf := b_if_t hc1 hf
        refine lv_tableIn (tgt := 58) S.1 S.2.1 d_PR_row_16 (by rw [hc1]; decide) (by rw [hc1]; decide) (by rw [hc1] <;> rfl) (by decide) ?_
        refine x_aload (r := r1) S d_PR_row_58 (lv_at hl 0 rfl) ?_
        obtain ⟨a7, ea7, hg⟩ := b_nn_inv hf
        have hI0 := hI
        have hl0 := hl
        clear hf hI hl
        subst ea7
        have hf := hg
        have hI := hI0
        have hl := hl0
        clear hg hI0 hl0
        refine x_getI (ci := 7) (k := 1) S hK hI (fun w h => List.mem_cons_of_mem _ (i_Row w h)) rfl (by decide) (List.mem_cons_of_mem _ wd_370) rfl d_PR_row_60 hf (fun v8 hf => ?_)
        exact hret _ _ _ _ _ _ _ _ d_PR_row_63 hf hI
      · have hf := b_if_f hc1 hf
        by_cases hc2 : p2 = 2
        · have hf := b_if_t hc2 hf
          refine lv_tableIn (tgt := 64) S.1 S.2.1 d_PR_row_16 (by rw [hc2]; decide) (by rw [hc2]; decide) (by rw [hc2] <;> rfl) (by decide) ?_
          refine x_aload (r := r1) S d_PR_row_64 (lv_at hl 0 rfl) ?_
          obtain ⟨a9, ea9, hg⟩ := b_nn_inv hf
          have hI0 := hI
          have hl0 := hl
          clear hf hI hl
          subst ea9
          have hf := hg
          have hI := hI0
          have hl := hl0
          clear hg hI0 hl0
          refine x_getR (ci := 7) (k := 2) S hK hI (fun w h => List.mem_cons_of_mem _ (i_Row w h)) rfl (by decide) (List.mem_cons_of_mem _ wd_371) rfl d_PR_row_66 hf (fun r10 hf => ?_)
          obtain ⟨a11, ea11, hg⟩ := b_nn_inv hf
          have hI0 := hI
          have hl0 := hl
          clear hf hI hl
          subst ea11
          have hf := hg
          have hI := hI0
          have hl := hl0
          clear hg hI0 hl0
          refine x_getR (ci := 2) (k := 0) S hK hI (fun w h => List.mem_cons_of_mem _ (i_Name w h)) rfl (by decide) (List.mem_cons_of_mem _ wd_372) rfl d_PR_row_69 hf (fun r12 hf => ?_)
          obtain ⟨a13, ea13, hg⟩ := b_nn_inv hf
          have hI0 := hI
          have hl0 := hl
          clear hf hI hl
          subst ea13
          have hf := hg
          have hI := hI0
          have hl := hl0
          clear hg hI0 hl0
          refine x_len (t := 0) S hK hI rfl d_PR_row_72 hf (fun v14 hf => ?_)
          exact hret _ _ _ _ _ _ _ _ d_PR_row_73 hf hI
        · have hf := b_if_f hc2 hf
          by_cases hc3 : p2 = 3
          · have hf := b_if_t hc3 hf
            refine lv_tableIn (tgt := 74) S.1 S.2.1 d_PR_row_16 (by rw [hc3]; decide) (by rw [hc3]; decide) (by rw [hc3] <;> rfl) (by decide) ?_
            refine x_aload (r := r1) S d_PR_row_74 (lv_at hl 0 rfl) ?_
            obtain ⟨a15, ea15, hg⟩ := b_nn_inv hf
            have hI0 := hI
            have hl0 := hl
            clear hf hI hl
            subst ea15
            have hf := hg
            have hI := hI0
            have hl := hl0
            clear hg hI0 hl0
            refine x_getR (ci := 7) (k := 2) S hK hI (fun w h => List.mem_cons_of_mem _ (i_Row w h)) rfl (by decide) (List.mem_cons_of_mem _ wd_371) rfl d_PR_row_76 hf (fun r16 hf => ?_)
            obtain ⟨a17, ea17, hg⟩ := b_nn_inv hf
            have hI0 := hI
            have hl0 := hl
            clear hf hI hl
            subst ea17
            have hf := hg
            have hI := hI0
            have hl := hl0
            clear hg hI0 hl0
            refine x_getI (ci := 2) (k := 2) S hK hI (fun w h => List.mem_cons_of_mem _ (i_Name w h)) rfl (by decide) (List.mem_cons_of_mem _ wd_373) rfl d_PR_row_79 hf (fun v18 hf => ?_)
            exact hret _ _ _ _ _ _ _ _ d_PR_row_82 hf hI
          · have hf := b_if_f hc3 hf
            by_cases hc4 : p2 = 4
            · have hf := b_if_t hc4 hf
              refine lv_tableIn (tgt := 83) S.1 S.2.1 d_PR_row_16 (by rw [hc4]; decide) (by rw [hc4]; decide) (by rw [hc4] <;> rfl) (by decide) ?_
              refine x_aload (r := r1) S d_PR_row_83 (lv_at hl 0 rfl) ?_
              obtain ⟨a19, ea19, hg⟩ := b_nn_inv hf
              have hI0 := hI
              have hl0 := hl
              clear hf hI hl
              subst ea19
              have hf := hg
              have hI := hI0
              have hl := hl0
              clear hg hI0 hl0
              refine x_getI (ci := 7) (k := 7) S hK hI (fun w h => List.mem_cons_of_mem _ (i_Row w h)) rfl (by decide) (List.mem_cons_of_mem _ wd_374) rfl d_PR_row_85 hf (fun v20 hf => ?_)
              exact hret _ _ _ _ _ _ _ _ d_PR_row_88 hf hI
            · have hf := b_if_f hc4 hf
              refine lv_tableOut (tgt := 89) S.1 S.2.1 d_PR_row_16 (by have g0 := lv_neT (a := 0) hc0 (by decide); have g1 := lv_neT (a := 1) hc1 (by decide); have g2 := lv_neT (a := 2) hc2 (by decide); have g3 := lv_neT (a := 3) hc3 (by decide); have g4 := lv_neT (a := 4) hc4 (by decide); omega) (by decide) ?_
              refine lv_iconst (v := (-1)) S.1 S.2.1 d_PR_row_89 (by decide) ?_
              exact hret _ _ _ _ _ _ _ _ d_PR_row_90 hf hI
  · have hf := b_if_t hc hf
    refine lv_iconst (v := (-1)) S.1 S.2.1 d_PR_row_13 (by decide) ?_
    exact hret _ _ _ _ _ _ _ _ d_PR_row_14 hf hI
set_option maxHeartbeats 4000000 in
set_option maxRecDepth 100000 in
theorem c_Name_writtenAt (l : Launch) {D : va_G} {dA : Nat → ClassId} {aK aV : Nat → Nat} {z : Nat} {N : Nat} {h0 : Nat} {p0 : Int32} {M : hM} {Z : Int32 × hM} (hf : (f_Name_writtenAt N h0 p0).1 M = some Z) : Met l y_Name_writtenAt w_Name_writtenAt ({ frames := 0, cells := Z.2.2.1 - M.2.1, slots := Z.2.2.2 - M.2.2, locals := 0 }) (va_Pc [.ref h0, .int p0] (hm_B D dA hCl (hTy dA) sT aK aV z M)) (hm_Q D dA hCl (hTy dA) sT aK aV z (some (.int Z.1)) Z.2) (Z.2.2.1 - M.2.1) (Z.2.2.2 - M.2.2) (fun q => z ≤ q) := by
  refine Met.ofW (cc := b_Name_writtenAt) (maxL := 2) (ret := (some .int)) (by decide) rfl ?_
  intro p e s m args below meth c s₁ B hml hv
  obtain ⟨hav, hB⟩ := hv
  have S : CallFix p m c b_Name_writtenAt 2 s args w_Name_writtenAt R_Name := ⟨B.exec, B.bytes, hml, findClass_of_methodNamed B.named, atoms_spec (ws := w_Name_writtenAt) B.pre⟩
  have hr : meth.sig.returnType = (some .int) := B.returns
  have hlocks := B.notSynchronized
  have hK := hB.2.2.1
  have hG := hB.2.2.2.2.2
  have hI := hm_I.start hB
  rw [← hB.2.1]
  generalize M.2.2 = k1 at hI ⊢
  refine W.eq (g2 := F0 m 0 ((lg_sl ([.ref h0, .int p0]) ++ List.replicate (2 - (lg_sl ([.ref h0, .int p0])).length) Slot.unset).toArray) []) (by rw [hav]; exact lg_entry_eq m ([.ref h0, .int p0]) 2) ?_
  have hl := lv_entry ([.ref h0, .int p0]) (n := 2) (Nat.le_of_ble_eq_true rfl)
  generalize (lg_sl ([.ref h0, .int p0]) ++ List.replicate (2 - (lg_sl ([.ref h0, .int p0])).length) Slot.unset).toArray = ls at hl ⊢
  simp only [lvA_nil, lvA_i, lvA_l, lvA_a, lvA_r, Nat.zero_add, Nat.reduceAdd] at hl
  have hret : ∀ (v : Int32) (M : hM) (H : Heap) (locs : List Loc) (cells slots : Nat) (ls : Array Slot) (pc : Nat), decode b_Name_writtenAt pc = .ok (.ireturn, 1) → (b_ret v).1 M = some Z → hm_I D dA hCl z k1 s M H locs cells slots → W p l e (headSpec w_Name_writtenAt { frames := 0, cells := Z.2.2.1 - s.heap.size, slots := Z.2.2.2 - k1, locals := 0 }).room s m args below meth c H locs cells slots (MQ below (hm_Q D dA hCl (hTy dA) sT aK aV z (some (.int Z.1)) Z.2) args s (Z.2.2.1 - s.heap.size) (Z.2.2.2 - k1) (fun q => z ≤ q)) (F0 m pc ls [.int v]) := fun v M H locs cells slots ls pc hdg hf hI => x_reti S hK hG hI hr hlocks hdg hf
  have hR : Z.2.2.1 - s.heap.size ≤ (headSpec w_Name_writtenAt { frames := 0, cells := Z.2.2.1 - s.heap.size, slots := Z.2.2.2 - k1, locals := 0 }).room.cells ∧ Z.2.2.2 - k1 ≤ (headSpec w_Name_writtenAt { frames := 0, cells := Z.2.2.1 - s.heap.size, slots := Z.2.2.2 - k1, locals := 0 }).room.slots := ⟨Nat.le_refl _, Nat.le_refl _⟩
  have hRf : 0 ≤ (headSpec w_Name_writtenAt { frames := 0, cells := Z.2.2.1 - s.heap.size, slots := Z.2.2.2 - k1, locals := 0 }).room.frames ∧ 0 ≤ (headSpec w_Name_writtenAt { frames := 0, cells := Z.2.2.1 - s.heap.size, slots := Z.2.2.2 - k1, locals := 0 }).room.locals := ⟨Nat.le_refl _, Nat.le_refl _⟩
  generalize (headSpec w_Name_writtenAt { frames := 0, cells := Z.2.2.1 - s.heap.size, slots := Z.2.2.2 - k1, locals := 0 }).room = R at hret hR hRf ⊢
  generalize (MQ below (hm_Q D dA hCl (hTy dA) sT aK aV z (some (.int Z.1)) Z.2) args s (Z.2.2.1 - s.heap.size) (Z.2.2.2 - k1) (fun q => z ≤ q)) = Q at hret ⊢
  rw [e_Name_writtenAt] at hf
  obtain ⟨J23, eJ23, hf⟩ := b_let_inv hf
  have w23 : ∀ (y0 : Int32) (M : hM) (H : Heap) (locs : List Loc) (ls : Array Slot) (cells slots : Nat), (J23 y0).1 M = some Z → hm_I D dA hCl z k1 s M H locs cells slots → lv_has ls 2 [] → W p l e R s m args below meth c H locs cells slots Q (F0 m 23 ls [.int y0]) := by
    intro y0 M H locs ls cells slots hf hI hl
    rw [eJ23] at hf
    exact hret _ _ _ _ _ _ _ _ d_Name_writtenAt_23 hf hI
  obtain ⟨J13, eJ13, hf⟩ := b_let_inv hf
  have w13 : ∀  (M : hM) (H : Heap) (locs : List Loc) (ls : Array Slot) (cells slots : Nat), (J13).1 M = some Z → hm_I D dA hCl z k1 s M H locs cells slots → lv_has ls 2 [] → W p l e R s m args below meth c H locs cells slots Q (F0 m 13 ls []) := by
    intro M H locs ls cells slots hf hI hl
    rw [eJ13] at hf
    refine lv_iconst (v := (-1)) S.1 S.2.1 d_Name_writtenAt_13 (by decide) ?_
    refine lv_goto (tgt := 23) S.1 S.2.1 d_Name_writtenAt_14 (by decide) ?_
    exact w23 (-1) _ _ _ _ _ _ hf hI (lv_sub hl [] rfl)
  refine lv_iload_n S.1 S.2.1 d_Name_writtenAt_0 rfl (lv_at hl 1 rfl) ?_
  refine lv_if_lt (tgt := 13) S.1 S.2.1 d_Name_writtenAt_1 (by decide) (fun hc => ?_) (fun hc => ?_)
  · have hf := b_if_t hc hf
    exact w13  _ _ _ _ _ _ hf hI (lv_sub hl [] rfl)
  · have hf := b_if_f hc hf
    refine lv_iload_n S.1 S.2.1 d_Name_writtenAt_4 rfl (lv_at hl 1 rfl) ?_
    refine lv_aload_n S.1 S.2.1 d_Name_writtenAt_5 rfl (lv_at hl 0 rfl) ?_
    refine x_getR (ci := 2) (k := 0) S hK hI (fun w h => List.mem_cons_of_mem _ (i_Name w h)) rfl (by decide) (List.mem_cons_of_mem _ wd_122) rfl d_Name_writtenAt_6 hf (fun r1 hf => ?_)
    obtain ⟨a2, ea2, hg⟩ := b_nn_inv hf
    have hI0 := hI
    have hl0 := hl
    clear hf hI hl
    subst ea2
    have hf := hg
    have hI := hI0
    have hl := hl0
    clear hg hI0 hl0
    refine x_len (t := 0) S hK hI rfl d_Name_writtenAt_9 hf (fun v3 hf => ?_)
    refine lv_icmp_lt (tgt := 17) S.1 S.2.1 d_Name_writtenAt_10 (by decide) (fun hc => ?_) (fun hc => ?_)
    · have hf := b_if_t hc hf
      refine lv_aload_n S.1 S.2.1 d_Name_writtenAt_17 rfl (lv_at hl 0 rfl) ?_
      refine x_getR (ci := 2) (k := 0) S hK hI (fun w h => List.mem_cons_of_mem _ (i_Name w h)) rfl (by decide) (List.mem_cons_of_mem _ wd_122) rfl d_Name_writtenAt_18 hf (fun r4 hf => ?_)
      refine lv_iload_n S.1 S.2.1 d_Name_writtenAt_21 rfl (lv_at hl 1 rfl) ?_
      obtain ⟨a5, ea5, hg⟩ := b_nn_inv hf
      have hI0 := hI
      have hl0 := hl
      clear hf hI hl
      subst ea5
      have hf := hg
      have hI := hI0
      have hl := hl0
      clear hg hI0 hl0
      refine x_cald (t := 0) S hK hI rfl d_Name_writtenAt_22 hf (fun v6 hf => ?_)
      exact w23 v6 _ _ _ _ _ _ hf hI (lv_sub hl [] rfl)
    · have hf := b_if_f hc hf
      exact w13  _ _ _ _ _ _ hf hI (lv_sub hl [] rfl)
set_option maxHeartbeats 4000000 in
set_option maxRecDepth 100000 in
theorem c_Name_foldedAt (l : Launch) {D : va_G} {dA : Nat → ClassId} {aK aV : Nat → Nat} {z : Nat} {N : Nat} {h0 : Nat} {p0 : Int32} {M : hM} {Z : Int32 × hM} (hf : (f_Name_foldedAt N h0 p0).1 M = some Z) : Met l y_Name_foldedAt w_Name_foldedAt ({ frames := 0, cells := Z.2.2.1 - M.2.1, slots := Z.2.2.2 - M.2.2, locals := 0 }) (va_Pc [.ref h0, .int p0] (hm_B D dA hCl (hTy dA) sT aK aV z M)) (hm_Q D dA hCl (hTy dA) sT aK aV z (some (.int Z.1)) Z.2) (Z.2.2.1 - M.2.1) (Z.2.2.2 - M.2.2) (fun q => z ≤ q) := by
  refine Met.ofW (cc := b_Name_foldedAt) (maxL := 2) (ret := (some .int)) (by decide) rfl ?_
  intro p e s m args below meth c s₁ B hml hv
  obtain ⟨hav, hB⟩ := hv
  have S : CallFix p m c b_Name_foldedAt 2 s args w_Name_foldedAt R_Name := ⟨B.exec, B.bytes, hml, findClass_of_methodNamed B.named, atoms_spec (ws := w_Name_foldedAt) B.pre⟩
  have hr : meth.sig.returnType = (some .int) := B.returns
  have hlocks := B.notSynchronized
  have hK := hB.2.2.1
  have hG := hB.2.2.2.2.2
  have hI := hm_I.start hB
  rw [← hB.2.1]
  generalize M.2.2 = k1 at hI ⊢
  refine W.eq (g2 := F0 m 0 ((lg_sl ([.ref h0, .int p0]) ++ List.replicate (2 - (lg_sl ([.ref h0, .int p0])).length) Slot.unset).toArray) []) (by rw [hav]; exact lg_entry_eq m ([.ref h0, .int p0]) 2) ?_
  have hl := lv_entry ([.ref h0, .int p0]) (n := 2) (Nat.le_of_ble_eq_true rfl)
  generalize (lg_sl ([.ref h0, .int p0]) ++ List.replicate (2 - (lg_sl ([.ref h0, .int p0])).length) Slot.unset).toArray = ls at hl ⊢
  simp only [lvA_nil, lvA_i, lvA_l, lvA_a, lvA_r, Nat.zero_add, Nat.reduceAdd] at hl
  have hret : ∀ (v : Int32) (M : hM) (H : Heap) (locs : List Loc) (cells slots : Nat) (ls : Array Slot) (pc : Nat), decode b_Name_foldedAt pc = .ok (.ireturn, 1) → (b_ret v).1 M = some Z → hm_I D dA hCl z k1 s M H locs cells slots → W p l e (headSpec w_Name_foldedAt { frames := 0, cells := Z.2.2.1 - s.heap.size, slots := Z.2.2.2 - k1, locals := 0 }).room s m args below meth c H locs cells slots (MQ below (hm_Q D dA hCl (hTy dA) sT aK aV z (some (.int Z.1)) Z.2) args s (Z.2.2.1 - s.heap.size) (Z.2.2.2 - k1) (fun q => z ≤ q)) (F0 m pc ls [.int v]) := fun v M H locs cells slots ls pc hdg hf hI => x_reti S hK hG hI hr hlocks hdg hf
  have hR : Z.2.2.1 - s.heap.size ≤ (headSpec w_Name_foldedAt { frames := 0, cells := Z.2.2.1 - s.heap.size, slots := Z.2.2.2 - k1, locals := 0 }).room.cells ∧ Z.2.2.2 - k1 ≤ (headSpec w_Name_foldedAt { frames := 0, cells := Z.2.2.1 - s.heap.size, slots := Z.2.2.2 - k1, locals := 0 }).room.slots := ⟨Nat.le_refl _, Nat.le_refl _⟩
  have hRf : 0 ≤ (headSpec w_Name_foldedAt { frames := 0, cells := Z.2.2.1 - s.heap.size, slots := Z.2.2.2 - k1, locals := 0 }).room.frames ∧ 0 ≤ (headSpec w_Name_foldedAt { frames := 0, cells := Z.2.2.1 - s.heap.size, slots := Z.2.2.2 - k1, locals := 0 }).room.locals := ⟨Nat.le_refl _, Nat.le_refl _⟩
  generalize (headSpec w_Name_foldedAt { frames := 0, cells := Z.2.2.1 - s.heap.size, slots := Z.2.2.2 - k1, locals := 0 }).room = R at hret hR hRf ⊢
  generalize (MQ below (hm_Q D dA hCl (hTy dA) sT aK aV z (some (.int Z.1)) Z.2) args s (Z.2.2.1 - s.heap.size) (Z.2.2.2 - k1) (fun q => z ≤ q)) = Q at hret ⊢
  rw [e_Name_foldedAt] at hf
  obtain ⟨J22, eJ22, hf⟩ := b_let_inv hf
  have w22 : ∀ (y0 : Int32) (M : hM) (H : Heap) (locs : List Loc) (ls : Array Slot) (cells slots : Nat), (J22 y0).1 M = some Z → hm_I D dA hCl z k1 s M H locs cells slots → lv_has ls 2 [] → W p l e R s m args below meth c H locs cells slots Q (F0 m 22 ls [.int y0]) := by
    intro y0 M H locs ls cells slots hf hI hl
    rw [eJ22] at hf
    exact hret _ _ _ _ _ _ _ _ d_Name_foldedAt_22 hf hI
  obtain ⟨J12, eJ12, hf⟩ := b_let_inv hf
  have w12 : ∀  (M : hM) (H : Heap) (locs : List Loc) (ls : Array Slot) (cells slots : Nat), (J12).1 M = some Z → hm_I D dA hCl z k1 s M H locs cells slots → lv_has ls 2 [] → W p l e R s m args below meth c H locs cells slots Q (F0 m 12 ls []) := by
    intro M H locs ls cells slots hf hI hl
    rw [eJ12] at hf
    refine lv_iconst (v := (-1)) S.1 S.2.1 d_Name_foldedAt_12 (by decide) ?_
    refine lv_goto (tgt := 22) S.1 S.2.1 d_Name_foldedAt_13 (by decide) ?_
    exact w22 (-1) _ _ _ _ _ _ hf hI (lv_sub hl [] rfl)
  refine lv_iload_n S.1 S.2.1 d_Name_foldedAt_0 rfl (lv_at hl 1 rfl) ?_
  refine lv_if_lt (tgt := 12) S.1 S.2.1 d_Name_foldedAt_1 (by decide) (fun hc => ?_) (fun hc => ?_)
  · have hf := b_if_t hc hf
    exact w12  _ _ _ _ _ _ hf hI (lv_sub hl [] rfl)
  · have hf := b_if_f hc hf
    refine lv_iload_n S.1 S.2.1 d_Name_foldedAt_4 rfl (lv_at hl 1 rfl) ?_
    refine lv_aload_n S.1 S.2.1 d_Name_foldedAt_5 rfl (lv_at hl 0 rfl) ?_
    refine x_getI (ci := 2) (k := 2) S hK hI (fun w h => List.mem_cons_of_mem _ (i_Name w h)) rfl (by decide) (List.mem_cons_of_mem _ wd_66) rfl d_Name_foldedAt_6 hf (fun v1 hf => ?_)
    refine lv_icmp_lt (tgt := 16) S.1 S.2.1 d_Name_foldedAt_9 (by decide) (fun hc => ?_) (fun hc => ?_)
    · have hf := b_if_t hc hf
      refine lv_aload_n S.1 S.2.1 d_Name_foldedAt_16 rfl (lv_at hl 0 rfl) ?_
      refine x_getR (ci := 2) (k := 1) S hK hI (fun w h => List.mem_cons_of_mem _ (i_Name w h)) rfl (by decide) (List.mem_cons_of_mem _ wd_67) rfl d_Name_foldedAt_17 hf (fun r2 hf => ?_)
      refine lv_iload_n S.1 S.2.1 d_Name_foldedAt_20 rfl (lv_at hl 1 rfl) ?_
      obtain ⟨a3, ea3, hg⟩ := b_nn_inv hf
      have hI0 := hI
      have hl0 := hl
      clear hf hI hl
      subst ea3
      have hf := hg
      have hI := hI0
      have hl := hl0
      clear hg hI0 hl0
      refine x_cald (t := 0) S hK hI rfl d_Name_foldedAt_21 hf (fun v4 hf => ?_)
      exact w22 v4 _ _ _ _ _ _ hf hI (lv_sub hl [] rfl)
    · have hf := b_if_f hc hf
      exact w12  _ _ _ _ _ _ hf hI (lv_sub hl [] rfl)
set_option maxHeartbeats 4000000 in
set_option maxRecDepth 100000 in
theorem c_PR_letter (l : Launch) {D : va_G} {dA : Nat → ClassId} {aK aV : Nat → Nat} {z : Nat} {N : Nat} {h0 : Nat} {p0 : Int32} {p1 : Int32} {p2 : Int32} {p3 : Int32} {M : hM} {Z : Int32 × hM} (hf : (f_PR_letter N h0 p0 p1 p2 p3).1 M = some Z) : Met l y_PR_letter w_PR_letter ({ frames := 2, cells := Z.2.2.1 - M.2.1, slots := Z.2.2.2 - M.2.2, locals := 44 }) (va_Pc [.ref h0, .int p0, .int p1, .int p2, .int p3] (hm_B D dA hCl (hTy dA) sT aK aV z M)) (hm_Q D dA hCl (hTy dA) sT aK aV z (some (.int Z.1)) Z.2) (Z.2.2.1 - M.2.1) (Z.2.2.2 - M.2.2) (fun q => z ≤ q) := by
  refine Met.ofW (cc := b_PR_letter) (maxL := 6) (ret := (some .int)) (by decide) rfl ?_
  intro p e s m args below meth c s₁ B hml hv
  obtain ⟨hav, hB⟩ := hv
  have S : CallFix p m c b_PR_letter 6 s args w_PR_letter R_PR := ⟨B.exec, B.bytes, hml, findClass_of_methodNamed B.named, atoms_spec (ws := w_PR_letter) B.pre⟩
  have hr : meth.sig.returnType = (some .int) := B.returns
  have hlocks := B.notSynchronized
  have hK := hB.2.2.1
  have hG := hB.2.2.2.2.2
  have hI := hm_I.start hB
  rw [← hB.2.1]
  generalize M.2.2 = k1 at hI ⊢
  refine W.eq (g2 := F0 m 0 ((lg_sl ([.ref h0, .int p0, .int p1, .int p2, .int p3]) ++ List.replicate (6 - (lg_sl ([.ref h0, .int p0, .int p1, .int p2, .int p3])).length) Slot.unset).toArray) []) (by rw [hav]; exact lg_entry_eq m ([.ref h0, .int p0, .int p1, .int p2, .int p3]) 6) ?_
  have hl := lv_entry ([.ref h0, .int p0, .int p1, .int p2, .int p3]) (n := 6) (Nat.le_of_ble_eq_true rfl)
  generalize (lg_sl ([.ref h0, .int p0, .int p1, .int p2, .int p3]) ++ List.replicate (6 - (lg_sl ([.ref h0, .int p0, .int p1, .int p2, .int p3])).length) Slot.unset).toArray = ls at hl ⊢
  simp only [lvA_nil, lvA_i, lvA_l, lvA_a, lvA_r, Nat.zero_add, Nat.reduceAdd] at hl
  have hret : ∀ (v : Int32) (M : hM) (H : Heap) (locs : List Loc) (cells slots : Nat) (ls : Array Slot) (pc : Nat), decode b_PR_letter pc = .ok (.ireturn, 1) → (b_ret v).1 M = some Z → hm_I D dA hCl z k1 s M H locs cells slots → W p l e (headSpec w_PR_letter { frames := 2, cells := Z.2.2.1 - s.heap.size, slots := Z.2.2.2 - k1, locals := 44 }).room s m args below meth c H locs cells slots (MQ below (hm_Q D dA hCl (hTy dA) sT aK aV z (some (.int Z.1)) Z.2) args s (Z.2.2.1 - s.heap.size) (Z.2.2.2 - k1) (fun q => z ≤ q)) (F0 m pc ls [.int v]) := fun v M H locs cells slots ls pc hdg hf hI => x_reti S hK hG hI hr hlocks hdg hf
  have hR : Z.2.2.1 - s.heap.size ≤ (headSpec w_PR_letter { frames := 2, cells := Z.2.2.1 - s.heap.size, slots := Z.2.2.2 - k1, locals := 44 }).room.cells ∧ Z.2.2.2 - k1 ≤ (headSpec w_PR_letter { frames := 2, cells := Z.2.2.1 - s.heap.size, slots := Z.2.2.2 - k1, locals := 44 }).room.slots := ⟨Nat.le_refl _, Nat.le_refl _⟩
  have hRf : 2 ≤ (headSpec w_PR_letter { frames := 2, cells := Z.2.2.1 - s.heap.size, slots := Z.2.2.2 - k1, locals := 44 }).room.frames ∧ 44 ≤ (headSpec w_PR_letter { frames := 2, cells := Z.2.2.1 - s.heap.size, slots := Z.2.2.2 - k1, locals := 44 }).room.locals := ⟨Nat.le_refl _, Nat.le_refl _⟩
  generalize (headSpec w_PR_letter { frames := 2, cells := Z.2.2.1 - s.heap.size, slots := Z.2.2.2 - k1, locals := 44 }).room = R at hret hR hRf ⊢
  generalize (MQ below (hm_Q D dA hCl (hTy dA) sT aK aV z (some (.int Z.1)) Z.2) args s (Z.2.2.1 - s.heap.size) (Z.2.2.2 - k1) (fun q => z ≤ q)) = Q at hret ⊢
  rw [e_PR_letter] at hf
  obtain ⟨J88, eJ88, hf⟩ := b_let_inv hf
  have w88 : ∀ (y0 : Int32) (M : hM) (H : Heap) (locs : List Loc) (ls : Array Slot) (cells slots : Nat), (J88 y0).1 M = some Z → hm_I D dA hCl z k1 s M H locs cells slots → lv_has ls 6 [] → W p l e R s m args below meth c H locs cells slots Q (F0 m 88 ls [.int y0]) := by
    intro y0 M H locs ls cells slots hf hI hl
    rw [eJ88] at hf
    exact hret _ _ _ _ _ _ _ _ d_PR_letter_88 hf hI
  refine lv_aload_n S.1 S.2.1 d_PR_letter_0 rfl (lv_at hl 0 rfl) ?_
  refine lv_iload_n S.1 S.2.1 d_PR_letter_1 rfl (lv_at hl 1 rfl) ?_
  refine lv_iload_n S.1 S.2.1 d_PR_letter_2 rfl (lv_at hl 2 rfl) ?_
  obtain ⟨⟨fs4, hefs4⟩, hf⟩ := b_is_inv hf
  obtain ⟨r1, N2, hg3, hf⟩ := b_call_inv hf
  refine x_call hI (hm_mo hg3) (va_runV (As := [.int p0, .int p1]) (rest := []) S (c_PR_rowOf l hg3) (cwV 2 S.2.2.2.2 (gi_V wd_365 wd_366 wd_367 wd_362 wd_368) rfl rfl rfl (by decide +kernel) ⟨Nat.le_trans (Nat.le_of_ble_eq_true rfl) hRf.1, Nat.le_trans (Nat.le_of_ble_eq_true rfl) hRf.2⟩) ⟨hm_B.blind, va_recv hK (hI.1.one hefs4) (ci := 0) (q0 := 0) rfl rfl, fun U hU hW => ⟨rfl, hm_B.of hK hG hI hU hW⟩⟩ rfl rfl hl.1 rfl (lv_room (Nat.le_of_ble_eq_true rfl)) d_PR_letter_3 (hx_fit hI hR (hm_mo hg3) (hm_mo hf))) (fun H locs cells slots hI => ?_)
  refine W.eq (g2 := F0 m 6 ls [va_rf r1]) rfl ?_
  refine x_astore (r := r1) (lv2 := [(0, .ref h0), (1, .int p0), (2, .int p1), (3, .int p2), (4, .int p3)]) S d_PR_letter_6 hl (by decide) [0, 1, 2, 3, 4] rfl ⟨⟨(by decide : (0 : Nat) ≠ 5), fun h => absurd (show (0 : Nat) + 1 = 5 from h) (by decide)⟩, ⟨⟨(by decide : (1 : Nat) ≠ 5), fun h => absurd (show (1 : Nat) + 1 = 5 from h) (by decide)⟩, ⟨⟨(by decide : (2 : Nat) ≠ 5), fun h => absurd (show (2 : Nat) + 1 = 5 from h) (by decide)⟩, ⟨⟨(by decide : (3 : Nat) ≠ 5), fun h => absurd (show (3 : Nat) + 1 = 5 from h) (by decide)⟩, ⟨⟨(by decide : (4 : Nat) ≠ 5), fun _ => rfl⟩, trivial⟩⟩⟩⟩⟩ (fun ls hl => ?_)
  refine x_aload (r := r1) S d_PR_letter_8 (lv_at hl 0 rfl) ?_
  refine x_ifnonnull (r := r1) (tgt := 15) S d_PR_letter_10 (by decide) (fun hc => ?_) (fun hc => ?_)
  · have hf := b_if_f hc hf
    refine lv_iload_n S.1 S.2.1 d_PR_letter_15 rfl (lv_at hl 4 rfl) ?_
    by_cases hc0 : p2 = 0
    · have hf := b_if_t hc0 hf
      refine lv_tableIn (tgt := 44) S.1 S.2.1 d_PR_letter_16 (by rw [hc0]; decide) (by rw [hc0]; decide) (by rw [hc0] <;> rfl) (by decide) ?_
      refine x_aload (r := r1) S d_PR_letter_44 (lv_at hl 0 rfl) ?_
      obtain ⟨a5, ea5, hg⟩ := b_nn_inv hf
      have hI0 := hI
      have hl0 := hl
      clear hf hI hl
      subst ea5
      have hf := hg
      have hI := hI0
      have hl := hl0
      clear hg hI0 hl0
      refine x_getR (ci := 7) (k := 2) S hK hI (fun w h => List.mem_cons_of_mem _ (i_Row w h)) rfl (by decide) (List.mem_cons_of_mem _ wd_371) rfl d_PR_letter_46 hf (fun r6 hf => ?_)
      refine lv_iload S.1 S.2.1 d_PR_letter_49 (lv_at hl 5 rfl) ?_
      obtain ⟨a7, ea7, hg⟩ := b_nn_inv hf
      have hI0 := hI
      have hl0 := hl
      clear hf hI hl
      subst ea7
      have hf := hg
      have hI := hI0
      have hl := hl0
      clear hg hI0 hl0
      obtain ⟨⟨fs11, hefs11⟩, hf⟩ := b_is_inv hf
      obtain ⟨v8, N9, hg10, hf⟩ := b_call_inv hf
      refine x_call hI (hm_mo hg10) (va_runV (As := [.int p3]) (rest := []) S (c_Name_writtenAt l hg10) (cwV 1 S.2.2.2.2 (gi_V wd_375 wd_376 wd_377 wd_75 wd_378) rfl rfl rfl (by decide +kernel) ⟨Nat.le_trans (Nat.le_of_ble_eq_true rfl) hRf.1, Nat.le_trans (Nat.le_of_ble_eq_true rfl) hRf.2⟩) ⟨hm_B.blind, va_recv hK (hI.1.one hefs11) (ci := 2) (q0 := 0) rfl rfl, fun U hU hW => ⟨rfl, hm_B.of hK hG hI hU hW⟩⟩ rfl rfl hl.1 rfl (lv_room (Nat.le_of_ble_eq_true rfl)) d_PR_letter_51 (hx_fit hI hR (hm_mo hg10) (hm_mo hf))) (fun H locs cells slots hI => ?_)
      refine W.eq (g2 := F0 m 54 ls [.int v8]) rfl ?_
      exact hret _ _ _ _ _ _ _ _ d_PR_letter_54 hf hI
    · have hf := b_if_f hc0 hf
      by_cases hc1 : p2 = 1
      · have hf := b_if_t hc1 hf
        refine lv_tableIn (tgt := 55) S.1 S.2.1 d_PR_letter_16 (by rw [hc1]; decide) (by rw [hc1]; decide) (by rw [hc1] <;> rfl) (by decide) ?_
        refine x_aload (r := r1) S d_PR_letter_55 (lv_at hl 0 rfl) ?_
        obtain ⟨a12, ea12, hg⟩ := b_nn_inv hf
        have hI0 := hI
        have hl0 := hl
        clear hf hI hl
        subst ea12
        have hf := hg
        have hI := hI0
        have hl := hl0
        clear hg hI0 hl0
        refine x_getR (ci := 7) (k := 2) S hK hI (fun w h => List.mem_cons_of_mem _ (i_Row w h)) rfl (by decide) (List.mem_cons_of_mem _ wd_371) rfl d_PR_letter_57 hf (fun r13 hf => ?_)
        refine lv_iload S.1 S.2.1 d_PR_letter_60 (lv_at hl 5 rfl) ?_
        obtain ⟨a14, ea14, hg⟩ := b_nn_inv hf
        have hI0 := hI
        have hl0 := hl
        clear hf hI hl
        subst ea14
        have hf := hg
        have hI := hI0
        have hl := hl0
        clear hg hI0 hl0
        obtain ⟨⟨fs18, hefs18⟩, hf⟩ := b_is_inv hf
        obtain ⟨v15, N16, hg17, hf⟩ := b_call_inv hf
        refine x_call hI (hm_mo hg17) (va_runV (As := [.int p3]) (rest := []) S (c_Name_foldedAt l hg17) (cwV 1 S.2.2.2.2 (gi_V wd_379 wd_380 wd_381 wd_75 wd_382) rfl rfl rfl (by decide +kernel) ⟨Nat.le_trans (Nat.le_of_ble_eq_true rfl) hRf.1, Nat.le_trans (Nat.le_of_ble_eq_true rfl) hRf.2⟩) ⟨hm_B.blind, va_recv hK (hI.1.one hefs18) (ci := 2) (q0 := 0) rfl rfl, fun U hU hW => ⟨rfl, hm_B.of hK hG hI hU hW⟩⟩ rfl rfl hl.1 rfl (lv_room (Nat.le_of_ble_eq_true rfl)) d_PR_letter_62 (hx_fit hI hR (hm_mo hg17) (hm_mo hf))) (fun H locs cells slots hI => ?_)
        refine W.eq (g2 := F0 m 65 ls [.int v15]) rfl ?_
        exact hret _ _ _ _ _ _ _ _ d_PR_letter_65 hf hI
      · have hf := b_if_f hc1 hf
        by_cases hc2 : p2 = 2
        · have hf := b_if_t hc2 hf
          refine lv_tableIn (tgt := 66) S.1 S.2.1 d_PR_letter_16 (by rw [hc2]; decide) (by rw [hc2]; decide) (by rw [hc2] <;> rfl) (by decide) ?_
          refine x_aload (r := r1) S d_PR_letter_66 (lv_at hl 0 rfl) ?_
          obtain ⟨a19, ea19, hg⟩ := b_nn_inv hf
          have hI0 := hI
          have hl0 := hl
          clear hf hI hl
          subst ea19
          have hf := hg
          have hI := hI0
          have hl := hl0
          clear hg hI0 hl0
          refine x_getR (ci := 7) (k := 3) S hK hI (fun w h => List.mem_cons_of_mem _ (i_Row w h)) rfl (by decide) (List.mem_cons_of_mem _ wd_383) rfl d_PR_letter_68 hf (fun r20 hf => ?_)
          refine x_ifnonnull (r := r20) (tgt := 78) S d_PR_letter_71 (by decide) (fun hc => ?_) (fun hc => ?_)
          · have hf := b_if_f hc hf
            refine lv_aload S.1 S.2.1 d_PR_letter_78 (lv_at hl 0 rfl) ?_
            refine x_getR (ci := 7) (k := 3) S hK hI (fun w h => List.mem_cons_of_mem _ (i_Row w h)) rfl (by decide) (List.mem_cons_of_mem _ wd_383) rfl d_PR_letter_80 hf (fun r21 hf => ?_)
            refine lv_iload S.1 S.2.1 d_PR_letter_83 (lv_at hl 5 rfl) ?_
            obtain ⟨a22, ea22, hg⟩ := b_nn_inv hf
            have hI0 := hI
            have hl0 := hl
            clear hf hI hl
            subst ea22
            have hf := hg
            have hI := hI0
            have hl := hl0
            clear hg hI0 hl0
            obtain ⟨⟨fs26, hefs26⟩, hf⟩ := b_is_inv hf
            obtain ⟨v23, N24, hg25, hf⟩ := b_call_inv hf
            refine x_call hI (hm_mo hg25) (va_runV (As := [.int p3]) (rest := []) S (c_Name_writtenAt l hg25) (cwV 1 S.2.2.2.2 (gi_V wd_375 wd_376 wd_377 wd_75 wd_378) rfl rfl rfl (by decide +kernel) ⟨Nat.le_trans (Nat.le_of_ble_eq_true rfl) hRf.1, Nat.le_trans (Nat.le_of_ble_eq_true rfl) hRf.2⟩) ⟨hm_B.blind, va_recv hK (hI.1.one hefs26) (ci := 2) (q0 := 0) rfl rfl, fun U hU hW => ⟨rfl, hm_B.of hK hG hI hU hW⟩⟩ rfl rfl hl.1 rfl (lv_room (Nat.le_of_ble_eq_true rfl)) d_PR_letter_85 (hx_fit hI hR (hm_mo hg25) (hm_mo hf))) (fun H locs cells slots hI => ?_)
            refine W.eq (g2 := F0 m 88 ls [.int v23]) rfl ?_
            exact w88 v23 _ _ _ _ _ _ hf hI (lv_sub hl [] rfl)
          · have hf := b_if_t hc hf
            refine lv_iconst (v := (-1)) S.1 S.2.1 d_PR_letter_74 (by decide) ?_
            refine lv_goto (tgt := 88) S.1 S.2.1 d_PR_letter_75 (by decide) ?_
            exact w88 (-1) _ _ _ _ _ _ hf hI (lv_sub hl [] rfl)
        · have hf := b_if_f hc2 hf
          refine lv_tableOut (tgt := 89) S.1 S.2.1 d_PR_letter_16 (by have g0 := lv_neT (a := 0) hc0 (by decide); have g1 := lv_neT (a := 1) hc1 (by decide); have g2 := lv_neT (a := 2) hc2 (by decide); omega) (by decide) ?_
          refine lv_iconst (v := (-1)) S.1 S.2.1 d_PR_letter_89 (by decide) ?_
          exact hret _ _ _ _ _ _ _ _ d_PR_letter_90 hf hI
  · have hf := b_if_t hc hf
    refine lv_iconst (v := (-1)) S.1 S.2.1 d_PR_letter_13 (by decide) ?_
    exact hret _ _ _ _ _ _ _ _ d_PR_letter_14 hf hI
set_option maxHeartbeats 4000000 in
set_option maxRecDepth 100000 in
theorem c_PR_low (l : Launch) {D : va_G} {dA : Nat → ClassId} {aK aV : Nat → Nat} {z : Nat} {N : Nat} {h0 : Nat} {p0 : Int32} {p1 : Int32} {M : hM} {Z : Int64 × hM} (hf : (f_PR_low N h0 p0 p1).1 M = some Z) : Met l y_PR_low w_PR_low ({ frames := 2, cells := Z.2.2.1 - M.2.1, slots := Z.2.2.2 - M.2.2, locals := 44 }) (va_Pc [.ref h0, .int p0, .int p1] (hm_B D dA hCl (hTy dA) sT aK aV z M)) (hm_Q D dA hCl (hTy dA) sT aK aV z (some (.long Z.1)) Z.2) (Z.2.2.1 - M.2.1) (Z.2.2.2 - M.2.2) (fun q => z ≤ q) := by
  refine Met.ofW (cc := b_PR_low) (maxL := 4) (ret := (some .long)) (by decide) rfl ?_
  intro p e s m args below meth c s₁ B hml hv
  obtain ⟨hav, hB⟩ := hv
  have S : CallFix p m c b_PR_low 4 s args w_PR_low R_PR := ⟨B.exec, B.bytes, hml, findClass_of_methodNamed B.named, atoms_spec (ws := w_PR_low) B.pre⟩
  have hr : meth.sig.returnType = (some .long) := B.returns
  have hlocks := B.notSynchronized
  have hK := hB.2.2.1
  have hG := hB.2.2.2.2.2
  have hI := hm_I.start hB
  rw [← hB.2.1]
  generalize M.2.2 = k1 at hI ⊢
  refine W.eq (g2 := F0 m 0 ((lg_sl ([.ref h0, .int p0, .int p1]) ++ List.replicate (4 - (lg_sl ([.ref h0, .int p0, .int p1])).length) Slot.unset).toArray) []) (by rw [hav]; exact lg_entry_eq m ([.ref h0, .int p0, .int p1]) 4) ?_
  have hl := lv_entry ([.ref h0, .int p0, .int p1]) (n := 4) (Nat.le_of_ble_eq_true rfl)
  generalize (lg_sl ([.ref h0, .int p0, .int p1]) ++ List.replicate (4 - (lg_sl ([.ref h0, .int p0, .int p1])).length) Slot.unset).toArray = ls at hl ⊢
  simp only [lvA_nil, lvA_i, lvA_l, lvA_a, lvA_r, Nat.zero_add, Nat.reduceAdd] at hl
  have hret : ∀ (v : Int64) (M : hM) (H : Heap) (locs : List Loc) (cells slots : Nat) (ls : Array Slot) (pc : Nat), decode b_PR_low pc = .ok (.lreturn, 1) → (b_ret v).1 M = some Z → hm_I D dA hCl z k1 s M H locs cells slots → W p l e (headSpec w_PR_low { frames := 2, cells := Z.2.2.1 - s.heap.size, slots := Z.2.2.2 - k1, locals := 44 }).room s m args below meth c H locs cells slots (MQ below (hm_Q D dA hCl (hTy dA) sT aK aV z (some (.long Z.1)) Z.2) args s (Z.2.2.1 - s.heap.size) (Z.2.2.2 - k1) (fun q => z ≤ q)) (F0 m pc ls [.long v]) := fun v M H locs cells slots ls pc hdg hf hI => x_retl S hK hG hI hr hlocks hdg hf
  have hR : Z.2.2.1 - s.heap.size ≤ (headSpec w_PR_low { frames := 2, cells := Z.2.2.1 - s.heap.size, slots := Z.2.2.2 - k1, locals := 44 }).room.cells ∧ Z.2.2.2 - k1 ≤ (headSpec w_PR_low { frames := 2, cells := Z.2.2.1 - s.heap.size, slots := Z.2.2.2 - k1, locals := 44 }).room.slots := ⟨Nat.le_refl _, Nat.le_refl _⟩
  have hRf : 2 ≤ (headSpec w_PR_low { frames := 2, cells := Z.2.2.1 - s.heap.size, slots := Z.2.2.2 - k1, locals := 44 }).room.frames ∧ 44 ≤ (headSpec w_PR_low { frames := 2, cells := Z.2.2.1 - s.heap.size, slots := Z.2.2.2 - k1, locals := 44 }).room.locals := ⟨Nat.le_refl _, Nat.le_refl _⟩
  generalize (headSpec w_PR_low { frames := 2, cells := Z.2.2.1 - s.heap.size, slots := Z.2.2.2 - k1, locals := 44 }).room = R at hret hR hRf ⊢
  generalize (MQ below (hm_Q D dA hCl (hTy dA) sT aK aV z (some (.long Z.1)) Z.2) args s (Z.2.2.1 - s.heap.size) (Z.2.2.2 - k1) (fun q => z ≤ q)) = Q at hret ⊢
  rw [e_PR_low] at hf
  obtain ⟨J21, eJ21, hf⟩ := b_let_inv hf
  have w21 : ∀ (y0 : Int64) (M : hM) (H : Heap) (locs : List Loc) (ls : Array Slot) (cells slots : Nat), (J21 y0).1 M = some Z → hm_I D dA hCl z k1 s M H locs cells slots → lv_has ls 4 [] → W p l e R s m args below meth c H locs cells slots Q (F0 m 21 ls [.long y0]) := by
    intro y0 M H locs ls cells slots hf hI hl
    rw [eJ21] at hf
    exact hret _ _ _ _ _ _ _ _ d_PR_low_21 hf hI
  refine lv_aload_n S.1 S.2.1 d_PR_low_0 rfl (lv_at hl 0 rfl) ?_
  refine lv_iload_n S.1 S.2.1 d_PR_low_1 rfl (lv_at hl 1 rfl) ?_
  refine lv_iload_n S.1 S.2.1 d_PR_low_2 rfl (lv_at hl 2 rfl) ?_
  obtain ⟨⟨fs4, hefs4⟩, hf⟩ := b_is_inv hf
  obtain ⟨r1, N2, hg3, hf⟩ := b_call_inv hf
  refine x_call hI (hm_mo hg3) (va_runV (As := [.int p0, .int p1]) (rest := []) S (c_PR_rowOf l hg3) (cwV 2 S.2.2.2.2 (gi_V wd_365 wd_366 wd_367 wd_362 wd_368) rfl rfl rfl (by decide +kernel) ⟨Nat.le_trans (Nat.le_of_ble_eq_true rfl) hRf.1, Nat.le_trans (Nat.le_of_ble_eq_true rfl) hRf.2⟩) ⟨hm_B.blind, va_recv hK (hI.1.one hefs4) (ci := 0) (q0 := 0) rfl rfl, fun U hU hW => ⟨rfl, hm_B.of hK hG hI hU hW⟩⟩ rfl rfl hl.1 rfl (lv_room (Nat.le_of_ble_eq_true rfl)) d_PR_low_3 (hx_fit hI hR (hm_mo hg3) (hm_mo hf))) (fun H locs cells slots hI => ?_)
  refine W.eq (g2 := F0 m 6 ls [va_rf r1]) rfl ?_
  refine x_astore_n (r := r1) (lv2 := [(0, .ref h0), (1, .int p0), (2, .int p1)]) S d_PR_low_6 rfl hl (by decide) [0, 1, 2] rfl ⟨⟨(by decide : (0 : Nat) ≠ 3), fun h => absurd (show (0 : Nat) + 1 = 3 from h) (by decide)⟩, ⟨⟨(by decide : (1 : Nat) ≠ 3), fun h => absurd (show (1 : Nat) + 1 = 3 from h) (by decide)⟩, ⟨⟨(by decide : (2 : Nat) ≠ 3), fun _ => rfl⟩, trivial⟩⟩⟩ (fun ls hl => ?_)
  refine x_aload_n (r := r1) S d_PR_low_7 rfl (lv_at hl 0 rfl) ?_
  refine x_ifnonnull (r := r1) (tgt := 17) S d_PR_low_8 (by decide) (fun hc => ?_) (fun hc => ?_)
  · have hf := b_if_f hc hf
    refine x_aload_n (r := r1) S d_PR_low_17 rfl (lv_at hl 0 rfl) ?_
    obtain ⟨a5, ea5, hg⟩ := b_nn_inv hf
    have hI0 := hI
    have hl0 := hl
    clear hf hI hl
    subst ea5
    have hf := hg
    have hI := hI0
    have hl := hl0
    clear hg hI0 hl0
    refine x_getL (ci := 7) (k := 4) S hK hI (fun w h => List.mem_cons_of_mem _ (i_Row w h)) rfl (by decide) (List.mem_cons_of_mem _ wd_384) rfl d_PR_low_18 hf (fun v6 hf => ?_)
    exact w21 v6 _ _ _ _ _ _ hf hI (lv_sub hl [] rfl)
  · have hf := b_if_t hc hf
    refine lv_ldc2 (v := (-1)) S.1 S.2.1 S.2.2.2.1 (S.2.2.2.2 _ (List.mem_cons_of_mem _ wd_385)) d_PR_low_11 ?_
    refine lv_goto (tgt := 21) S.1 S.2.1 d_PR_low_14 (by decide) ?_
    exact w21 (-1) _ _ _ _ _ _ hf hI (lv_sub hl [] rfl)
set_option maxHeartbeats 4000000 in
set_option maxRecDepth 100000 in
theorem c_PR_high (l : Launch) {D : va_G} {dA : Nat → ClassId} {aK aV : Nat → Nat} {z : Nat} {N : Nat} {h0 : Nat} {p0 : Int32} {p1 : Int32} {M : hM} {Z : Int64 × hM} (hf : (f_PR_high N h0 p0 p1).1 M = some Z) : Met l y_PR_high w_PR_high ({ frames := 2, cells := Z.2.2.1 - M.2.1, slots := Z.2.2.2 - M.2.2, locals := 44 }) (va_Pc [.ref h0, .int p0, .int p1] (hm_B D dA hCl (hTy dA) sT aK aV z M)) (hm_Q D dA hCl (hTy dA) sT aK aV z (some (.long Z.1)) Z.2) (Z.2.2.1 - M.2.1) (Z.2.2.2 - M.2.2) (fun q => z ≤ q) := by
  refine Met.ofW (cc := b_PR_high) (maxL := 4) (ret := (some .long)) (by decide) rfl ?_
  intro p e s m args below meth c s₁ B hml hv
  obtain ⟨hav, hB⟩ := hv
  have S : CallFix p m c b_PR_high 4 s args w_PR_high R_PR := ⟨B.exec, B.bytes, hml, findClass_of_methodNamed B.named, atoms_spec (ws := w_PR_high) B.pre⟩
  have hr : meth.sig.returnType = (some .long) := B.returns
  have hlocks := B.notSynchronized
  have hK := hB.2.2.1
  have hG := hB.2.2.2.2.2
  have hI := hm_I.start hB
  rw [← hB.2.1]
  generalize M.2.2 = k1 at hI ⊢
  refine W.eq (g2 := F0 m 0 ((lg_sl ([.ref h0, .int p0, .int p1]) ++ List.replicate (4 - (lg_sl ([.ref h0, .int p0, .int p1])).length) Slot.unset).toArray) []) (by rw [hav]; exact lg_entry_eq m ([.ref h0, .int p0, .int p1]) 4) ?_
  have hl := lv_entry ([.ref h0, .int p0, .int p1]) (n := 4) (Nat.le_of_ble_eq_true rfl)
  generalize (lg_sl ([.ref h0, .int p0, .int p1]) ++ List.replicate (4 - (lg_sl ([.ref h0, .int p0, .int p1])).length) Slot.unset).toArray = ls at hl ⊢
  simp only [lvA_nil, lvA_i, lvA_l, lvA_a, lvA_r, Nat.zero_add, Nat.reduceAdd] at hl
  have hret : ∀ (v : Int64) (M : hM) (H : Heap) (locs : List Loc) (cells slots : Nat) (ls : Array Slot) (pc : Nat), decode b_PR_high pc = .ok (.lreturn, 1) → (b_ret v).1 M = some Z → hm_I D dA hCl z k1 s M H locs cells slots → W p l e (headSpec w_PR_high { frames := 2, cells := Z.2.2.1 - s.heap.size, slots := Z.2.2.2 - k1, locals := 44 }).room s m args below meth c H locs cells slots (MQ below (hm_Q D dA hCl (hTy dA) sT aK aV z (some (.long Z.1)) Z.2) args s (Z.2.2.1 - s.heap.size) (Z.2.2.2 - k1) (fun q => z ≤ q)) (F0 m pc ls [.long v]) := fun v M H locs cells slots ls pc hdg hf hI => x_retl S hK hG hI hr hlocks hdg hf
  have hR : Z.2.2.1 - s.heap.size ≤ (headSpec w_PR_high { frames := 2, cells := Z.2.2.1 - s.heap.size, slots := Z.2.2.2 - k1, locals := 44 }).room.cells ∧ Z.2.2.2 - k1 ≤ (headSpec w_PR_high { frames := 2, cells := Z.2.2.1 - s.heap.size, slots := Z.2.2.2 - k1, locals := 44 }).room.slots := ⟨Nat.le_refl _, Nat.le_refl _⟩
  have hRf : 2 ≤ (headSpec w_PR_high { frames := 2, cells := Z.2.2.1 - s.heap.size, slots := Z.2.2.2 - k1, locals := 44 }).room.frames ∧ 44 ≤ (headSpec w_PR_high { frames := 2, cells := Z.2.2.1 - s.heap.size, slots := Z.2.2.2 - k1, locals := 44 }).room.locals := ⟨Nat.le_refl _, Nat.le_refl _⟩
  generalize (headSpec w_PR_high { frames := 2, cells := Z.2.2.1 - s.heap.size, slots := Z.2.2.2 - k1, locals := 44 }).room = R at hret hR hRf ⊢
  generalize (MQ below (hm_Q D dA hCl (hTy dA) sT aK aV z (some (.long Z.1)) Z.2) args s (Z.2.2.1 - s.heap.size) (Z.2.2.2 - k1) (fun q => z ≤ q)) = Q at hret ⊢
  rw [e_PR_high] at hf
  obtain ⟨J21, eJ21, hf⟩ := b_let_inv hf
  have w21 : ∀ (y0 : Int64) (M : hM) (H : Heap) (locs : List Loc) (ls : Array Slot) (cells slots : Nat), (J21 y0).1 M = some Z → hm_I D dA hCl z k1 s M H locs cells slots → lv_has ls 4 [] → W p l e R s m args below meth c H locs cells slots Q (F0 m 21 ls [.long y0]) := by
    intro y0 M H locs ls cells slots hf hI hl
    rw [eJ21] at hf
    exact hret _ _ _ _ _ _ _ _ d_PR_high_21 hf hI
  refine lv_aload_n S.1 S.2.1 d_PR_high_0 rfl (lv_at hl 0 rfl) ?_
  refine lv_iload_n S.1 S.2.1 d_PR_high_1 rfl (lv_at hl 1 rfl) ?_
  refine lv_iload_n S.1 S.2.1 d_PR_high_2 rfl (lv_at hl 2 rfl) ?_
  obtain ⟨⟨fs4, hefs4⟩, hf⟩ := b_is_inv hf
  obtain ⟨r1, N2, hg3, hf⟩ := b_call_inv hf
  refine x_call hI (hm_mo hg3) (va_runV (As := [.int p0, .int p1]) (rest := []) S (c_PR_rowOf l hg3) (cwV 2 S.2.2.2.2 (gi_V wd_365 wd_366 wd_367 wd_362 wd_368) rfl rfl rfl (by decide +kernel) ⟨Nat.le_trans (Nat.le_of_ble_eq_true rfl) hRf.1, Nat.le_trans (Nat.le_of_ble_eq_true rfl) hRf.2⟩) ⟨hm_B.blind, va_recv hK (hI.1.one hefs4) (ci := 0) (q0 := 0) rfl rfl, fun U hU hW => ⟨rfl, hm_B.of hK hG hI hU hW⟩⟩ rfl rfl hl.1 rfl (lv_room (Nat.le_of_ble_eq_true rfl)) d_PR_high_3 (hx_fit hI hR (hm_mo hg3) (hm_mo hf))) (fun H locs cells slots hI => ?_)
  refine W.eq (g2 := F0 m 6 ls [va_rf r1]) rfl ?_
  refine x_astore_n (r := r1) (lv2 := [(0, .ref h0), (1, .int p0), (2, .int p1)]) S d_PR_high_6 rfl hl (by decide) [0, 1, 2] rfl ⟨⟨(by decide : (0 : Nat) ≠ 3), fun h => absurd (show (0 : Nat) + 1 = 3 from h) (by decide)⟩, ⟨⟨(by decide : (1 : Nat) ≠ 3), fun h => absurd (show (1 : Nat) + 1 = 3 from h) (by decide)⟩, ⟨⟨(by decide : (2 : Nat) ≠ 3), fun _ => rfl⟩, trivial⟩⟩⟩ (fun ls hl => ?_)
  refine x_aload_n (r := r1) S d_PR_high_7 rfl (lv_at hl 0 rfl) ?_
  refine x_ifnonnull (r := r1) (tgt := 17) S d_PR_high_8 (by decide) (fun hc => ?_) (fun hc => ?_)
  · have hf := b_if_f hc hf
    refine x_aload_n (r := r1) S d_PR_high_17 rfl (lv_at hl 0 rfl) ?_
    obtain ⟨a5, ea5, hg⟩ := b_nn_inv hf
    have hI0 := hI
    have hl0 := hl
    clear hf hI hl
    subst ea5
    have hf := hg
    have hI := hI0
    have hl := hl0
    clear hg hI0 hl0
    refine x_getL (ci := 7) (k := 5) S hK hI (fun w h => List.mem_cons_of_mem _ (i_Row w h)) rfl (by decide) (List.mem_cons_of_mem _ wd_386) rfl d_PR_high_18 hf (fun v6 hf => ?_)
    exact w21 v6 _ _ _ _ _ _ hf hI (lv_sub hl [] rfl)
  · have hf := b_if_t hc hf
    refine lv_ldc2 (v := (-1)) S.1 S.2.1 S.2.2.2.1 (S.2.2.2.2 _ (List.mem_cons_of_mem _ wd_385)) d_PR_high_11 ?_
    refine lv_goto (tgt := 21) S.1 S.2.1 d_PR_high_14 (by decide) ?_
    exact w21 (-1) _ _ _ _ _ _ hf hI (lv_sub hl [] rfl)
set_option maxHeartbeats 4000000 in
set_option maxRecDepth 100000 in
theorem c_PR_check (l : Launch) {D : va_G} {dA : Nat → ClassId} {aK aV : Nat → Nat} {z : Nat} {N : Nat} {h0 : Nat} {p0 : Int32} {M : hM} {Z : Int32 × hM} (hf : (f_PR_check N h0 p0).1 M = some Z) : Met l y_PR_check w_PR_check ({ frames := 1, cells := Z.2.2.1 - M.2.1, slots := Z.2.2.2 - M.2.2, locals := 21 }) (va_Pc [.ref h0, .int p0] (hm_B D dA hCl (hTy dA) sT aK aV z M)) (hm_Q D dA hCl (hTy dA) sT aK aV z (some (.int Z.1)) Z.2) (Z.2.2.1 - M.2.1) (Z.2.2.2 - M.2.2) (fun q => z ≤ q) := by
  refine Met.ofW (cc := b_PR_check) (maxL := 4) (ret := (some .int)) (by decide) rfl ?_
  intro p e s m args below meth c s₁ B hml hv
  obtain ⟨hav, hB⟩ := hv
  have S : CallFix p m c b_PR_check 4 s args w_PR_check R_PR := ⟨B.exec, B.bytes, hml, findClass_of_methodNamed B.named, atoms_spec (ws := w_PR_check) B.pre⟩
  have hr : meth.sig.returnType = (some .int) := B.returns
  have hlocks := B.notSynchronized
  have hK := hB.2.2.1
  have hG := hB.2.2.2.2.2
  have hI := hm_I.start hB
  rw [← hB.2.1]
  generalize M.2.2 = k1 at hI ⊢
  refine W.eq (g2 := F0 m 0 ((lg_sl ([.ref h0, .int p0]) ++ List.replicate (4 - (lg_sl ([.ref h0, .int p0])).length) Slot.unset).toArray) []) (by rw [hav]; exact lg_entry_eq m ([.ref h0, .int p0]) 4) ?_
  have hl := lv_entry ([.ref h0, .int p0]) (n := 4) (Nat.le_of_ble_eq_true rfl)
  generalize (lg_sl ([.ref h0, .int p0]) ++ List.replicate (4 - (lg_sl ([.ref h0, .int p0])).length) Slot.unset).toArray = ls at hl ⊢
  simp only [lvA_nil, lvA_i, lvA_l, lvA_a, lvA_r, Nat.zero_add, Nat.reduceAdd] at hl
  have hret : ∀ (v : Int32) (M : hM) (H : Heap) (locs : List Loc) (cells slots : Nat) (ls : Array Slot) (pc : Nat), decode b_PR_check pc = .ok (.ireturn, 1) → (b_ret v).1 M = some Z → hm_I D dA hCl z k1 s M H locs cells slots → W p l e (headSpec w_PR_check { frames := 1, cells := Z.2.2.1 - s.heap.size, slots := Z.2.2.2 - k1, locals := 21 }).room s m args below meth c H locs cells slots (MQ below (hm_Q D dA hCl (hTy dA) sT aK aV z (some (.int Z.1)) Z.2) args s (Z.2.2.1 - s.heap.size) (Z.2.2.2 - k1) (fun q => z ≤ q)) (F0 m pc ls [.int v]) := fun v M H locs cells slots ls pc hdg hf hI => x_reti S hK hG hI hr hlocks hdg hf
  have hR : Z.2.2.1 - s.heap.size ≤ (headSpec w_PR_check { frames := 1, cells := Z.2.2.1 - s.heap.size, slots := Z.2.2.2 - k1, locals := 21 }).room.cells ∧ Z.2.2.2 - k1 ≤ (headSpec w_PR_check { frames := 1, cells := Z.2.2.1 - s.heap.size, slots := Z.2.2.2 - k1, locals := 21 }).room.slots := ⟨Nat.le_refl _, Nat.le_refl _⟩
  have hRf : 1 ≤ (headSpec w_PR_check { frames := 1, cells := Z.2.2.1 - s.heap.size, slots := Z.2.2.2 - k1, locals := 21 }).room.frames ∧ 21 ≤ (headSpec w_PR_check { frames := 1, cells := Z.2.2.1 - s.heap.size, slots := Z.2.2.2 - k1, locals := 21 }).room.locals := ⟨Nat.le_refl _, Nat.le_refl _⟩
  generalize (headSpec w_PR_check { frames := 1, cells := Z.2.2.1 - s.heap.size, slots := Z.2.2.2 - k1, locals := 21 }).room = R at hret hR hRf ⊢
  generalize (MQ below (hm_Q D dA hCl (hTy dA) sT aK aV z (some (.int Z.1)) Z.2) args s (Z.2.2.1 - s.heap.size) (Z.2.2.2 - k1) (fun q => z ≤ q)) = Q at hret ⊢
  rw [e_PR_check] at hf
  have w14 : ∀ (n : Nat) (x2 : Option Nat) (x3 : Int32) (M : hM) (H : Heap) (locs : List Loc) (ls : Array Slot) (cells slots : Nat), (f_PR_check_14 N h0 p0  n x2 x3).1 M = some Z → hm_I D dA hCl z k1 s M H locs cells slots → lv_has ls 4 [(2, va_rf x2), (3, .int x3)] → W p l e R s m args below meth c H locs cells slots Q (F0 m 14 ls []) := by
    intro n
    induction n with
    | zero => intro x2 x3 M H locs ls cells slots hf hI hl; cases hf
    | succ n14 ih14 =>
      intro x2 x3 M H locs ls cells slots hf hI hl
      rw [e_PR_check_14] at hf
      refine lv_iload_n S.1 S.2.1 d_PR_check_14 rfl (lv_at hl 1 rfl) ?_
      refine x_aload_n (r := x2) S d_PR_check_15 rfl (lv_at hl 0 rfl) ?_
      obtain ⟨a1, ea1, hg⟩ := b_nn_inv hf
      have hI0 := hI
      have hl0 := hl
      clear hf hI hl
      subst ea1
      have hf := hg
      have hI := hI0
      have hl := hl0
      clear hg hI0 hl0
      refine x_getR (ci := 3) (k := 3) S hK hI (fun w h => List.mem_cons_of_mem _ (i_Pack w h)) rfl (by decide) (List.mem_cons_of_mem _ wd_364) rfl d_PR_check_16 hf (fun r2 hf => ?_)
      obtain ⟨a3, ea3, hg⟩ := b_nn_inv hf
      have hI0 := hI
      have hl0 := hl
      clear hf hI hl
      subst ea3
      have hf := hg
      have hI := hI0
      have hl := hl0
      clear hg hI0 hl0
      refine x_len (t := 1) S hK hI rfl d_PR_check_19 hf (fun v4 hf => ?_)
      refine lv_icmp_ge (tgt := 45) S.1 S.2.1 d_PR_check_20 (by decide) (fun hc => ?_) (fun hc => ?_)
      · have hf := b_if_t hc hf
        refine lv_iconst (v := 0) S.1 S.2.1 d_PR_check_45 (by decide) ?_
        exact hret _ _ _ _ _ _ _ _ d_PR_check_46 hf hI
      · have hf := b_if_f hc hf
        refine lv_aload_n S.1 S.2.1 d_PR_check_23 rfl (lv_at hl 0 rfl) ?_
        refine x_getR (ci := 3) (k := 3) S hK hI (fun w h => List.mem_cons_of_mem _ (i_Pack w h)) rfl (by decide) (List.mem_cons_of_mem _ wd_364) rfl d_PR_check_24 hf (fun r5 hf => ?_)
        refine lv_iload_n S.1 S.2.1 d_PR_check_27 rfl (lv_at hl 1 rfl) ?_
        obtain ⟨a6, ea6, hg⟩ := b_nn_inv hf
        have hI0 := hI
        have hl0 := hl
        clear hf hI hl
        subst ea6
        have hf := hg
        have hI := hI0
        have hl := hl0
        clear hg hI0 hl0
        refine x_aald (t := 1) S hK hI rfl d_PR_check_28 hf (fun r7 hf => ?_)
        obtain ⟨a8, ea8, hg⟩ := b_nn_inv hf
        have hI0 := hI
        have hl0 := hl
        clear hf hI hl
        subst ea8
        have hf := hg
        have hI := hI0
        have hl := hl0
        clear hg hI0 hl0
        refine x_getI (ci := 7) (k := 7) S hK hI (fun w h => List.mem_cons_of_mem _ (i_Row w h)) rfl (by decide) (List.mem_cons_of_mem _ wd_374) rfl d_PR_check_29 hf (fun v9 hf => ?_)
        refine lv_if_eq (tgt := 39) S.1 S.2.1 d_PR_check_32 (by decide) (fun hc => ?_) (fun hc => ?_)
        · have hf := b_if_t hc hf
          refine x_iinc (v := 1) (lv2 := [(2, .ref a1)]) S d_PR_check_39 hl 1 rfl (by decide) (by decide) [0] rfl ⟨⟨(by decide : (2 : Nat) ≠ 3), fun _ => rfl⟩, trivial⟩ (fun ls hl => ?_)
          refine lv_goto (tgt := 14) S.1 S.2.1 d_PR_check_42 (by decide) ?_
          exact ih14 (some a1) (x3 + 1) _ _ _ _ _ _ hf hI (lv_sub hl [1, 0] rfl)
        · have hf := b_if_f hc hf
          refine lv_iload_n S.1 S.2.1 d_PR_check_35 rfl (lv_at hl 1 rfl) ?_
          refine lv_iconst (v := 1) S.1 S.2.1 d_PR_check_36 (by decide) ?_
          refine lv_iadd S.1 S.2.1 d_PR_check_37 ?_
          exact hret _ _ _ _ _ _ _ _ d_PR_check_38 hf hI
  refine lv_aload_n S.1 S.2.1 d_PR_check_0 rfl (lv_at hl 0 rfl) ?_
  refine lv_iload_n S.1 S.2.1 d_PR_check_1 rfl (lv_at hl 1 rfl) ?_
  obtain ⟨⟨fs13, hefs13⟩, hf⟩ := b_is_inv hf
  obtain ⟨r10, N11, hg12, hf⟩ := b_call_inv hf
  refine x_call hI (hm_mo hg12) (va_runV (As := [.int p0]) (rest := []) S (c_PR_packOf l hg12) (cwV 1 S.2.2.2.2 (gi_V wd_359 wd_360 wd_361 wd_362 wd_363) rfl rfl rfl (by decide +kernel) ⟨Nat.le_trans (Nat.le_of_ble_eq_true rfl) hRf.1, Nat.le_trans (Nat.le_of_ble_eq_true rfl) hRf.2⟩) ⟨hm_B.blind, va_recv hK (hI.1.one hefs13) (ci := 0) (q0 := 0) rfl rfl, fun U hU hW => ⟨rfl, hm_B.of hK hG hI hU hW⟩⟩ rfl rfl hl.1 rfl (lv_room (Nat.le_of_ble_eq_true rfl)) d_PR_check_2 (hx_fit hI hR (hm_mo hg12) (hm_mo hf))) (fun H locs cells slots hI => ?_)
  refine W.eq (g2 := F0 m 5 ls [va_rf r10]) rfl ?_
  refine x_astore_n (r := r10) (lv2 := [(0, .ref h0), (1, .int p0)]) S d_PR_check_5 rfl hl (by decide) [0, 1] rfl ⟨⟨(by decide : (0 : Nat) ≠ 2), fun h => absurd (show (0 : Nat) + 1 = 2 from h) (by decide)⟩, ⟨⟨(by decide : (1 : Nat) ≠ 2), fun _ => rfl⟩, trivial⟩⟩ (fun ls hl => ?_)
  refine x_aload_n (r := r10) S d_PR_check_6 rfl (lv_at hl 0 rfl) ?_
  refine x_ifnonnull (r := r10) (tgt := 12) S d_PR_check_7 (by decide) (fun hc => ?_) (fun hc => ?_)
  · have hf := b_if_f hc hf
    refine lv_iconst (v := 0) S.1 S.2.1 d_PR_check_12 (by decide) ?_
    refine x_istore_n (lv2 := [(2, va_rf r10), (0, .ref h0), (1, .int p0)]) S d_PR_check_13 rfl hl (by decide) [0, 1, 2] rfl ⟨⟨(by decide : (2 : Nat) ≠ 3), fun _ => rf_cat _⟩, ⟨⟨(by decide : (0 : Nat) ≠ 3), fun h => absurd (show (0 : Nat) + 1 = 3 from h) (by decide)⟩, ⟨⟨(by decide : (1 : Nat) ≠ 3), fun h => absurd (show (1 : Nat) + 1 = 3 from h) (by decide)⟩, trivial⟩⟩⟩ (fun ls hl => ?_)
    exact w14 N r10 0 _ _ _ _ _ _ hf hI (lv_sub hl [1, 0] rfl)
  · have hf := b_if_t hc hf
    refine lv_iconst (v := (-1)) S.1 S.2.1 d_PR_check_10 (by decide) ?_
    exact hret _ _ _ _ _ _ _ _ d_PR_check_11 hf hI
set_option maxHeartbeats 4000000 in
set_option maxRecDepth 100000 in
theorem c_Pack_headsAlike (l : Launch) {D : va_G} {dA : Nat → ClassId} {aK aV : Nat → Nat} {z : Nat} {N : Nat} {h0 : Nat} {p0 : Option Nat} {M : hM} {Z : Int32 × hM} (hf : (f_Pack_headsAlike N h0 p0).1 M = some Z) : Met l y_Pack_headsAlike w_Pack_headsAlike ({ frames := 4, cells := Z.2.2.1 - M.2.1, slots := Z.2.2.2 - M.2.2, locals := 91 }) (va_Pc [.ref h0, va_rf p0] (hm_B D dA hCl (hTy dA) sT aK aV z M)) (hm_Q D dA hCl (hTy dA) sT aK aV z (some (.int Z.1)) Z.2) (Z.2.2.1 - M.2.1) (Z.2.2.2 - M.2.2) (fun q => z ≤ q) := by
  refine Met.ofW (cc := b_Pack_headsAlike) (maxL := 3) (ret := (some .boolean)) (by decide) rfl ?_
  intro p e s m args below meth c s₁ B hml hv
  obtain ⟨hav, hB⟩ := hv
  have S : CallFix p m c b_Pack_headsAlike 3 s args w_Pack_headsAlike R_Pack := ⟨B.exec, B.bytes, hml, findClass_of_methodNamed B.named, atoms_spec (ws := w_Pack_headsAlike) B.pre⟩
  have hr : meth.sig.returnType = (some .boolean) := B.returns
  have hlocks := B.notSynchronized
  have hK := hB.2.2.1
  have hG := hB.2.2.2.2.2
  have hI := hm_I.start hB
  rw [← hB.2.1]
  generalize M.2.2 = k1 at hI ⊢
  refine W.eq (g2 := F0 m 0 ((lg_sl ([.ref h0, va_rf p0]) ++ List.replicate (3 - (lg_sl ([.ref h0, va_rf p0])).length) Slot.unset).toArray) []) (by rw [hav]; exact lg_entry_eq m ([.ref h0, va_rf p0]) 3) ?_
  have hl := lv_entry ([.ref h0, va_rf p0]) (n := 3) (by cases p0 <;> exact Nat.le_of_ble_eq_true rfl)
  generalize (lg_sl ([.ref h0, va_rf p0]) ++ List.replicate (3 - (lg_sl ([.ref h0, va_rf p0])).length) Slot.unset).toArray = ls at hl ⊢
  simp only [lvA_nil, lvA_i, lvA_l, lvA_a, lvA_r, Nat.zero_add, Nat.reduceAdd] at hl
  have hret : ∀ (v : Int32) (M : hM) (H : Heap) (locs : List Loc) (cells slots : Nat) (ls : Array Slot) (pc : Nat), decode b_Pack_headsAlike pc = .ok (.ireturn, 1) → (b_retN .boolean v).1 M = some Z → hm_I D dA hCl z k1 s M H locs cells slots → W p l e (headSpec w_Pack_headsAlike { frames := 4, cells := Z.2.2.1 - s.heap.size, slots := Z.2.2.2 - k1, locals := 91 }).room s m args below meth c H locs cells slots (MQ below (hm_Q D dA hCl (hTy dA) sT aK aV z (some (.int Z.1)) Z.2) args s (Z.2.2.1 - s.heap.size) (Z.2.2.2 - k1) (fun q => z ≤ q)) (F0 m pc ls [.int v]) := fun v M H locs cells slots ls pc hdg hf hI => x_retn S hK hG hI hr hlocks hdg hf
  have hR : Z.2.2.1 - s.heap.size ≤ (headSpec w_Pack_headsAlike { frames := 4, cells := Z.2.2.1 - s.heap.size, slots := Z.2.2.2 - k1, locals := 91 }).room.cells ∧ Z.2.2.2 - k1 ≤ (headSpec w_Pack_headsAlike { frames := 4, cells := Z.2.2.1 - s.heap.size, slots := Z.2.2.2 - k1, locals := 91 }).room.slots := ⟨Nat.le_refl _, Nat.le_refl _⟩
  have hRf : 4 ≤ (headSpec w_Pack_headsAlike { frames := 4, cells := Z.2.2.1 - s.heap.size, slots := Z.2.2.2 - k1, locals := 91 }).room.frames ∧ 91 ≤ (headSpec w_Pack_headsAlike { frames := 4, cells := Z.2.2.1 - s.heap.size, slots := Z.2.2.2 - k1, locals := 91 }).room.locals := ⟨Nat.le_refl _, Nat.le_refl _⟩
  generalize (headSpec w_Pack_headsAlike { frames := 4, cells := Z.2.2.1 - s.heap.size, slots := Z.2.2.2 - k1, locals := 91 }).room = R at hret hR hRf ⊢
  generalize (MQ below (hm_Q D dA hCl (hTy dA) sT aK aV z (some (.int Z.1)) Z.2) args s (Z.2.2.1 - s.heap.size) (Z.2.2.2 - k1) (fun q => z ≤ q)) = Q at hret ⊢
  rw [e_Pack_headsAlike] at hf
  have w43 : ∀ (n : Nat) (x2 : Int32) (M : hM) (H : Heap) (locs : List Loc) (ls : Array Slot) (cells slots : Nat), (f_Pack_headsAlike_43 N h0 p0  n x2).1 M = some Z → hm_I D dA hCl z k1 s M H locs cells slots → lv_has ls 3 [(0, .ref h0), (1, va_rf p0), (2, .int x2)] → W p l e R s m args below meth c H locs cells slots Q (F0 m 43 ls []) := by
    intro n
    induction n with
    | zero => intro x2 M H locs ls cells slots hf hI hl; cases hf
    | succ n43 ih43 =>
      intro x2 M H locs ls cells slots hf hI hl
      rw [e_Pack_headsAlike_43] at hf
      refine lv_iload_n S.1 S.2.1 d_Pack_headsAlike_43 rfl (lv_at hl 2 rfl) ?_
      refine lv_aload_n S.1 S.2.1 d_Pack_headsAlike_44 rfl (lv_at hl 0 rfl) ?_
      refine x_getR (ci := 3) (k := 2) S hK hI (fun w h => List.mem_cons_of_mem _ (i_Pack w h)) rfl (by decide) (List.mem_cons_of_mem _ wd_277) rfl d_Pack_headsAlike_45 hf (fun r1 hf => ?_)
      obtain ⟨a2, ea2, hg⟩ := b_nn_inv hf
      have hI0 := hI
      have hl0 := hl
      clear hf hI hl
      subst ea2
      have hf := hg
      have hI := hI0
      have hl := hl0
      clear hg hI0 hl0
      refine x_len (t := 3) S hK hI rfl d_Pack_headsAlike_48 hf (fun v3 hf => ?_)
      refine lv_icmp_ge (tgt := 73) S.1 S.2.1 d_Pack_headsAlike_49 (by decide) (fun hc => ?_) (fun hc => ?_)
      · have hf := b_if_t hc hf
        refine lv_iconst (v := 1) S.1 S.2.1 d_Pack_headsAlike_73 (by decide) ?_
        exact hret _ _ _ _ _ _ _ _ d_Pack_headsAlike_74 hf hI
      · have hf := b_if_f hc hf
        refine x_aload_n (r := p0) S d_Pack_headsAlike_52 rfl (lv_at hl 1 rfl) ?_
        refine lv_aload_n S.1 S.2.1 d_Pack_headsAlike_53 rfl (lv_at hl 0 rfl) ?_
        refine x_getR (ci := 3) (k := 2) S hK hI (fun w h => List.mem_cons_of_mem _ (i_Pack w h)) rfl (by decide) (List.mem_cons_of_mem _ wd_277) rfl d_Pack_headsAlike_54 hf (fun r4 hf => ?_)
        refine lv_iload_n S.1 S.2.1 d_Pack_headsAlike_57 rfl (lv_at hl 2 rfl) ?_
        obtain ⟨a5, ea5, hg⟩ := b_nn_inv hf
        have hI0 := hI
        have hl0 := hl
        clear hf hI hl
        subst ea5
        have hf := hg
        have hI := hI0
        have hl := hl0
        clear hg hI0 hl0
        refine x_aald (t := 3) S hK hI rfl d_Pack_headsAlike_58 hf (fun r6 hf => ?_)
        obtain ⟨a7, ea7, hg⟩ := b_nn_inv hf
        have hI0 := hI
        have hl0 := hl
        clear hf hI hl
        subst ea7
        have hf := hg
        have hI := hI0
        have hl := hl0
        clear hg hI0 hl0
        obtain ⟨⟨fs11, hefs11⟩, hf⟩ := b_is_inv hf
        obtain ⟨v8, N9, hg10, hf⟩ := b_call_inv hf
        refine x_call hI (hm_mo hg10) (va_runV (As := [va_rf r6]) (rest := []) S (c_Pack_hasFeature l hg10) (cwV 1 S.2.2.2.2 (gi_V wd_293 wd_294 wd_295 wd_273 wd_296) rfl rfl rfl (by decide +kernel) ⟨Nat.le_trans (Nat.le_of_ble_eq_true rfl) hRf.1, Nat.le_trans (Nat.le_of_ble_eq_true rfl) hRf.2⟩) ⟨hm_B.blind, va_recv hK (hI.1.one hefs11) (ci := 3) (q0 := 0) rfl rfl, fun U hU hW => ⟨rfl, hm_B.of hK hG hI hU hW⟩⟩ rfl rfl hl.1 rfl (lv_room (Nat.le_of_ble_eq_true rfl)) d_Pack_headsAlike_59 (hx_fit hI hR (hm_mo hg10) (hm_mo hf))) (fun H locs cells slots hI => ?_)
        refine W.eq (g2 := F0 m 62 ls [.int v8]) rfl ?_
        refine lv_if_ne (tgt := 67) S.1 S.2.1 d_Pack_headsAlike_62 (by decide) (fun hc => ?_) (fun hc => ?_)
        · have hf := b_if_f hc hf
          refine x_iinc (v := 1) (lv2 := [(0, .ref h0), (1, .ref a7)]) S d_Pack_headsAlike_67 hl 2 rfl (by decide) (by decide) [0, 1] rfl ⟨⟨(by decide : (0 : Nat) ≠ 2), fun h => absurd (show (0 : Nat) + 1 = 2 from h) (by decide)⟩, ⟨⟨(by decide : (1 : Nat) ≠ 2), fun _ => rfl⟩, trivial⟩⟩ (fun ls hl => ?_)
          refine lv_goto (tgt := 43) S.1 S.2.1 d_Pack_headsAlike_70 (by decide) ?_
          exact ih43 (x2 + 1) _ _ _ _ _ _ hf hI (lv_sub hl [1, 2, 0] rfl)
        · have hf := b_if_t hc hf
          refine lv_iconst (v := 0) S.1 S.2.1 d_Pack_headsAlike_65 (by decide) ?_
          exact hret _ _ _ _ _ _ _ _ d_Pack_headsAlike_66 hf hI
  refine lv_aload_n S.1 S.2.1 d_Pack_headsAlike_0 rfl (lv_at hl 0 rfl) ?_
  refine x_getR (ci := 3) (k := 0) S hK hI (fun w h => List.mem_cons_of_mem _ (i_Pack w h)) rfl (by decide) (List.mem_cons_of_mem _ wd_275) rfl d_Pack_headsAlike_1 hf (fun r12 hf => ?_)
  refine x_aload_n (r := p0) S d_Pack_headsAlike_4 rfl (lv_at hl 1 rfl) ?_
  obtain ⟨a13, ea13, hg⟩ := b_nn_inv hf
  have hI0 := hI
  have hl0 := hl
  clear hf hI hl
  subst ea13
  have hf := hg
  have hI := hI0
  have hl := hl0
  clear hg hI0 hl0
  refine x_getR (ci := 3) (k := 0) S hK hI (fun w h => List.mem_cons_of_mem _ (i_Pack w h)) rfl (by decide) (List.mem_cons_of_mem _ wd_275) rfl d_Pack_headsAlike_5 hf (fun r14 hf => ?_)
  obtain ⟨a15, ea15, hg⟩ := b_nn_inv hf
  have hI0 := hI
  have hl0 := hl
  clear hf hI hl
  subst ea15
  have hf := hg
  have hI := hI0
  have hl := hl0
  clear hg hI0 hl0
  obtain ⟨⟨fs19, hefs19⟩, hf⟩ := b_is_inv hf
  obtain ⟨v16, N17, hg18, hf⟩ := b_call_inv hf
  refine x_call hI (hm_mo hg18) (va_runV (As := [va_rf r14]) (rest := []) S (c_Name_foldsLike l hg18) (cwV 1 S.2.2.2.2 (gi_V wd_297 wd_298 wd_299 wd_75 wd_300) rfl rfl rfl (by decide +kernel) ⟨Nat.le_trans (Nat.le_of_ble_eq_true rfl) hRf.1, Nat.le_trans (Nat.le_of_ble_eq_true rfl) hRf.2⟩) ⟨hm_B.blind, va_recv hK (hI.1.one hefs19) (ci := 2) (q0 := 0) rfl rfl, fun U hU hW => ⟨rfl, hm_B.of hK hG hI hU hW⟩⟩ rfl rfl hl.1 rfl (lv_room (Nat.le_of_ble_eq_true rfl)) d_Pack_headsAlike_8 (hx_fit hI hR (hm_mo hg18) (hm_mo hf))) (fun H locs cells slots hI => ?_)
  refine W.eq (g2 := F0 m 11 ls [.int v16]) rfl ?_
  refine lv_if_eq (tgt := 39) S.1 S.2.1 d_Pack_headsAlike_11 (by decide) (fun hc => ?_) (fun hc => ?_)
  · have hf := b_if_t hc hf
    refine lv_iconst (v := 0) S.1 S.2.1 d_Pack_headsAlike_39 (by decide) ?_
    exact hret _ _ _ _ _ _ _ _ d_Pack_headsAlike_40 hf hI
  · have hf := b_if_f hc hf
    refine lv_aload_n S.1 S.2.1 d_Pack_headsAlike_14 rfl (lv_at hl 0 rfl) ?_
    refine x_getL (ci := 3) (k := 1) S hK hI (fun w h => List.mem_cons_of_mem _ (i_Pack w h)) rfl (by decide) (List.mem_cons_of_mem _ wd_276) rfl d_Pack_headsAlike_15 hf (fun v20 hf => ?_)
    refine lv_aload_n S.1 S.2.1 d_Pack_headsAlike_18 rfl (lv_at hl 1 rfl) ?_
    refine x_getL (ci := 3) (k := 1) S hK hI (fun w h => List.mem_cons_of_mem _ (i_Pack w h)) rfl (by decide) (List.mem_cons_of_mem _ wd_276) rfl d_Pack_headsAlike_19 hf (fun v21 hf => ?_)
    refine W.lcmp S.1 S.2.1 d_Pack_headsAlike_22 ?_
    refine lv_if_ne (tgt := 39) S.1 S.2.1 d_Pack_headsAlike_23 (by decide) (fun hc => ?_) (fun hc => ?_)
    · have hf := b_if_f hc hf
      refine lv_iconst (v := 0) S.1 S.2.1 d_Pack_headsAlike_39 (by decide) ?_
      exact hret _ _ _ _ _ _ _ _ d_Pack_headsAlike_40 hf hI
    · have hf := b_if_t hc hf
      refine lv_aload_n S.1 S.2.1 d_Pack_headsAlike_26 rfl (lv_at hl 0 rfl) ?_
      refine x_getR (ci := 3) (k := 2) S hK hI (fun w h => List.mem_cons_of_mem _ (i_Pack w h)) rfl (by decide) (List.mem_cons_of_mem _ wd_277) rfl d_Pack_headsAlike_27 hf (fun r22 hf => ?_)
      obtain ⟨a23, ea23, hg⟩ := b_nn_inv hf
      have hI0 := hI
      have hl0 := hl
      clear hf hI hl
      subst ea23
      have hf := hg
      have hI := hI0
      have hl := hl0
      clear hg hI0 hl0
      refine x_len (t := 3) S hK hI rfl d_Pack_headsAlike_30 hf (fun v24 hf => ?_)
      refine lv_aload_n S.1 S.2.1 d_Pack_headsAlike_31 rfl (lv_at hl 1 rfl) ?_
      refine x_getR (ci := 3) (k := 2) S hK hI (fun w h => List.mem_cons_of_mem _ (i_Pack w h)) rfl (by decide) (List.mem_cons_of_mem _ wd_277) rfl d_Pack_headsAlike_32 hf (fun r25 hf => ?_)
      obtain ⟨a26, ea26, hg⟩ := b_nn_inv hf
      have hI0 := hI
      have hl0 := hl
      clear hf hI hl
      subst ea26
      have hf := hg
      have hI := hI0
      have hl := hl0
      clear hg hI0 hl0
      refine x_len (t := 3) S hK hI rfl d_Pack_headsAlike_35 hf (fun v27 hf => ?_)
      refine lv_icmp_eq (tgt := 41) S.1 S.2.1 d_Pack_headsAlike_36 (by decide) (fun hc => ?_) (fun hc => ?_)
      · have hf := b_if_t hc hf
        refine lv_iconst (v := 0) S.1 S.2.1 d_Pack_headsAlike_41 (by decide) ?_
        refine x_istore_n (lv2 := [(0, .ref h0), (1, .ref a13)]) S d_Pack_headsAlike_42 rfl hl (by decide) [0, 1] rfl ⟨⟨(by decide : (0 : Nat) ≠ 2), fun h => absurd (show (0 : Nat) + 1 = 2 from h) (by decide)⟩, ⟨⟨(by decide : (1 : Nat) ≠ 2), fun _ => rfl⟩, trivial⟩⟩ (fun ls hl => ?_)
        exact w43 N 0 _ _ _ _ _ _ hf hI (lv_sub hl [1, 2, 0] rfl)
      · have hf := b_if_f hc hf
        refine lv_iconst (v := 0) S.1 S.2.1 d_Pack_headsAlike_39 (by decide) ?_
        exact hret _ _ _ _ _ _ _ _ d_Pack_headsAlike_40 hf hI
set_option maxHeartbeats 4000000 in
set_option maxRecDepth 100000 in
theorem c_Row_holdsLike (l : Launch) {D : va_G} {dA : Nat → ClassId} {aK aV : Nat → Nat} {z : Nat} {N : Nat} {h0 : Nat} {p0 : Option Nat} {M : hM} {Z : Int32 × hM} (hf : (f_Row_holdsLike N h0 p0).1 M = some Z) : Met l y_Row_holdsLike w_Row_holdsLike ({ frames := 3, cells := Z.2.2.1 - M.2.1, slots := Z.2.2.2 - M.2.2, locals := 68 }) (va_Pc [.ref h0, va_rf p0] (hm_B D dA hCl (hTy dA) sT aK aV z M)) (hm_Q D dA hCl (hTy dA) sT aK aV z (some (.int Z.1)) Z.2) (Z.2.2.1 - M.2.1) (Z.2.2.2 - M.2.2) (fun q => z ≤ q) := by
  refine Met.ofW (cc := b_Row_holdsLike) (maxL := 2) (ret := (some .boolean)) (by decide) rfl ?_
  intro p e s m args below meth c s₁ B hml hv
  obtain ⟨hav, hB⟩ := hv
  have S : CallFix p m c b_Row_holdsLike 2 s args w_Row_holdsLike R_Row := ⟨B.exec, B.bytes, hml, findClass_of_methodNamed B.named, atoms_spec (ws := w_Row_holdsLike) B.pre⟩
  have hr : meth.sig.returnType = (some .boolean) := B.returns
  have hlocks := B.notSynchronized
  have hK := hB.2.2.1
  have hG := hB.2.2.2.2.2
  have hI := hm_I.start hB
  rw [← hB.2.1]
  generalize M.2.2 = k1 at hI ⊢
  refine W.eq (g2 := F0 m 0 ((lg_sl ([.ref h0, va_rf p0]) ++ List.replicate (2 - (lg_sl ([.ref h0, va_rf p0])).length) Slot.unset).toArray) []) (by rw [hav]; exact lg_entry_eq m ([.ref h0, va_rf p0]) 2) ?_
  have hl := lv_entry ([.ref h0, va_rf p0]) (n := 2) (by cases p0 <;> exact Nat.le_of_ble_eq_true rfl)
  generalize (lg_sl ([.ref h0, va_rf p0]) ++ List.replicate (2 - (lg_sl ([.ref h0, va_rf p0])).length) Slot.unset).toArray = ls at hl ⊢
  simp only [lvA_nil, lvA_i, lvA_l, lvA_a, lvA_r, Nat.zero_add, Nat.reduceAdd] at hl
  have hret : ∀ (v : Int32) (M : hM) (H : Heap) (locs : List Loc) (cells slots : Nat) (ls : Array Slot) (pc : Nat), decode b_Row_holdsLike pc = .ok (.ireturn, 1) → (b_retN .boolean v).1 M = some Z → hm_I D dA hCl z k1 s M H locs cells slots → W p l e (headSpec w_Row_holdsLike { frames := 3, cells := Z.2.2.1 - s.heap.size, slots := Z.2.2.2 - k1, locals := 68 }).room s m args below meth c H locs cells slots (MQ below (hm_Q D dA hCl (hTy dA) sT aK aV z (some (.int Z.1)) Z.2) args s (Z.2.2.1 - s.heap.size) (Z.2.2.2 - k1) (fun q => z ≤ q)) (F0 m pc ls [.int v]) := fun v M H locs cells slots ls pc hdg hf hI => x_retn S hK hG hI hr hlocks hdg hf
  have hR : Z.2.2.1 - s.heap.size ≤ (headSpec w_Row_holdsLike { frames := 3, cells := Z.2.2.1 - s.heap.size, slots := Z.2.2.2 - k1, locals := 68 }).room.cells ∧ Z.2.2.2 - k1 ≤ (headSpec w_Row_holdsLike { frames := 3, cells := Z.2.2.1 - s.heap.size, slots := Z.2.2.2 - k1, locals := 68 }).room.slots := ⟨Nat.le_refl _, Nat.le_refl _⟩
  have hRf : 3 ≤ (headSpec w_Row_holdsLike { frames := 3, cells := Z.2.2.1 - s.heap.size, slots := Z.2.2.2 - k1, locals := 68 }).room.frames ∧ 68 ≤ (headSpec w_Row_holdsLike { frames := 3, cells := Z.2.2.1 - s.heap.size, slots := Z.2.2.2 - k1, locals := 68 }).room.locals := ⟨Nat.le_refl _, Nat.le_refl _⟩
  generalize (headSpec w_Row_holdsLike { frames := 3, cells := Z.2.2.1 - s.heap.size, slots := Z.2.2.2 - k1, locals := 68 }).room = R at hret hR hRf ⊢
  generalize (MQ below (hm_Q D dA hCl (hTy dA) sT aK aV z (some (.int Z.1)) Z.2) args s (Z.2.2.1 - s.heap.size) (Z.2.2.2 - k1) (fun q => z ≤ q)) = Q at hret ⊢
  rw [e_Row_holdsLike] at hf
  obtain ⟨J59, eJ59, hf⟩ := b_let_inv hf
  have w59 : ∀ (y0 : Int32) (M : hM) (H : Heap) (locs : List Loc) (ls : Array Slot) (cells slots : Nat), (J59 y0).1 M = some Z → hm_I D dA hCl z k1 s M H locs cells slots → lv_has ls 2 [] → W p l e R s m args below meth c H locs cells slots Q (F0 m 59 ls [.int y0]) := by
    intro y0 M H locs ls cells slots hf hI hl
    rw [eJ59] at hf
    exact hret _ _ _ _ _ _ _ _ d_Row_holdsLike_59 hf hI
  obtain ⟨J54, eJ54, hf⟩ := b_let_inv hf
  have w54 : ∀  (M : hM) (H : Heap) (locs : List Loc) (ls : Array Slot) (cells slots : Nat), (J54).1 M = some Z → hm_I D dA hCl z k1 s M H locs cells slots → lv_has ls 2 [] → W p l e R s m args below meth c H locs cells slots Q (F0 m 54 ls []) := by
    intro M H locs ls cells slots hf hI hl
    rw [eJ54] at hf
    refine lv_iconst (v := 1) S.1 S.2.1 d_Row_holdsLike_54 (by decide) ?_
    refine lv_goto (tgt := 59) S.1 S.2.1 d_Row_holdsLike_55 (by decide) ?_
    exact w59 1 _ _ _ _ _ _ hf hI (lv_sub hl [] rfl)
  refine lv_aload_n S.1 S.2.1 d_Row_holdsLike_0 rfl (lv_at hl 0 rfl) ?_
  refine x_getL (ci := 7) (k := 4) S hK hI (fun w h => List.mem_cons_of_mem _ (i_Row w h)) rfl (by decide) (List.mem_cons_of_mem _ wd_154) rfl d_Row_holdsLike_1 hf (fun v1 hf => ?_)
  refine x_aload_n (r := p0) S d_Row_holdsLike_4 rfl (lv_at hl 1 rfl) ?_
  obtain ⟨a2, ea2, hg⟩ := b_nn_inv hf
  have hI0 := hI
  have hl0 := hl
  clear hf hI hl
  subst ea2
  have hf := hg
  have hI := hI0
  have hl := hl0
  clear hg hI0 hl0
  refine x_getL (ci := 7) (k := 4) S hK hI (fun w h => List.mem_cons_of_mem _ (i_Row w h)) rfl (by decide) (List.mem_cons_of_mem _ wd_154) rfl d_Row_holdsLike_5 hf (fun v3 hf => ?_)
  refine W.lcmp S.1 S.2.1 d_Row_holdsLike_8 ?_
  refine lv_if_ne (tgt := 24) S.1 S.2.1 d_Row_holdsLike_9 (by decide) (fun hc => ?_) (fun hc => ?_)
  · have hf := b_if_f hc hf
    refine lv_iconst (v := 0) S.1 S.2.1 d_Row_holdsLike_24 (by decide) ?_
    exact hret _ _ _ _ _ _ _ _ d_Row_holdsLike_25 hf hI
  · have hf := b_if_t hc hf
    refine lv_aload_n S.1 S.2.1 d_Row_holdsLike_12 rfl (lv_at hl 0 rfl) ?_
    refine x_getL (ci := 7) (k := 5) S hK hI (fun w h => List.mem_cons_of_mem _ (i_Row w h)) rfl (by decide) (List.mem_cons_of_mem _ wd_155) rfl d_Row_holdsLike_13 hf (fun v4 hf => ?_)
    refine lv_aload_n S.1 S.2.1 d_Row_holdsLike_16 rfl (lv_at hl 1 rfl) ?_
    refine x_getL (ci := 7) (k := 5) S hK hI (fun w h => List.mem_cons_of_mem _ (i_Row w h)) rfl (by decide) (List.mem_cons_of_mem _ wd_155) rfl d_Row_holdsLike_17 hf (fun v5 hf => ?_)
    refine W.lcmp S.1 S.2.1 d_Row_holdsLike_20 ?_
    refine lv_if_eq (tgt := 26) S.1 S.2.1 d_Row_holdsLike_21 (by decide) (fun hc => ?_) (fun hc => ?_)
    · have hf := b_if_t hc hf
      refine lv_aload_n S.1 S.2.1 d_Row_holdsLike_26 rfl (lv_at hl 0 rfl) ?_
      refine x_getR (ci := 7) (k := 3) S hK hI (fun w h => List.mem_cons_of_mem _ (i_Row w h)) rfl (by decide) (List.mem_cons_of_mem _ wd_153) rfl d_Row_holdsLike_27 hf (fun r6 hf => ?_)
      refine x_ifnull (r := r6) (tgt := 54) S d_Row_holdsLike_30 (by decide) (fun hc => ?_) (fun hc => ?_)
      · have hf := b_if_t hc hf
        exact w54  _ _ _ _ _ _ hf hI (lv_sub hl [] rfl)
      · have hf := b_if_f hc hf
        refine lv_aload_n S.1 S.2.1 d_Row_holdsLike_33 rfl (lv_at hl 1 rfl) ?_
        refine x_getR (ci := 7) (k := 3) S hK hI (fun w h => List.mem_cons_of_mem _ (i_Row w h)) rfl (by decide) (List.mem_cons_of_mem _ wd_153) rfl d_Row_holdsLike_34 hf (fun r7 hf => ?_)
        refine x_ifnull (r := r7) (tgt := 54) S d_Row_holdsLike_37 (by decide) (fun hc => ?_) (fun hc => ?_)
        · have hf := b_if_t hc hf
          exact w54  _ _ _ _ _ _ hf hI (lv_sub hl [] rfl)
        · have hf := b_if_f hc hf
          refine lv_aload_n S.1 S.2.1 d_Row_holdsLike_40 rfl (lv_at hl 0 rfl) ?_
          refine x_getR (ci := 7) (k := 3) S hK hI (fun w h => List.mem_cons_of_mem _ (i_Row w h)) rfl (by decide) (List.mem_cons_of_mem _ wd_153) rfl d_Row_holdsLike_41 hf (fun r8 hf => ?_)
          refine lv_aload_n S.1 S.2.1 d_Row_holdsLike_44 rfl (lv_at hl 1 rfl) ?_
          refine x_getR (ci := 7) (k := 3) S hK hI (fun w h => List.mem_cons_of_mem _ (i_Row w h)) rfl (by decide) (List.mem_cons_of_mem _ wd_153) rfl d_Row_holdsLike_45 hf (fun r9 hf => ?_)
          obtain ⟨a10, ea10, hg⟩ := b_nn_inv hf
          have hI0 := hI
          have hl0 := hl
          clear hf hI hl
          subst ea10
          have hf := hg
          have hI := hI0
          have hl := hl0
          clear hg hI0 hl0
          obtain ⟨⟨fs14, hefs14⟩, hf⟩ := b_is_inv hf
          obtain ⟨v11, N12, hg13, hf⟩ := b_call_inv hf
          refine x_call hI (hm_mo hg13) (va_runV (As := [va_rf r9]) (rest := []) S (c_Name_foldsLike l hg13) (cwV 1 S.2.2.2.2 (gi_V wd_393 wd_298 wd_299 wd_75 wd_300) rfl rfl rfl (by decide +kernel) ⟨Nat.le_trans (Nat.le_of_ble_eq_true rfl) hRf.1, Nat.le_trans (Nat.le_of_ble_eq_true rfl) hRf.2⟩) ⟨hm_B.blind, va_recv hK (hI.1.one hefs14) (ci := 2) (q0 := 0) rfl rfl, fun U hU hW => ⟨rfl, hm_B.of hK hG hI hU hW⟩⟩ rfl rfl hl.1 rfl (lv_room (Nat.le_of_ble_eq_true rfl)) d_Row_holdsLike_48 (hx_fit hI hR (hm_mo hg13) (hm_mo hf))) (fun H locs cells slots hI => ?_)
          refine W.eq (g2 := F0 m 51 ls [.int v11]) rfl ?_
          refine lv_if_eq (tgt := 58) S.1 S.2.1 d_Row_holdsLike_51 (by decide) (fun hc => ?_) (fun hc => ?_)
          · have hf := b_if_t hc hf
            refine lv_iconst (v := 0) S.1 S.2.1 d_Row_holdsLike_58 (by decide) ?_
            exact w59 0 _ _ _ _ _ _ hf hI (lv_sub hl [] rfl)
          · have hf := b_if_f hc hf
            exact w54  _ _ _ _ _ _ hf hI (lv_sub hl [] rfl)
    · have hf := b_if_f hc hf
      refine lv_iconst (v := 0) S.1 S.2.1 d_Row_holdsLike_24 (by decide) ?_
      exact hret _ _ _ _ _ _ _ _ d_Row_holdsLike_25 hf hI
set_option maxHeartbeats 4000000 in
set_option maxRecDepth 100000 in
theorem c_Pairing_pairFrom (l : Launch) {D : va_G} {dA : Nat → ClassId} {aK aV : Nat → Nat} {z : Nat} {N : Nat} {h0 : Nat} {p0 : Int32} {p1 : Option Nat} {p2 : Option Nat} {M : hM} {Z : Int32 × hM} (hf : (f_Pairing_pairFrom N h0 p0 p1 p2).1 M = some Z) : Met l y_Pairing_pairFrom w_Pairing_pairFrom ({ frames := 4, cells := Z.2.2.1 - M.2.1, slots := Z.2.2.2 - M.2.2, locals := 89 }) (va_Pc [.ref h0, .int p0, va_rf p1, va_rf p2] (hm_B D dA hCl (hTy dA) sT aK aV z M)) (hm_Q D dA hCl (hTy dA) sT aK aV z (some (.int Z.1)) Z.2) (Z.2.2.1 - M.2.1) (Z.2.2.2 - M.2.2) (fun q => z ≤ q) := by
  refine Met.ofW (cc := b_Pairing_pairFrom) (maxL := 5) (ret := (some .boolean)) (by decide) rfl ?_
  intro p e s m args below meth c s₁ B hml hv
  obtain ⟨hav, hB⟩ := hv
  have S : CallFix p m c b_Pairing_pairFrom 5 s args w_Pairing_pairFrom R_Pairing := ⟨B.exec, B.bytes, hml, findClass_of_methodNamed B.named, atoms_spec (ws := w_Pairing_pairFrom) B.pre⟩
  have hr : meth.sig.returnType = (some .boolean) := B.returns
  have hlocks := B.notSynchronized
  have hK := hB.2.2.1
  have hG := hB.2.2.2.2.2
  have hI := hm_I.start hB
  rw [← hB.2.1]
  generalize M.2.2 = k1 at hI ⊢
  refine W.eq (g2 := F0 m 0 ((lg_sl ([.ref h0, .int p0, va_rf p1, va_rf p2]) ++ List.replicate (5 - (lg_sl ([.ref h0, .int p0, va_rf p1, va_rf p2])).length) Slot.unset).toArray) []) (by rw [hav]; exact lg_entry_eq m ([.ref h0, .int p0, va_rf p1, va_rf p2]) 5) ?_
  have hl := lv_entry ([.ref h0, .int p0, va_rf p1, va_rf p2]) (n := 5) (by cases p1 <;> cases p2 <;> exact Nat.le_of_ble_eq_true rfl)
  generalize (lg_sl ([.ref h0, .int p0, va_rf p1, va_rf p2]) ++ List.replicate (5 - (lg_sl ([.ref h0, .int p0, va_rf p1, va_rf p2])).length) Slot.unset).toArray = ls at hl ⊢
  simp only [lvA_nil, lvA_i, lvA_l, lvA_a, lvA_r, Nat.zero_add, Nat.reduceAdd] at hl
  have hret : ∀ (v : Int32) (M : hM) (H : Heap) (locs : List Loc) (cells slots : Nat) (ls : Array Slot) (pc : Nat), decode b_Pairing_pairFrom pc = .ok (.ireturn, 1) → (b_retN .boolean v).1 M = some Z → hm_I D dA hCl z k1 s M H locs cells slots → W p l e (headSpec w_Pairing_pairFrom { frames := 4, cells := Z.2.2.1 - s.heap.size, slots := Z.2.2.2 - k1, locals := 89 }).room s m args below meth c H locs cells slots (MQ below (hm_Q D dA hCl (hTy dA) sT aK aV z (some (.int Z.1)) Z.2) args s (Z.2.2.1 - s.heap.size) (Z.2.2.2 - k1) (fun q => z ≤ q)) (F0 m pc ls [.int v]) := fun v M H locs cells slots ls pc hdg hf hI => x_retn S hK hG hI hr hlocks hdg hf
  have hR : Z.2.2.1 - s.heap.size ≤ (headSpec w_Pairing_pairFrom { frames := 4, cells := Z.2.2.1 - s.heap.size, slots := Z.2.2.2 - k1, locals := 89 }).room.cells ∧ Z.2.2.2 - k1 ≤ (headSpec w_Pairing_pairFrom { frames := 4, cells := Z.2.2.1 - s.heap.size, slots := Z.2.2.2 - k1, locals := 89 }).room.slots := ⟨Nat.le_refl _, Nat.le_refl _⟩
  have hRf : 4 ≤ (headSpec w_Pairing_pairFrom { frames := 4, cells := Z.2.2.1 - s.heap.size, slots := Z.2.2.2 - k1, locals := 89 }).room.frames ∧ 89 ≤ (headSpec w_Pairing_pairFrom { frames := 4, cells := Z.2.2.1 - s.heap.size, slots := Z.2.2.2 - k1, locals := 89 }).room.locals := ⟨Nat.le_refl _, Nat.le_refl _⟩
  generalize (headSpec w_Pairing_pairFrom { frames := 4, cells := Z.2.2.1 - s.heap.size, slots := Z.2.2.2 - k1, locals := 89 }).room = R at hret hR hRf ⊢
  generalize (MQ below (hm_Q D dA hCl (hTy dA) sT aK aV z (some (.int Z.1)) Z.2) args s (Z.2.2.1 - s.heap.size) (Z.2.2.2 - k1) (fun q => z ≤ q)) = Q at hret ⊢
  rw [e_Pairing_pairFrom] at hf
  have w3 : ∀ (n : Nat) (x4 : Int32) (M : hM) (H : Heap) (locs : List Loc) (ls : Array Slot) (cells slots : Nat), (f_Pairing_pairFrom_3 N h0 p0 p1 p2  n x4).1 M = some Z → hm_I D dA hCl z k1 s M H locs cells slots → lv_has ls 5 [(0, .ref h0), (2, va_rf p1), (3, va_rf p2), (4, .int x4)] → W p l e R s m args below meth c H locs cells slots Q (F0 m 3 ls []) := by
    intro n
    induction n with
    | zero => intro x4 M H locs ls cells slots hf hI hl; cases hf
    | succ n3 ih3 =>
      intro x4 M H locs ls cells slots hf hI hl
      rw [e_Pairing_pairFrom_3] at hf
      obtain ⟨J62, eJ62, hf⟩ := b_let_inv hf
      have w62 : ∀ (x4 : Int32) (M : hM) (H : Heap) (locs : List Loc) (ls : Array Slot) (cells slots : Nat), (J62 x4).1 M = some Z → hm_I D dA hCl z k1 s M H locs cells slots → lv_has ls 5 [(0, .ref h0), (2, va_rf p1), (3, va_rf p2), (4, .int x4)] → W p l e R s m args below meth c H locs cells slots Q (F0 m 62 ls []) := by
        intro x4 M H locs ls cells slots hf hI hl
        rw [eJ62] at hf
        refine x_iinc (v := 1) (lv2 := [(0, .ref h0), (2, va_rf p1), (3, va_rf p2)]) S d_Pairing_pairFrom_62 hl 3 rfl (by decide) (by decide) [0, 1, 2] rfl ⟨⟨(by decide : (0 : Nat) ≠ 4), fun h => absurd (show (0 : Nat) + 1 = 4 from h) (by decide)⟩, ⟨⟨(by decide : (2 : Nat) ≠ 4), fun h => absurd (show (2 : Nat) + 1 = 4 from h) (by decide)⟩, ⟨⟨(by decide : (3 : Nat) ≠ 4), fun _ => rf_cat _⟩, trivial⟩⟩⟩ (fun ls hl => ?_)
        refine lv_goto (tgt := 3) S.1 S.2.1 d_Pairing_pairFrom_65 (by decide) ?_
        exact ih3 (x4 + 1) _ _ _ _ _ _ hf hI (lv_sub hl [1, 2, 3, 0] rfl)
      refine lv_iload S.1 S.2.1 d_Pairing_pairFrom_3 (lv_at hl 3 rfl) ?_
      refine x_aload_n (r := p2) S d_Pairing_pairFrom_5 rfl (lv_at hl 2 rfl) ?_
      obtain ⟨a1, ea1, hg⟩ := b_nn_inv hf
      have hI0 := hI
      have hl0 := hl
      clear hf hI hl
      subst ea1
      have hf := hg
      have hI := hI0
      have hl := hl0
      clear hg hI0 hl0
      refine x_len (t := 1) S hK hI rfl d_Pairing_pairFrom_6 hf (fun v2 hf => ?_)
      refine lv_icmp_ge (tgt := 68) S.1 S.2.1 d_Pairing_pairFrom_7 (by decide) (fun hc => ?_) (fun hc => ?_)
      · have hf := b_if_t hc hf
        refine lv_iconst (v := 0) S.1 S.2.1 d_Pairing_pairFrom_68 (by decide) ?_
        exact hret _ _ _ _ _ _ _ _ d_Pairing_pairFrom_69 hf hI
      · have hf := b_if_f hc hf
        refine lv_iload S.1 S.2.1 d_Pairing_pairFrom_10 (lv_at hl 3 rfl) ?_
        refine lv_aload_n S.1 S.2.1 d_Pairing_pairFrom_12 rfl (lv_at hl 0 rfl) ?_
        refine x_getR (ci := 4) (k := 1) S hK hI (fun w h => List.mem_cons_of_mem _ (i_Pairing w h)) rfl (by decide) (List.mem_cons_of_mem _ wd_43) rfl d_Pairing_pairFrom_13 hf (fun r3 hf => ?_)
        obtain ⟨a4, ea4, hg⟩ := b_nn_inv hf
        have hI0 := hI
        have hl0 := hl
        clear hf hI hl
        subst ea4
        have hf := hg
        have hI := hI0
        have hl := hl0
        clear hg hI0 hl0
        refine x_len (t := 5) S hK hI rfl d_Pairing_pairFrom_16 hf (fun v5 hf => ?_)
        refine lv_icmp_ge (tgt := 68) S.1 S.2.1 d_Pairing_pairFrom_17 (by decide) (fun hc => ?_) (fun hc => ?_)
        · have hf := b_if_t hc hf
          refine lv_iconst (v := 0) S.1 S.2.1 d_Pairing_pairFrom_68 (by decide) ?_
          exact hret _ _ _ _ _ _ _ _ d_Pairing_pairFrom_69 hf hI
        · have hf := b_if_f hc hf
          refine lv_aload_n S.1 S.2.1 d_Pairing_pairFrom_20 rfl (lv_at hl 2 rfl) ?_
          refine lv_iload S.1 S.2.1 d_Pairing_pairFrom_21 (lv_at hl 3 rfl) ?_
          refine x_aald (t := 1) S hK hI rfl d_Pairing_pairFrom_23 hf (fun r6 hf => ?_)
          refine x_aload_n (r := p1) S d_Pairing_pairFrom_24 rfl (lv_at hl 1 rfl) ?_
          obtain ⟨a7, ea7, hg⟩ := b_nn_inv hf
          have hI0 := hI
          have hl0 := hl
          clear hf hI hl
          subst ea7
          have hf := hg
          have hI := hI0
          have hl := hl0
          clear hg hI0 hl0
          obtain ⟨⟨fs11, hefs11⟩, hf⟩ := b_is_inv hf
          obtain ⟨v8, N9, hg10, hf⟩ := b_call_inv hf
          refine x_call hI (hm_mo hg10) (va_runV (As := [va_rf p1]) (rest := []) S (c_Row_order l hg10) (cwV 1 S.2.2.2.2 (gi_V wd_392 wd_319 wd_320 wd_157 wd_321) rfl rfl rfl (by decide +kernel) ⟨Nat.le_trans (Nat.le_of_ble_eq_true rfl) hRf.1, Nat.le_trans (Nat.le_of_ble_eq_true rfl) hRf.2⟩) ⟨hm_B.blind, va_recv hK (hI.1.one hefs11) (ci := 7) (q0 := 0) rfl rfl, fun U hU hW => ⟨rfl, hm_B.of hK hG hI hU hW⟩⟩ rfl rfl hl.1 rfl (lv_room (Nat.le_of_ble_eq_true rfl)) d_Pairing_pairFrom_25 (hx_fit hI hR (hm_mo hg10) (hm_mo hf))) (fun H locs cells slots hI => ?_)
          refine W.eq (g2 := F0 m 28 ls [.int v8]) rfl ?_
          refine lv_if_ne (tgt := 68) S.1 S.2.1 d_Pairing_pairFrom_28 (by decide) (fun hc => ?_) (fun hc => ?_)
          · have hf := b_if_f hc hf
            refine lv_iconst (v := 0) S.1 S.2.1 d_Pairing_pairFrom_68 (by decide) ?_
            exact hret _ _ _ _ _ _ _ _ d_Pairing_pairFrom_69 hf hI
          · have hf := b_if_t hc hf
            refine lv_aload_n S.1 S.2.1 d_Pairing_pairFrom_31 rfl (lv_at hl 0 rfl) ?_
            refine x_getR (ci := 4) (k := 1) S hK hI (fun w h => List.mem_cons_of_mem _ (i_Pairing w h)) rfl (by decide) (List.mem_cons_of_mem _ wd_43) rfl d_Pairing_pairFrom_32 hf (fun r12 hf => ?_)
            refine lv_iload S.1 S.2.1 d_Pairing_pairFrom_35 (lv_at hl 3 rfl) ?_
            obtain ⟨a13, ea13, hg⟩ := b_nn_inv hf
            have hI0 := hI
            have hl0 := hl
            clear hf hI hl
            subst ea13
            have hf := hg
            have hI := hI0
            have hl := hl0
            clear hg hI0 hl0
            refine x_zald (t := 5) S hK hI rfl d_Pairing_pairFrom_37 hf (fun v14 hf => ?_)
            refine lv_if_ne (tgt := 62) S.1 S.2.1 d_Pairing_pairFrom_38 (by decide) (fun hc => ?_) (fun hc => ?_)
            · have hf := b_if_f hc hf
              exact w62 x4 _ _ _ _ _ _ hf hI (lv_sub hl [0, 1, 2, 3] rfl)
            · have hf := b_if_t hc hf
              refine lv_aload_n S.1 S.2.1 d_Pairing_pairFrom_41 rfl (lv_at hl 2 rfl) ?_
              refine lv_iload S.1 S.2.1 d_Pairing_pairFrom_42 (lv_at hl 3 rfl) ?_
              refine x_aald (t := 1) S hK hI rfl d_Pairing_pairFrom_44 hf (fun r15 hf => ?_)
              refine x_aload_n (r := p1) S d_Pairing_pairFrom_45 rfl (lv_at hl 1 rfl) ?_
              obtain ⟨a16, ea16, hg⟩ := b_nn_inv hf
              have hI0 := hI
              have hl0 := hl
              clear hf hI hl
              subst ea16
              have hf := hg
              have hI := hI0
              have hl := hl0
              clear hg hI0 hl0
              obtain ⟨⟨fs20, hefs20⟩, hf⟩ := b_is_inv hf
              obtain ⟨v17, N18, hg19, hf⟩ := b_call_inv hf
              refine x_call hI (hm_mo hg19) (va_runV (As := [va_rf p1]) (rest := []) S (c_Row_holdsLike l hg19) (cwV 1 S.2.2.2.2 (gi_V wd_394 wd_395 wd_396 wd_157 wd_397) rfl rfl rfl (by decide +kernel) ⟨Nat.le_trans (Nat.le_of_ble_eq_true rfl) hRf.1, Nat.le_trans (Nat.le_of_ble_eq_true rfl) hRf.2⟩) ⟨hm_B.blind, va_recv hK (hI.1.one hefs20) (ci := 7) (q0 := 0) rfl rfl, fun U hU hW => ⟨rfl, hm_B.of hK hG hI hU hW⟩⟩ rfl rfl hl.1 rfl (lv_room (Nat.le_of_ble_eq_true rfl)) d_Pairing_pairFrom_46 (hx_fit hI hR (hm_mo hg19) (hm_mo hf))) (fun H locs cells slots hI => ?_)
              refine W.eq (g2 := F0 m 49 ls [.int v17]) rfl ?_
              refine lv_if_eq (tgt := 62) S.1 S.2.1 d_Pairing_pairFrom_49 (by decide) (fun hc => ?_) (fun hc => ?_)
              · have hf := b_if_t hc hf
                exact w62 x4 _ _ _ _ _ _ hf hI (lv_sub hl [0, 1, 2, 3] rfl)
              · have hf := b_if_f hc hf
                refine lv_aload_n S.1 S.2.1 d_Pairing_pairFrom_52 rfl (lv_at hl 0 rfl) ?_
                refine x_getR (ci := 4) (k := 1) S hK hI (fun w h => List.mem_cons_of_mem _ (i_Pairing w h)) rfl (by decide) (List.mem_cons_of_mem _ wd_43) rfl d_Pairing_pairFrom_53 hf (fun r21 hf => ?_)
                refine lv_iload S.1 S.2.1 d_Pairing_pairFrom_56 (lv_at hl 3 rfl) ?_
                refine lv_iconst (v := 1) S.1 S.2.1 d_Pairing_pairFrom_58 (by decide) ?_
                obtain ⟨a22, ea22, hg⟩ := b_nn_inv hf
                have hI0 := hI
                have hl0 := hl
                clear hf hI hl
                subst ea22
                have hf := hg
                have hI := hI0
                have hl := hl0
                clear hg hI0 hl0
                refine x_zast (t := 5) S hK hI rfl d_Pairing_pairFrom_59 hf (fun M H locs hf hI => ?_)
                refine lv_iconst (v := 1) S.1 S.2.1 d_Pairing_pairFrom_60 (by decide) ?_
                exact hret _ _ _ _ _ _ _ _ d_Pairing_pairFrom_61 hf hI
  refine lv_iload_n S.1 S.2.1 d_Pairing_pairFrom_0 rfl (lv_at hl 1 rfl) ?_
  refine x_istore (lv2 := [(0, .ref h0), (1, .int p0), (2, va_rf p1), (3, va_rf p2)]) S d_Pairing_pairFrom_1 hl (by decide) [0, 1, 2, 3] rfl ⟨⟨(by decide : (0 : Nat) ≠ 4), fun h => absurd (show (0 : Nat) + 1 = 4 from h) (by decide)⟩, ⟨⟨(by decide : (1 : Nat) ≠ 4), fun h => absurd (show (1 : Nat) + 1 = 4 from h) (by decide)⟩, ⟨⟨(by decide : (2 : Nat) ≠ 4), fun h => absurd (show (2 : Nat) + 1 = 4 from h) (by decide)⟩, ⟨⟨(by decide : (3 : Nat) ≠ 4), fun _ => rf_cat _⟩, trivial⟩⟩⟩⟩ (fun ls hl => ?_)
  exact w3 N p0 _ _ _ _ _ _ hf hI (lv_sub hl [1, 3, 4, 0] rfl)
set_option maxHeartbeats 4000000 in
set_option maxRecDepth 100000 in
theorem c_Pairing_clear (l : Launch) {D : va_G} {dA : Nat → ClassId} {aK aV : Nat → Nat} {z : Nat} {N : Nat} {p0 : Option Nat} {M : hM} {Z : Unit × hM} (hf : (f_Pairing_clear N p0).1 M = some Z) : Met l y_Pairing_clear w_Pairing_clear ({ frames := 0, cells := Z.2.2.1 - M.2.1, slots := Z.2.2.2 - M.2.2, locals := 0 }) (va_Pc [va_rf p0] (hm_B D dA hCl (hTy dA) sT aK aV z M)) (hm_Q D dA hCl (hTy dA) sT aK aV z none Z.2) (Z.2.2.1 - M.2.1) (Z.2.2.2 - M.2.2) (fun q => z ≤ q) := by
  refine Met.ofW (cc := b_Pairing_clear) (maxL := 2) (ret := none) (by decide) rfl ?_
  intro p e s m args below meth c s₁ B hml hv
  obtain ⟨hav, hB⟩ := hv
  have S : CallFix p m c b_Pairing_clear 2 s args w_Pairing_clear R_Pairing := ⟨B.exec, B.bytes, hml, findClass_of_methodNamed B.named, atoms_spec (ws := w_Pairing_clear) B.pre⟩
  have hr : meth.sig.returnType = none := B.returns
  have hlocks := B.notSynchronized
  have hK := hB.2.2.1
  have hG := hB.2.2.2.2.2
  have hI := hm_I.start hB
  rw [← hB.2.1]
  generalize M.2.2 = k1 at hI ⊢
  refine W.eq (g2 := F0 m 0 ((lg_sl ([va_rf p0]) ++ List.replicate (2 - (lg_sl ([va_rf p0])).length) Slot.unset).toArray) []) (by rw [hav]; exact lg_entry_eq m ([va_rf p0]) 2) ?_
  have hl := lv_entry ([va_rf p0]) (n := 2) (by cases p0 <;> exact Nat.le_of_ble_eq_true rfl)
  generalize (lg_sl ([va_rf p0]) ++ List.replicate (2 - (lg_sl ([va_rf p0])).length) Slot.unset).toArray = ls at hl ⊢
  simp only [lvA_nil, lvA_i, lvA_l, lvA_a, lvA_r, Nat.zero_add, Nat.reduceAdd] at hl
  have hret : ∀ (M : hM) (H : Heap) (locs : List Loc) (cells slots : Nat) (ls : Array Slot) (pc : Nat), decode b_Pairing_clear pc = .ok (.return_, 1) → (b_ret ()).1 M = some Z → hm_I D dA hCl z k1 s M H locs cells slots → W p l e (headSpec w_Pairing_clear { frames := 0, cells := Z.2.2.1 - s.heap.size, slots := Z.2.2.2 - k1, locals := 0 }).room s m args below meth c H locs cells slots (MQ below (hm_Q D dA hCl (hTy dA) sT aK aV z none Z.2) args s (Z.2.2.1 - s.heap.size) (Z.2.2.2 - k1) (fun q => z ≤ q)) (F0 m pc ls []) := fun M H locs cells slots ls pc hdg hf hI => x_retv S hK hG hI hr hlocks hdg hf
  have hR : Z.2.2.1 - s.heap.size ≤ (headSpec w_Pairing_clear { frames := 0, cells := Z.2.2.1 - s.heap.size, slots := Z.2.2.2 - k1, locals := 0 }).room.cells ∧ Z.2.2.2 - k1 ≤ (headSpec w_Pairing_clear { frames := 0, cells := Z.2.2.1 - s.heap.size, slots := Z.2.2.2 - k1, locals := 0 }).room.slots := ⟨Nat.le_refl _, Nat.le_refl _⟩
  have hRf : 0 ≤ (headSpec w_Pairing_clear { frames := 0, cells := Z.2.2.1 - s.heap.size, slots := Z.2.2.2 - k1, locals := 0 }).room.frames ∧ 0 ≤ (headSpec w_Pairing_clear { frames := 0, cells := Z.2.2.1 - s.heap.size, slots := Z.2.2.2 - k1, locals := 0 }).room.locals := ⟨Nat.le_refl _, Nat.le_refl _⟩
  generalize (headSpec w_Pairing_clear { frames := 0, cells := Z.2.2.1 - s.heap.size, slots := Z.2.2.2 - k1, locals := 0 }).room = R at hret hR hRf ⊢
  generalize (MQ below (hm_Q D dA hCl (hTy dA) sT aK aV z none Z.2) args s (Z.2.2.1 - s.heap.size) (Z.2.2.2 - k1) (fun q => z ≤ q)) = Q at hret ⊢
  rw [e_Pairing_clear] at hf
  have w2 : ∀ (n : Nat) (x1 : Int32) (M : hM) (H : Heap) (locs : List Loc) (ls : Array Slot) (cells slots : Nat), (f_Pairing_clear_2 N p0  n x1).1 M = some Z → hm_I D dA hCl z k1 s M H locs cells slots → lv_has ls 2 [(0, va_rf p0), (1, .int x1)] → W p l e R s m args below meth c H locs cells slots Q (F0 m 2 ls []) := by
    intro n
    induction n with
    | zero => intro x1 M H locs ls cells slots hf hI hl; cases hf
    | succ n2 ih2 =>
      intro x1 M H locs ls cells slots hf hI hl
      rw [e_Pairing_clear_2] at hf
      refine lv_iload_n S.1 S.2.1 d_Pairing_clear_2 rfl (lv_at hl 1 rfl) ?_
      refine x_aload_n (r := p0) S d_Pairing_clear_3 rfl (lv_at hl 0 rfl) ?_
      obtain ⟨a1, ea1, hg⟩ := b_nn_inv hf
      have hI0 := hI
      have hl0 := hl
      clear hf hI hl
      subst ea1
      have hf := hg
      have hI := hI0
      have hl := hl0
      clear hg hI0 hl0
      refine x_len (t := 5) S hK hI rfl d_Pairing_clear_4 hf (fun v2 hf => ?_)
      refine lv_icmp_ge (tgt := 18) S.1 S.2.1 d_Pairing_clear_5 (by decide) (fun hc => ?_) (fun hc => ?_)
      · have hf := b_if_t hc hf
        exact hret _ _ _ _ _ _ _ d_Pairing_clear_18 hf hI
      · have hf := b_if_f hc hf
        refine lv_aload_n S.1 S.2.1 d_Pairing_clear_8 rfl (lv_at hl 0 rfl) ?_
        refine lv_iload_n S.1 S.2.1 d_Pairing_clear_9 rfl (lv_at hl 1 rfl) ?_
        refine lv_iconst (v := 0) S.1 S.2.1 d_Pairing_clear_10 (by decide) ?_
        refine x_zast (t := 5) S hK hI rfl d_Pairing_clear_11 hf (fun M H locs hf hI => ?_)
        refine x_iinc (v := 1) (lv2 := [(0, .ref a1)]) S d_Pairing_clear_12 hl 1 rfl (by decide) (by decide) [0] rfl ⟨⟨(by decide : (0 : Nat) ≠ 1), fun _ => rfl⟩, trivial⟩ (fun ls hl => ?_)
        refine lv_goto (tgt := 2) S.1 S.2.1 d_Pairing_clear_15 (by decide) ?_
        exact ih2 (x1 + 1) _ _ _ _ _ _ hf hI (lv_sub hl [1, 0] rfl)
  refine lv_iconst (v := 0) S.1 S.2.1 d_Pairing_clear_0 (by decide) ?_
  refine x_istore_n (lv2 := [(0, va_rf p0)]) S d_Pairing_clear_1 rfl hl (by decide) [0] rfl ⟨⟨(by decide : (0 : Nat) ≠ 1), fun _ => rf_cat _⟩, trivial⟩ (fun ls hl => ?_)
  exact w2 N 0 _ _ _ _ _ _ hf hI (lv_sub hl [1, 0] rfl)
