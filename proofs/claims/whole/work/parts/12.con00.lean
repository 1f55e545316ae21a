set_option maxHeartbeats 4000000 in
set_option maxRecDepth 100000 in
theorem c_Scan_init (l : Launch) {D : va_G} {dA : Nat → ClassId} {aK aV : Nat → Nat} {z : Nat} {N : Nat} {h0 : Nat} {M : hM} {Z : Unit × hM} (hf : (f_Scan_init N h0 ).1 M = some Z) : Met l y_Scan_init w_Scan_init ({ frames := 1, cells := Z.2.2.1 - M.2.1, slots := Z.2.2.2 - M.2.2, locals := 20 }) (va_Pc [.ref h0] (hm_B D dA hCl (hTy dA) sT aK aV z M)) (hm_Q D dA hCl (hTy dA) sT aK aV z none Z.2) (Z.2.2.1 - M.2.1) (Z.2.2.2 - M.2.2) (fun q => z ≤ q) := by
  refine Met.ofW (cc := b_Scan_init) (maxL := 1) (ret := none) (by decide) rfl ?_
  intro p e s m args below meth c s₁ B hml hv
  obtain ⟨hav, hB⟩ := hv
  have S : CallFix p m c b_Scan_init 1 s args w_Scan_init R_Scan := ⟨B.exec, B.bytes, hml, findClass_of_methodNamed B.named, atoms_spec (ws := w_Scan_init) B.pre⟩
  have hr : meth.sig.returnType = none := B.returns
  have hlocks := B.notSynchronized
  have hin : meth.name = "<init>" := (name_of_methodNamed B.named B.method).1
  have hK := hB.2.2.1
  have hG := hB.2.2.2.2.2
  have hI := hm_I.start hB
  rw [← hB.2.1]
  generalize M.2.2 = k1 at hI ⊢
  refine W.eq (g2 := F0 m 0 ((lg_sl ([.ref h0]) ++ List.replicate (1 - (lg_sl ([.ref h0])).length) Slot.unset).toArray) []) (by rw [hav]; exact lg_entry_eq m ([.ref h0]) 1) ?_
  have hl := lv_entry ([.ref h0]) (n := 1) (Nat.le_of_ble_eq_true rfl)
  generalize (lg_sl ([.ref h0]) ++ List.replicate (1 - (lg_sl ([.ref h0])).length) Slot.unset).toArray = ls at hl ⊢
  simp only [lvA_nil, lvA_i, lvA_l, lvA_a, lvA_r, Nat.zero_add, Nat.reduceAdd] at hl
  have hret : ∀ (M : hM) (H : Heap) (locs : List Loc) (cells slots : Nat) (ls : Array Slot) (pc : Nat), decode b_Scan_init pc = .ok (.return_, 1) → (b_ret ()).1 M = some Z → hm_I D dA hCl z k1 s M H locs cells slots → W p l e (headSpec w_Scan_init { frames := 1, cells := Z.2.2.1 - s.heap.size, slots := Z.2.2.2 - k1, locals := 20 }).room s m args below meth c H locs cells slots (MQ below (hm_Q D dA hCl (hTy dA) sT aK aV z none Z.2) args s (Z.2.2.1 - s.heap.size) (Z.2.2.2 - k1) (fun q => z ≤ q)) (F0 m pc ls []) := fun M H locs cells slots ls pc hdg hf hI => x_retv S hK hG hI hr hlocks hdg hf
  have hR : Z.2.2.1 - s.heap.size ≤ (headSpec w_Scan_init { frames := 1, cells := Z.2.2.1 - s.heap.size, slots := Z.2.2.2 - k1, locals := 20 }).room.cells ∧ Z.2.2.2 - k1 ≤ (headSpec w_Scan_init { frames := 1, cells := Z.2.2.1 - s.heap.size, slots := Z.2.2.2 - k1, locals := 20 }).room.slots := ⟨Nat.le_refl _, Nat.le_refl _⟩
  have hRf : 1 ≤ (headSpec w_Scan_init { frames := 1, cells := Z.2.2.1 - s.heap.size, slots := Z.2.2.2 - k1, locals := 20 }).room.frames ∧ 20 ≤ (headSpec w_Scan_init { frames := 1, cells := Z.2.2.1 - s.heap.size, slots := Z.2.2.2 - k1, locals := 20 }).room.locals := ⟨Nat.le_refl _, Nat.le_refl _⟩
  generalize (headSpec w_Scan_init { frames := 1, cells := Z.2.2.1 - s.heap.size, slots := Z.2.2.2 - k1, locals := 20 }).room = R at hret hR hRf ⊢
  generalize (MQ below (hm_Q D dA hCl (hTy dA) sT aK aV z none Z.2) args s (Z.2.2.1 - s.heap.size) (Z.2.2.2 - k1) (fun q => z ≤ q)) = Q at hret ⊢
  rw [e_Scan_init] at hf
  refine lv_aload_n S.1 S.2.1 d_Scan_init_0 rfl (lv_at hl 0 rfl) ?_
  refine W.objInit S.1 S.2.1 S.2.2.2.1 (S.2.2.2.2 _ (List.mem_cons_of_mem _ wd_10)) (S.2.2.2.2 _ (List.mem_cons_of_mem _ wd_1)) (S.2.2.2.2 _ (List.mem_cons_of_mem _ wd_2)) rfl (by rw [S.2.2.1]; exact hl.1) rfl d_Scan_init_1 (Nat.le_trans (Nat.le_of_ble_eq_true rfl) hRf.1) (Nat.le_trans (Nat.le_of_ble_eq_true rfl) hRf.2) ?_
  refine W.eq (g2 := F0 m 4 ls []) rfl ?_
  refine lv_aload_n S.1 S.2.1 d_Scan_init_4 rfl (lv_at hl 0 rfl) ?_
  refine lv_sipush (v := 2000) S.1 S.2.1 d_Scan_init_5 (by decide) ?_
  refine x_newa (t := 0) (atype := .char) S hK hI hR (List.mem_cons_of_mem _ wd_11) rfl (by decide) rfl (fun h => h) d_Scan_init_8 hf (fun q1 M H hf hI => ?_)
  refine x_put (ci := 8) (k := 0) S hK hI (fun w h => List.mem_cons_of_mem _ (i_Scan w h)) t_Scan t_Scan_ok n_Scan rfl (by decide) (List.mem_cons_of_mem _ wd_12) rfl (Or.inr ⟨rfl, hin, rfl⟩) (by rfl) rfl d_Scan_init_10 hf (fun M H locs hf hI => ?_)
  exact hret _ _ _ _ _ _ _ d_Scan_init_13 hf hI
set_option maxHeartbeats 4000000 in
set_option maxRecDepth 100000 in
theorem c_Reader_init (l : Launch) {D : va_G} {dA : Nat → ClassId} {aK aV : Nat → Nat} {z : Nat} {N : Nat} {h0 : Nat} {M : hM} {Z : Unit × hM} (hf : (f_Reader_init N h0 ).1 M = some Z) : Met l y_Reader_init w_Reader_init ({ frames := 2, cells := Z.2.2.1 - M.2.1, slots := Z.2.2.2 - M.2.2, locals := 40 }) (va_Pc [.ref h0] (hm_B D dA hCl (hTy dA) sT aK aV z M)) (hm_Q D dA hCl (hTy dA) sT aK aV z none Z.2) (Z.2.2.1 - M.2.1) (Z.2.2.2 - M.2.2) (fun q => z ≤ q) := by
  refine Met.ofW (cc := b_Reader_init) (maxL := 1) (ret := none) (by decide) rfl ?_
  intro p e s m args below meth c s₁ B hml hv
  obtain ⟨hav, hB⟩ := hv
  have S : CallFix p m c b_Reader_init 1 s args w_Reader_init R_Reader := ⟨B.exec, B.bytes, hml, findClass_of_methodNamed B.named, atoms_spec (ws := w_Reader_init) B.pre⟩
  have hr : meth.sig.returnType = none := B.returns
  have hlocks := B.notSynchronized
  have hin : meth.name = "<init>" := (name_of_methodNamed B.named B.method).1
  have hK := hB.2.2.1
  have hG := hB.2.2.2.2.2
  have hI := hm_I.start hB
  rw [← hB.2.1]
  generalize M.2.2 = k1 at hI ⊢
  refine W.eq (g2 := F0 m 0 ((lg_sl ([.ref h0]) ++ List.replicate (1 - (lg_sl ([.ref h0])).length) Slot.unset).toArray) []) (by rw [hav]; exact lg_entry_eq m ([.ref h0]) 1) ?_
  have hl := lv_entry ([.ref h0]) (n := 1) (Nat.le_of_ble_eq_true rfl)
  generalize (lg_sl ([.ref h0]) ++ List.replicate (1 - (lg_sl ([.ref h0])).length) Slot.unset).toArray = ls at hl ⊢
  simp only [lvA_nil, lvA_i, lvA_l, lvA_a, lvA_r, Nat.zero_add, Nat.reduceAdd] at hl
  have hret : ∀ (M : hM) (H : Heap) (locs : List Loc) (cells slots : Nat) (ls : Array Slot) (pc : Nat), decode b_Reader_init pc = .ok (.return_, 1) → (b_ret ()).1 M = some Z → hm_I D dA hCl z k1 s M H locs cells slots → W p l e (headSpec w_Reader_init { frames := 2, cells := Z.2.2.1 - s.heap.size, slots := Z.2.2.2 - k1, locals := 40 }).room s m args below meth c H locs cells slots (MQ below (hm_Q D dA hCl (hTy dA) sT aK aV z none Z.2) args s (Z.2.2.1 - s.heap.size) (Z.2.2.2 - k1) (fun q => z ≤ q)) (F0 m pc ls []) := fun M H locs cells slots ls pc hdg hf hI => x_retv S hK hG hI hr hlocks hdg hf
  have hR : Z.2.2.1 - s.heap.size ≤ (headSpec w_Reader_init { frames := 2, cells := Z.2.2.1 - s.heap.size, slots := Z.2.2.2 - k1, locals := 40 }).room.cells ∧ Z.2.2.2 - k1 ≤ (headSpec w_Reader_init { frames := 2, cells := Z.2.2.1 - s.heap.size, slots := Z.2.2.2 - k1, locals := 40 }).room.slots := ⟨Nat.le_refl _, Nat.le_refl _⟩
  have hRf : 2 ≤ (headSpec w_Reader_init { frames := 2, cells := Z.2.2.1 - s.heap.size, slots := Z.2.2.2 - k1, locals := 40 }).room.frames ∧ 40 ≤ (headSpec w_Reader_init { frames := 2, cells := Z.2.2.1 - s.heap.size, slots := Z.2.2.2 - k1, locals := 40 }).room.locals := ⟨Nat.le_refl _, Nat.le_refl _⟩
  generalize (headSpec w_Reader_init { frames := 2, cells := Z.2.2.1 - s.heap.size, slots := Z.2.2.2 - k1, locals := 40 }).room = R at hret hR hRf ⊢
  generalize (MQ below (hm_Q D dA hCl (hTy dA) sT aK aV z none Z.2) args s (Z.2.2.1 - s.heap.size) (Z.2.2.2 - k1) (fun q => z ≤ q)) = Q at hret ⊢
  rw [e_Reader_init] at hf
  refine lv_aload_n S.1 S.2.1 d_Reader_init_0 rfl (lv_at hl 0 rfl) ?_
  refine W.objInit S.1 S.2.1 S.2.2.2.1 (S.2.2.2.2 _ (List.mem_cons_of_mem _ wd_6)) (S.2.2.2.2 _ (List.mem_cons_of_mem _ wd_1)) (S.2.2.2.2 _ (List.mem_cons_of_mem _ wd_2)) rfl (by rw [S.2.2.1]; exact hl.1) rfl d_Reader_init_1 (Nat.le_trans (Nat.le_of_ble_eq_true rfl) hRf.1) (Nat.le_trans (Nat.le_of_ble_eq_true rfl) hRf.2) ?_
  refine W.eq (g2 := F0 m 4 ls []) rfl ?_
  refine lv_aload_n S.1 S.2.1 d_Reader_init_4 rfl (lv_at hl 0 rfl) ?_
  refine x_new (ci := 8) S hK hI hR (fun w h => List.mem_cons_of_mem _ (i_Scan w h)) t_Scan t_Scan_ok rfl (List.mem_cons_of_mem _ wd_7) (List.mem_cons_of_mem _ wd_8) (List.mem_cons_of_mem _ wd_9) s_Scan d_Reader_init_5 hf (fun q1 M H hf hI => ?_)
  refine lv_dup S.1 S.2.1 d_Reader_init_8 rfl ?_
  obtain ⟨r2, N3, hg4, hf⟩ := b_call_inv hf
  refine x_call hI (hm_mo hg4) (va_runIN (As := []) (rest := [.ref q1, .ref h0]) S (c_Scan_init l hg4) ⟨va_cnB 0 S.2.2.2.2 (gi_I wd_13) rfl rfl rfl (hG.2.2.2.2 _ (List.mem_of_getElem? (i := 0) rfl)) (S.2.2.2.2 _ (List.mem_cons_of_mem _ wd_9)) (by decide +kernel) ⟨Nat.le_trans (Nat.le_of_ble_eq_true rfl) hRf.1, Nat.le_trans (Nat.le_of_ble_eq_true rfl) hRf.2⟩, rfl, S.2.2.2.2 _ (List.mem_cons_of_mem _ wd_14)⟩ ⟨hm_B.blind, fun U hU hW => ⟨rfl, hm_B.of hK hG hI hU hW⟩⟩ rfl rfl hl.1 rfl (lv_room (Nat.le_of_ble_eq_true rfl)) d_Reader_init_9 (hx_fit hI hR (hm_mo hg4) (hm_mo hf))) (fun H locs cells slots hI => ?_)
  refine W.eq (g2 := F0 m 12 ls [.ref q1, .ref h0]) rfl ?_
  refine x_put (ci := 6) (k := 0) S hK hI (fun w h => List.mem_cons_of_mem _ (i_Reader w h)) t_Reader t_Reader_ok n_Reader rfl (by decide) (List.mem_cons_of_mem _ wd_15) rfl (Or.inr ⟨rfl, hin, rfl⟩) (by rfl) rfl d_Reader_init_12 hf (fun M H locs hf hI => ?_)
  refine lv_aload_n S.1 S.2.1 d_Reader_init_15 rfl (lv_at hl 0 rfl) ?_
  refine lv_sipush (v := 200) S.1 S.2.1 d_Reader_init_16 (by decide) ?_
  refine x_newq (t := 1) S hK hI hR (List.mem_cons_of_mem _ wd_16) (hG.2.2.2.1 _ (List.mem_of_getElem? (i := 0) rfl)) rfl d_Reader_init_19 hf (fun q5 M H hf hI => ?_)
  refine x_put (ci := 6) (k := 1) S hK hI (fun w h => List.mem_cons_of_mem _ (i_Reader w h)) t_Reader t_Reader_ok n_Reader rfl (by decide) (List.mem_cons_of_mem _ wd_17) rfl (Or.inr ⟨rfl, hin, rfl⟩) (by rfl) rfl d_Reader_init_22 hf (fun M H locs hf hI => ?_)
  refine lv_aload_n S.1 S.2.1 d_Reader_init_25 rfl (lv_at hl 0 rfl) ?_
  refine lv_sipush (v := 200) S.1 S.2.1 d_Reader_init_26 (by decide) ?_
  refine x_newa (t := 2) (atype := .int) S hK hI hR (List.mem_cons_of_mem _ wd_18) rfl (by decide) rfl (fun h => h) d_Reader_init_29 hf (fun q6 M H hf hI => ?_)
  refine x_put (ci := 6) (k := 2) S hK hI (fun w h => List.mem_cons_of_mem _ (i_Reader w h)) t_Reader t_Reader_ok n_Reader rfl (by decide) (List.mem_cons_of_mem _ wd_19) rfl (Or.inr ⟨rfl, hin, rfl⟩) (by rfl) rfl d_Reader_init_31 hf (fun M H locs hf hI => ?_)
  refine lv_aload_n S.1 S.2.1 d_Reader_init_34 rfl (lv_at hl 0 rfl) ?_
  refine lv_sipush (v := 181) S.1 S.2.1 d_Reader_init_35 (by decide) ?_
  refine x_newq (t := 3) S hK hI hR (List.mem_cons_of_mem _ wd_20) (hG.2.2.2.1 _ (List.mem_of_getElem? (i := 1) rfl)) rfl d_Reader_init_38 hf (fun q7 M H hf hI => ?_)
  refine x_put (ci := 6) (k := 4) S hK hI (fun w h => List.mem_cons_of_mem _ (i_Reader w h)) t_Reader t_Reader_ok n_Reader rfl (by decide) (List.mem_cons_of_mem _ wd_21) rfl (Or.inr ⟨rfl, hin, rfl⟩) (by rfl) rfl d_Reader_init_41 hf (fun M H locs hf hI => ?_)
  exact hret _ _ _ _ _ _ _ d_Reader_init_44 hf hI
set_option maxHeartbeats 4000000 in
set_option maxRecDepth 100000 in
theorem c_Printer_init (l : Launch) {D : va_G} {dA : Nat → ClassId} {aK aV : Nat → Nat} {z : Nat} {N : Nat} {h0 : Nat} {M : hM} {Z : Unit × hM} (hf : (f_Printer_init N h0 ).1 M = some Z) : Met l y_Printer_init w_Printer_init ({ frames := 1, cells := Z.2.2.1 - M.2.1, slots := Z.2.2.2 - M.2.2, locals := 20 }) (va_Pc [.ref h0] (hm_B D dA hCl (hTy dA) sT aK aV z M)) (hm_Q D dA hCl (hTy dA) sT aK aV z none Z.2) (Z.2.2.1 - M.2.1) (Z.2.2.2 - M.2.2) (fun q => z ≤ q) := by
  refine Met.ofW (cc := b_Printer_init) (maxL := 1) (ret := none) (by decide) rfl ?_
  intro p e s m args below meth c s₁ B hml hv
  obtain ⟨hav, hB⟩ := hv
  have S : CallFix p m c b_Printer_init 1 s args w_Printer_init R_Printer := ⟨B.exec, B.bytes, hml, findClass_of_methodNamed B.named, atoms_spec (ws := w_Printer_init) B.pre⟩
  have hr : meth.sig.returnType = none := B.returns
  have hlocks := B.notSynchronized
  have hin : meth.name = "<init>" := (name_of_methodNamed B.named B.method).1
  have hK := hB.2.2.1
  have hG := hB.2.2.2.2.2
  have hI := hm_I.start hB
  rw [← hB.2.1]
  generalize M.2.2 = k1 at hI ⊢
  refine W.eq (g2 := F0 m 0 ((lg_sl ([.ref h0]) ++ List.replicate (1 - (lg_sl ([.ref h0])).length) Slot.unset).toArray) []) (by rw [hav]; exact lg_entry_eq m ([.ref h0]) 1) ?_
  have hl := lv_entry ([.ref h0]) (n := 1) (Nat.le_of_ble_eq_true rfl)
  generalize (lg_sl ([.ref h0]) ++ List.replicate (1 - (lg_sl ([.ref h0])).length) Slot.unset).toArray = ls at hl ⊢
  simp only [lvA_nil, lvA_i, lvA_l, lvA_a, lvA_r, Nat.zero_add, Nat.reduceAdd] at hl
  have hret : ∀ (M : hM) (H : Heap) (locs : List Loc) (cells slots : Nat) (ls : Array Slot) (pc : Nat), decode b_Printer_init pc = .ok (.return_, 1) → (b_ret ()).1 M = some Z → hm_I D dA hCl z k1 s M H locs cells slots → W p l e (headSpec w_Printer_init { frames := 1, cells := Z.2.2.1 - s.heap.size, slots := Z.2.2.2 - k1, locals := 20 }).room s m args below meth c H locs cells slots (MQ below (hm_Q D dA hCl (hTy dA) sT aK aV z none Z.2) args s (Z.2.2.1 - s.heap.size) (Z.2.2.2 - k1) (fun q => z ≤ q)) (F0 m pc ls []) := fun M H locs cells slots ls pc hdg hf hI => x_retv S hK hG hI hr hlocks hdg hf
  have hR : Z.2.2.1 - s.heap.size ≤ (headSpec w_Printer_init { frames := 1, cells := Z.2.2.1 - s.heap.size, slots := Z.2.2.2 - k1, locals := 20 }).room.cells ∧ Z.2.2.2 - k1 ≤ (headSpec w_Printer_init { frames := 1, cells := Z.2.2.1 - s.heap.size, slots := Z.2.2.2 - k1, locals := 20 }).room.slots := ⟨Nat.le_refl _, Nat.le_refl _⟩
  have hRf : 1 ≤ (headSpec w_Printer_init { frames := 1, cells := Z.2.2.1 - s.heap.size, slots := Z.2.2.2 - k1, locals := 20 }).room.frames ∧ 20 ≤ (headSpec w_Printer_init { frames := 1, cells := Z.2.2.1 - s.heap.size, slots := Z.2.2.2 - k1, locals := 20 }).room.locals := ⟨Nat.le_refl _, Nat.le_refl _⟩
  generalize (headSpec w_Printer_init { frames := 1, cells := Z.2.2.1 - s.heap.size, slots := Z.2.2.2 - k1, locals := 20 }).room = R at hret hR hRf ⊢
  generalize (MQ below (hm_Q D dA hCl (hTy dA) sT aK aV z none Z.2) args s (Z.2.2.1 - s.heap.size) (Z.2.2.2 - k1) (fun q => z ≤ q)) = Q at hret ⊢
  rw [e_Printer_init] at hf
  refine lv_aload_n S.1 S.2.1 d_Printer_init_0 rfl (lv_at hl 0 rfl) ?_
  refine W.objInit S.1 S.2.1 S.2.2.2.1 (S.2.2.2.2 _ (List.mem_cons_of_mem _ wd_32)) (S.2.2.2.2 _ (List.mem_cons_of_mem _ wd_1)) (S.2.2.2.2 _ (List.mem_cons_of_mem _ wd_2)) rfl (by rw [S.2.2.1]; exact hl.1) rfl d_Printer_init_1 (Nat.le_trans (Nat.le_of_ble_eq_true rfl) hRf.1) (Nat.le_trans (Nat.le_of_ble_eq_true rfl) hRf.2) ?_
  refine W.eq (g2 := F0 m 4 ls []) rfl ?_
  refine lv_aload_n S.1 S.2.1 d_Printer_init_4 rfl (lv_at hl 0 rfl) ?_
  refine lv_sipush (v := 4181) S.1 S.2.1 d_Printer_init_5 (by decide) ?_
  refine x_newa (t := 0) (atype := .char) S hK hI hR (List.mem_cons_of_mem _ wd_11) rfl (by decide) rfl (fun h => h) d_Printer_init_8 hf (fun q1 M H hf hI => ?_)
  refine x_put (ci := 5) (k := 0) S hK hI (fun w h => List.mem_cons_of_mem _ (i_Printer w h)) t_Printer t_Printer_ok n_Printer rfl (by decide) (List.mem_cons_of_mem _ wd_33) rfl (Or.inr ⟨rfl, hin, rfl⟩) (by rfl) rfl d_Printer_init_10 hf (fun M H locs hf hI => ?_)
  exact hret _ _ _ _ _ _ _ d_Printer_init_13 hf hI
set_option maxHeartbeats 4000000 in
set_option maxRecDepth 100000 in
theorem c_Pairing_init (l : Launch) {D : va_G} {dA : Nat → ClassId} {aK aV : Nat → Nat} {z : Nat} {N : Nat} {h0 : Nat} {M : hM} {Z : Unit × hM} (hf : (f_Pairing_init N h0 ).1 M = some Z) : Met l y_Pairing_init w_Pairing_init ({ frames := 1, cells := Z.2.2.1 - M.2.1, slots := Z.2.2.2 - M.2.2, locals := 20 }) (va_Pc [.ref h0] (hm_B D dA hCl (hTy dA) sT aK aV z M)) (hm_Q D dA hCl (hTy dA) sT aK aV z none Z.2) (Z.2.2.1 - M.2.1) (Z.2.2.2 - M.2.2) (fun q => z ≤ q) := by
  refine Met.ofW (cc := b_Pairing_init) (maxL := 1) (ret := none) (by decide) rfl ?_
  intro p e s m args below meth c s₁ B hml hv
  obtain ⟨hav, hB⟩ := hv
  have S : CallFix p m c b_Pairing_init 1 s args w_Pairing_init R_Pairing := ⟨B.exec, B.bytes, hml, findClass_of_methodNamed B.named, atoms_spec (ws := w_Pairing_init) B.pre⟩
  have hr : meth.sig.returnType = none := B.returns
  have hlocks := B.notSynchronized
  have hin : meth.name = "<init>" := (name_of_methodNamed B.named B.method).1
  have hK := hB.2.2.1
  have hG := hB.2.2.2.2.2
  have hI := hm_I.start hB
  rw [← hB.2.1]
  generalize M.2.2 = k1 at hI ⊢
  refine W.eq (g2 := F0 m 0 ((lg_sl ([.ref h0]) ++ List.replicate (1 - (lg_sl ([.ref h0])).length) Slot.unset).toArray) []) (by rw [hav]; exact lg_entry_eq m ([.ref h0]) 1) ?_
  have hl := lv_entry ([.ref h0]) (n := 1) (Nat.le_of_ble_eq_true rfl)
  generalize (lg_sl ([.ref h0]) ++ List.replicate (1 - (lg_sl ([.ref h0])).length) Slot.unset).toArray = ls at hl ⊢
  simp only [lvA_nil, lvA_i, lvA_l, lvA_a, lvA_r, Nat.zero_add, Nat.reduceAdd] at hl
  have hret : ∀ (M : hM) (H : Heap) (locs : List Loc) (cells slots : Nat) (ls : Array Slot) (pc : Nat), decode b_Pairing_init pc = .ok (.return_, 1) → (b_ret ()).1 M = some Z → hm_I D dA hCl z k1 s M H locs cells slots → W p l e (headSpec w_Pairing_init { frames := 1, cells := Z.2.2.1 - s.heap.size, slots := Z.2.2.2 - k1, locals := 20 }).room s m args below meth c H locs cells slots (MQ below (hm_Q D dA hCl (hTy dA) sT aK aV z none Z.2) args s (Z.2.2.1 - s.heap.size) (Z.2.2.2 - k1) (fun q => z ≤ q)) (F0 m pc ls []) := fun M H locs cells slots ls pc hdg hf hI => x_retv S hK hG hI hr hlocks hdg hf
  have hR : Z.2.2.1 - s.heap.size ≤ (headSpec w_Pairing_init { frames := 1, cells := Z.2.2.1 - s.heap.size, slots := Z.2.2.2 - k1, locals := 20 }).room.cells ∧ Z.2.2.2 - k1 ≤ (headSpec w_Pairing_init { frames := 1, cells := Z.2.2.1 - s.heap.size, slots := Z.2.2.2 - k1, locals := 20 }).room.slots := ⟨Nat.le_refl _, Nat.le_refl _⟩
  have hRf : 1 ≤ (headSpec w_Pairing_init { frames := 1, cells := Z.2.2.1 - s.heap.size, slots := Z.2.2.2 - k1, locals := 20 }).room.frames ∧ 20 ≤ (headSpec w_Pairing_init { frames := 1, cells := Z.2.2.1 - s.heap.size, slots := Z.2.2.2 - k1, locals := 20 }).room.locals := ⟨Nat.le_refl _, Nat.le_refl _⟩
  generalize (headSpec w_Pairing_init { frames := 1, cells := Z.2.2.1 - s.heap.size, slots := Z.2.2.2 - k1, locals := 20 }).room = R at hret hR hRf ⊢
  generalize (MQ below (hm_Q D dA hCl (hTy dA) sT aK aV z none Z.2) args s (Z.2.2.1 - s.heap.size) (Z.2.2.2 - k1) (fun q => z ≤ q)) = Q at hret ⊢
  rw [e_Pairing_init] at hf
  refine lv_aload_n S.1 S.2.1 d_Pairing_init_0 rfl (lv_at hl 0 rfl) ?_
  refine W.objInit S.1 S.2.1 S.2.2.2.1 (S.2.2.2.2 _ (List.mem_cons_of_mem _ wd_40)) (S.2.2.2.2 _ (List.mem_cons_of_mem _ wd_1)) (S.2.2.2.2 _ (List.mem_cons_of_mem _ wd_2)) rfl (by rw [S.2.2.1]; exact hl.1) rfl d_Pairing_init_1 (Nat.le_trans (Nat.le_of_ble_eq_true rfl) hRf.1) (Nat.le_trans (Nat.le_of_ble_eq_true rfl) hRf.2) ?_
  refine W.eq (g2 := F0 m 4 ls []) rfl ?_
  refine lv_aload_n S.1 S.2.1 d_Pairing_init_4 rfl (lv_at hl 0 rfl) ?_
  refine lv_sipush (v := 200) S.1 S.2.1 d_Pairing_init_5 (by decide) ?_
  refine x_newa (t := 5) (atype := .boolean) S hK hI hR (List.mem_cons_of_mem _ wd_41) rfl (by decide) rfl (fun h => h) d_Pairing_init_8 hf (fun q1 M H hf hI => ?_)
  refine x_put (ci := 4) (k := 0) S hK hI (fun w h => List.mem_cons_of_mem _ (i_Pairing w h)) t_Pairing t_Pairing_ok n_Pairing rfl (by decide) (List.mem_cons_of_mem _ wd_42) rfl (Or.inr ⟨rfl, hin, rfl⟩) (by rfl) rfl d_Pairing_init_10 hf (fun M H locs hf hI => ?_)
  refine lv_aload_n S.1 S.2.1 d_Pairing_init_13 rfl (lv_at hl 0 rfl) ?_
  refine lv_sipush (v := 200) S.1 S.2.1 d_Pairing_init_14 (by decide) ?_
  refine x_newa (t := 5) (atype := .boolean) S hK hI hR (List.mem_cons_of_mem _ wd_41) rfl (by decide) rfl (fun h => h) d_Pairing_init_17 hf (fun q2 M H hf hI => ?_)
  refine x_put (ci := 4) (k := 1) S hK hI (fun w h => List.mem_cons_of_mem _ (i_Pairing w h)) t_Pairing t_Pairing_ok n_Pairing rfl (by decide) (List.mem_cons_of_mem _ wd_43) rfl (Or.inr ⟨rfl, hin, rfl⟩) (by rfl) rfl d_Pairing_init_19 hf (fun M H locs hf hI => ?_)
  exact hret _ _ _ _ _ _ _ d_Pairing_init_22 hf hI
set_option maxHeartbeats 4000000 in
set_option maxRecDepth 100000 in
theorem c_PR_init (l : Launch) {D : va_G} {dA : Nat → ClassId} {aK aV : Nat → Nat} {z : Nat} {N : Nat} {h0 : Nat} {M : hM} {Z : Unit × hM} (hf : (f_PR_init N h0 ).1 M = some Z) : Met l y_PR_init w_PR_init ({ frames := 3, cells := Z.2.2.1 - M.2.1, slots := Z.2.2.2 - M.2.2, locals := 60 }) (va_Pc [.ref h0] (hm_B D dA hCl (hTy dA) sT aK aV z M)) (hm_Q D dA hCl (hTy dA) sT aK aV z none Z.2) (Z.2.2.1 - M.2.1) (Z.2.2.2 - M.2.2) (fun q => z ≤ q) := by
  refine Met.ofW (cc := b_PR_init) (maxL := 1) (ret := none) (by decide) rfl ?_
  intro p e s m args below meth c s₁ B hml hv
  obtain ⟨hav, hB⟩ := hv
  have S : CallFix p m c b_PR_init 1 s args w_PR_init R_PR := ⟨B.exec, B.bytes, hml, findClass_of_methodNamed B.named, atoms_spec (ws := w_PR_init) B.pre⟩
  have hr : meth.sig.returnType = none := B.returns
  have hlocks := B.notSynchronized
  have hin : meth.name = "<init>" := (name_of_methodNamed B.named B.method).1
  have hK := hB.2.2.1
  have hG := hB.2.2.2.2.2
  have hI := hm_I.start hB
  rw [← hB.2.1]
  generalize M.2.2 = k1 at hI ⊢
  refine W.eq (g2 := F0 m 0 ((lg_sl ([.ref h0]) ++ List.replicate (1 - (lg_sl ([.ref h0])).length) Slot.unset).toArray) []) (by rw [hav]; exact lg_entry_eq m ([.ref h0]) 1) ?_
  have hl := lv_entry ([.ref h0]) (n := 1) (Nat.le_of_ble_eq_true rfl)
  generalize (lg_sl ([.ref h0]) ++ List.replicate (1 - (lg_sl ([.ref h0])).length) Slot.unset).toArray = ls at hl ⊢
  simp only [lvA_nil, lvA_i, lvA_l, lvA_a, lvA_r, Nat.zero_add, Nat.reduceAdd] at hl
  have hret : ∀ (M : hM) (H : Heap) (locs : List Loc) (cells slots : Nat) (ls : Array Slot) (pc : Nat), decode b_PR_init pc = .ok (.return_, 1) → (b_ret ()).1 M = some Z → hm_I D dA hCl z k1 s M H locs cells slots → W p l e (headSpec w_PR_init { frames := 3, cells := Z.2.2.1 - s.heap.size, slots := Z.2.2.2 - k1, locals := 60 }).room s m args below meth c H locs cells slots (MQ below (hm_Q D dA hCl (hTy dA) sT aK aV z none Z.2) args s (Z.2.2.1 - s.heap.size) (Z.2.2.2 - k1) (fun q => z ≤ q)) (F0 m pc ls []) := fun M H locs cells slots ls pc hdg hf hI => x_retv S hK hG hI hr hlocks hdg hf
  have hR : Z.2.2.1 - s.heap.size ≤ (headSpec w_PR_init { frames := 3, cells := Z.2.2.1 - s.heap.size, slots := Z.2.2.2 - k1, locals := 60 }).room.cells ∧ Z.2.2.2 - k1 ≤ (headSpec w_PR_init { frames := 3, cells := Z.2.2.1 - s.heap.size, slots := Z.2.2.2 - k1, locals := 60 }).room.slots := ⟨Nat.le_refl _, Nat.le_refl _⟩
  have hRf : 3 ≤ (headSpec w_PR_init { frames := 3, cells := Z.2.2.1 - s.heap.size, slots := Z.2.2.2 - k1, locals := 60 }).room.frames ∧ 60 ≤ (headSpec w_PR_init { frames := 3, cells := Z.2.2.1 - s.heap.size, slots := Z.2.2.2 - k1, locals := 60 }).room.locals := ⟨Nat.le_refl _, Nat.le_refl _⟩
  generalize (headSpec w_PR_init { frames := 3, cells := Z.2.2.1 - s.heap.size, slots := Z.2.2.2 - k1, locals := 60 }).room = R at hret hR hRf ⊢
  generalize (MQ below (hm_Q D dA hCl (hTy dA) sT aK aV z none Z.2) args s (Z.2.2.1 - s.heap.size) (Z.2.2.2 - k1) (fun q => z ≤ q)) = Q at hret ⊢
  rw [e_PR_init] at hf
  refine lv_aload_n S.1 S.2.1 d_PR_init_0 rfl (lv_at hl 0 rfl) ?_
  refine W.objInit S.1 S.2.1 S.2.2.2.1 (S.2.2.2.2 _ (List.mem_cons_of_mem _ wd_0)) (S.2.2.2.2 _ (List.mem_cons_of_mem _ wd_1)) (S.2.2.2.2 _ (List.mem_cons_of_mem _ wd_2)) rfl (by rw [S.2.2.1]; exact hl.1) rfl d_PR_init_1 (Nat.le_trans (Nat.le_of_ble_eq_true rfl) hRf.1) (Nat.le_trans (Nat.le_of_ble_eq_true rfl) hRf.2) ?_
  refine W.eq (g2 := F0 m 4 ls []) rfl ?_
  refine lv_aload_n S.1 S.2.1 d_PR_init_4 rfl (lv_at hl 0 rfl) ?_
  refine x_new (ci := 6) S hK hI hR (fun w h => List.mem_cons_of_mem _ (i_Reader w h)) t_Reader t_Reader_ok rfl (List.mem_cons_of_mem _ wd_3) (List.mem_cons_of_mem _ wd_4) (List.mem_cons_of_mem _ wd_5) s_Reader d_PR_init_5 hf (fun q1 M H hf hI => ?_)
  refine lv_dup S.1 S.2.1 d_PR_init_8 rfl ?_
  obtain ⟨r2, N3, hg4, hf⟩ := b_call_inv hf
  refine x_call hI (hm_mo hg4) (va_runIN (As := []) (rest := [.ref q1, .ref h0]) S (c_Reader_init l hg4) ⟨va_cnB 0 S.2.2.2.2 (gi_I wd_22) rfl rfl rfl (hG.2.2.2.2 _ (List.mem_of_getElem? (i := 1) rfl)) (S.2.2.2.2 _ (List.mem_cons_of_mem _ wd_5)) (by decide +kernel) ⟨Nat.le_trans (Nat.le_of_ble_eq_true rfl) hRf.1, Nat.le_trans (Nat.le_of_ble_eq_true rfl) hRf.2⟩, rfl, S.2.2.2.2 _ (List.mem_cons_of_mem _ wd_23)⟩ ⟨hm_B.blind, fun U hU hW => ⟨rfl, hm_B.of hK hG hI hU hW⟩⟩ rfl rfl hl.1 rfl (lv_room (Nat.le_of_ble_eq_true rfl)) d_PR_init_9 (hx_fit hI hR (hm_mo hg4) (hm_mo hf))) (fun H locs cells slots hI => ?_)
  refine W.eq (g2 := F0 m 12 ls [.ref q1, .ref h0]) rfl ?_
  refine x_put (ci := 0) (k := 0) S hK hI (fun w h => List.mem_cons_of_mem _ (i_PR w h)) t_PR t_PR_ok n_PR rfl (by decide) (List.mem_cons_of_mem _ wd_24) rfl (Or.inr ⟨rfl, hin, rfl⟩) (by rfl) rfl d_PR_init_12 hf (fun M H locs hf hI => ?_)
  refine lv_aload_n S.1 S.2.1 d_PR_init_15 rfl (lv_at hl 0 rfl) ?_
  refine lv_aload_n S.1 S.2.1 d_PR_init_16 rfl (lv_at hl 0 rfl) ?_
  refine x_getR (ci := 0) (k := 0) S hK hI (fun w h => List.mem_cons_of_mem _ (i_PR w h)) rfl (by decide) (List.mem_cons_of_mem _ wd_24) rfl d_PR_init_17 hf (fun r5 hf => ?_)
  obtain ⟨a6, ea6, hg⟩ := b_nn_inv hf
  have hI0 := hI
  have hl0 := hl
  clear hf hI hl
  subst ea6
  have hf := hg
  have hI := hI0
  have hl := hl0
  clear hg hI0 hl0
  refine x_getR (ci := 6) (k := 0) S hK hI (fun w h => List.mem_cons_of_mem _ (i_Reader w h)) rfl (by decide) (List.mem_cons_of_mem _ wd_25) rfl d_PR_init_20 hf (fun r7 hf => ?_)
  refine x_put (ci := 0) (k := 1) S hK hI (fun w h => List.mem_cons_of_mem _ (i_PR w h)) t_PR t_PR_ok n_PR rfl (by decide) (List.mem_cons_of_mem _ wd_26) rfl (Or.inr ⟨rfl, hin, rfl⟩) (by rfl) (rf_fit _ _) d_PR_init_23 hf (fun M H locs hf hI => ?_)
  refine lv_aload_n S.1 S.2.1 d_PR_init_26 rfl (lv_at hl 0 rfl) ?_
  refine lv_bipush (v := 40) S.1 S.2.1 d_PR_init_27 (by decide) ?_
  refine x_newq (t := 4) S hK hI hR (List.mem_cons_of_mem _ wd_27) (hG.2.2.2.1 _ (List.mem_of_getElem? (i := 2) rfl)) rfl d_PR_init_29 hf (fun q8 M H hf hI => ?_)
  refine x_put (ci := 0) (k := 2) S hK hI (fun w h => List.mem_cons_of_mem _ (i_PR w h)) t_PR t_PR_ok n_PR rfl (by decide) (List.mem_cons_of_mem _ wd_28) rfl (Or.inr ⟨rfl, hin, rfl⟩) (by rfl) rfl d_PR_init_32 hf (fun M H locs hf hI => ?_)
  refine lv_aload_n S.1 S.2.1 d_PR_init_35 rfl (lv_at hl 0 rfl) ?_
  refine x_new (ci := 5) S hK hI hR (fun w h => List.mem_cons_of_mem _ (i_Printer w h)) t_Printer t_Printer_ok rfl (List.mem_cons_of_mem _ wd_29) (List.mem_cons_of_mem _ wd_30) (List.mem_cons_of_mem _ wd_31) s_Printer d_PR_init_36 hf (fun q9 M H hf hI => ?_)
  refine lv_dup S.1 S.2.1 d_PR_init_39 rfl ?_
  obtain ⟨r10, N11, hg12, hf⟩ := b_call_inv hf
  refine x_call hI (hm_mo hg12) (va_runIN (As := []) (rest := [.ref q9, .ref h0]) S (c_Printer_init l hg12) ⟨va_cnB 0 S.2.2.2.2 (gi_I wd_34) rfl rfl rfl (hG.2.2.2.2 _ (List.mem_of_getElem? (i := 2) rfl)) (S.2.2.2.2 _ (List.mem_cons_of_mem _ wd_31)) (by decide +kernel) ⟨Nat.le_trans (Nat.le_of_ble_eq_true rfl) hRf.1, Nat.le_trans (Nat.le_of_ble_eq_true rfl) hRf.2⟩, rfl, S.2.2.2.2 _ (List.mem_cons_of_mem _ wd_35)⟩ ⟨hm_B.blind, fun U hU hW => ⟨rfl, hm_B.of hK hG hI hU hW⟩⟩ rfl rfl hl.1 rfl (lv_room (Nat.le_of_ble_eq_true rfl)) d_PR_init_40 (hx_fit hI hR (hm_mo hg12) (hm_mo hf))) (fun H locs cells slots hI => ?_)
  refine W.eq (g2 := F0 m 43 ls [.ref q9, .ref h0]) rfl ?_
  refine x_put (ci := 0) (k := 4) S hK hI (fun w h => List.mem_cons_of_mem _ (i_PR w h)) t_PR t_PR_ok n_PR rfl (by decide) (List.mem_cons_of_mem _ wd_36) rfl (Or.inr ⟨rfl, hin, rfl⟩) (by rfl) rfl d_PR_init_43 hf (fun M H locs hf hI => ?_)
  refine lv_aload_n S.1 S.2.1 d_PR_init_46 rfl (lv_at hl 0 rfl) ?_
  refine x_new (ci := 4) S hK hI hR (fun w h => List.mem_cons_of_mem _ (i_Pairing w h)) t_Pairing t_Pairing_ok rfl (List.mem_cons_of_mem _ wd_37) (List.mem_cons_of_mem _ wd_38) (List.mem_cons_of_mem _ wd_39) s_Pairing d_PR_init_47 hf (fun q13 M H hf hI => ?_)
  refine lv_dup S.1 S.2.1 d_PR_init_50 rfl ?_
  obtain ⟨r14, N15, hg16, hf⟩ := b_call_inv hf
  refine x_call hI (hm_mo hg16) (va_runIN (As := []) (rest := [.ref q13, .ref h0]) S (c_Pairing_init l hg16) ⟨va_cnB 0 S.2.2.2.2 (gi_I wd_44) rfl rfl rfl (hG.2.2.2.2 _ (List.mem_of_getElem? (i := 3) rfl)) (S.2.2.2.2 _ (List.mem_cons_of_mem _ wd_39)) (by decide +kernel) ⟨Nat.le_trans (Nat.le_of_ble_eq_true rfl) hRf.1, Nat.le_trans (Nat.le_of_ble_eq_true rfl) hRf.2⟩, rfl, S.2.2.2.2 _ (List.mem_cons_of_mem _ wd_45)⟩ ⟨hm_B.blind, fun U hU hW => ⟨rfl, hm_B.of hK hG hI hU hW⟩⟩ rfl rfl hl.1 rfl (lv_room (Nat.le_of_ble_eq_true rfl)) d_PR_init_51 (hx_fit hI hR (hm_mo hg16) (hm_mo hf))) (fun H locs cells slots hI => ?_)
  refine W.eq (g2 := F0 m 54 ls [.ref q13, .ref h0]) rfl ?_
  refine x_put (ci := 0) (k := 5) S hK hI (fun w h => List.mem_cons_of_mem _ (i_PR w h)) t_PR t_PR_ok n_PR rfl (by decide) (List.mem_cons_of_mem _ wd_46) rfl (Or.inr ⟨rfl, hin, rfl⟩) (by rfl) rfl d_PR_init_54 hf (fun M H locs hf hI => ?_)
  refine lv_aload_n S.1 S.2.1 d_PR_init_57 rfl (lv_at hl 0 rfl) ?_
  refine lv_sipush (v := 400) S.1 S.2.1 d_PR_init_58 (by decide) ?_
  refine x_newa (t := 2) (atype := .int) S hK hI hR (List.mem_cons_of_mem _ wd_18) rfl (by decide) rfl (fun h => h) d_PR_init_61 hf (fun q17 M H hf hI => ?_)
  refine x_put (ci := 0) (k := 6) S hK hI (fun w h => List.mem_cons_of_mem _ (i_PR w h)) t_PR t_PR_ok n_PR rfl (by decide) (List.mem_cons_of_mem _ wd_47) rfl (Or.inr ⟨rfl, hin, rfl⟩) (by rfl) rfl d_PR_init_63 hf (fun M H locs hf hI => ?_)
  exact hret _ _ _ _ _ _ _ d_PR_init_66 hf hI
set_option maxHeartbeats 4000000 in
set_option maxRecDepth 100000 in
theorem c_Scan_collect (l : Launch) {D : va_G} {dA : Nat → ClassId} {aK aV : Nat → Nat} {z : Nat} {N : Nat} {h0 : Nat} {p0 : Int32} {M : hM} {Z : Unit × hM} (hf : (f_Scan_collect N h0 p0).1 M = some Z) : Met l y_Scan_collect w_Scan_collect ({ frames := 0, cells := Z.2.2.1 - M.2.1, slots := Z.2.2.2 - M.2.2, locals := 0 }) (va_Pc [.ref h0, .int p0] (hm_B D dA hCl (hTy dA) sT aK aV z M)) (hm_Q D dA hCl (hTy dA) sT aK aV z none Z.2) (Z.2.2.1 - M.2.1) (Z.2.2.2 - M.2.2) (fun q => z ≤ q) := by
  refine Met.ofW (cc := b_Scan_collect) (maxL := 2) (ret := none) (by decide) rfl ?_
  intro p e s m args below meth c s₁ B hml hv
  obtain ⟨hav, hB⟩ := hv
  have S : CallFix p m c b_Scan_collect 2 s args w_Scan_collect R_Scan := ⟨B.exec, B.bytes, hml, findClass_of_methodNamed B.named, atoms_spec (ws := w_Scan_collect) B.pre⟩
  have hr : meth.sig.returnType = none := B.returns
  have hlocks := B.notSynchronized
  have hK := hB.2.2.1
  have hG := hB.2.2.2.2.2
  have hI := hm_I.start hB
  rw [← hB.2.1]
  generalize M.2.2 = k1 at hI ⊢
  refine W.eq (g2 := F0 m 0 ((lg_sl ([.ref h0, .int p0]) ++ List.replicate (2 - (lg_sl ([.ref h0, .int p0])).length) Slot.unset).toArray) []) (by rw [hav]; exact lg_entry_eq m ([.ref h0, .int p0]) 2) ?_
  have hl := lv_entry ([.ref h0, .int p0]) (n := 2) (Nat.le_of_ble_eq_true rfl)
  generalize (lg_sl ([.ref h0, .int p0]) ++ List.replicate (2 - (lg_sl ([.ref h0, .int p0])).length) Slot.unset).toArray = ls at hl ⊢
  simp only [lvA_nil, lvA_i, lvA_l, lvA_a, lvA_r, Nat.zero_add, Nat.reduceAdd] at hl
  have hret : ∀ (M : hM) (H : Heap) (locs : List Loc) (cells slots : Nat) (ls : Array Slot) (pc : Nat), decode b_Scan_collect pc = .ok (.return_, 1) → (b_ret ()).1 M = some Z → hm_I D dA hCl z k1 s M H locs cells slots → W p l e (headSpec w_Scan_collect { frames := 0, cells := Z.2.2.1 - s.heap.size, slots := Z.2.2.2 - k1, locals := 0 }).room s m args below meth c H locs cells slots (MQ below (hm_Q D dA hCl (hTy dA) sT aK aV z none Z.2) args s (Z.2.2.1 - s.heap.size) (Z.2.2.2 - k1) (fun q => z ≤ q)) (F0 m pc ls []) := fun M H locs cells slots ls pc hdg hf hI => x_retv S hK hG hI hr hlocks hdg hf
  have hR : Z.2.2.1 - s.heap.size ≤ (headSpec w_Scan_collect { frames := 0, cells := Z.2.2.1 - s.heap.size, slots := Z.2.2.2 - k1, locals := 0 }).room.cells ∧ Z.2.2.2 - k1 ≤ (headSpec w_Scan_collect { frames := 0, cells := Z.2.2.1 - s.heap.size, slots := Z.2.2.2 - k1, locals := 0 }).room.slots := ⟨Nat.le_refl _, Nat.le_refl _⟩
  have hRf : 0 ≤ (headSpec w_Scan_collect { frames := 0, cells := Z.2.2.1 - s.heap.size, slots := Z.2.2.2 - k1, locals := 0 }).room.frames ∧ 0 ≤ (headSpec w_Scan_collect { frames := 0, cells := Z.2.2.1 - s.heap.size, slots := Z.2.2.2 - k1, locals := 0 }).room.locals := ⟨Nat.le_refl _, Nat.le_refl _⟩
  generalize (headSpec w_Scan_collect { frames := 0, cells := Z.2.2.1 - s.heap.size, slots := Z.2.2.2 - k1, locals := 0 }).room = R at hret hR hRf ⊢
  generalize (MQ below (hm_Q D dA hCl (hTy dA) sT aK aV z none Z.2) args s (Z.2.2.1 - s.heap.size) (Z.2.2.2 - k1) (fun q => z ≤ q)) = Q at hret ⊢
  rw [e_Scan_collect] at hf
  refine lv_iload_n S.1 S.2.1 d_Scan_collect_0 rfl (lv_at hl 1 rfl) ?_
  refine lv_if_eq (tgt := 36) S.1 S.2.1 d_Scan_collect_1 (by decide) (fun hc => ?_) (fun hc => ?_)
  · have hf := b_if_t hc hf
    exact hret _ _ _ _ _ _ _ d_Scan_collect_36 hf hI
  · have hf := b_if_f hc hf
    refine lv_aload_n S.1 S.2.1 d_Scan_collect_4 rfl (lv_at hl 0 rfl) ?_
    refine x_getI (ci := 8) (k := 1) S hK hI (fun w h => List.mem_cons_of_mem _ (i_Scan w h)) rfl (by decide) (List.mem_cons_of_mem _ wd_49) rfl d_Scan_collect_5 hf (fun v1 hf => ?_)
    refine lv_aload_n S.1 S.2.1 d_Scan_collect_8 rfl (lv_at hl 0 rfl) ?_
    refine x_getR (ci := 8) (k := 0) S hK hI (fun w h => List.mem_cons_of_mem _ (i_Scan w h)) rfl (by decide) (List.mem_cons_of_mem _ wd_12) rfl d_Scan_collect_9 hf (fun r2 hf => ?_)
    obtain ⟨a3, ea3, hg⟩ := b_nn_inv hf
    have hI0 := hI
    have hl0 := hl
    clear hf hI hl
    subst ea3
    have hf := hg
    have hI := hI0
    have hl := hl0
    clear hg hI0 hl0
    refine x_len (t := 0) S hK hI rfl d_Scan_collect_12 hf (fun v4 hf => ?_)
    refine lv_icmp_ge (tgt := 36) S.1 S.2.1 d_Scan_collect_13 (by decide) (fun hc => ?_) (fun hc => ?_)
    · have hf := b_if_t hc hf
      exact hret _ _ _ _ _ _ _ d_Scan_collect_36 hf hI
    · have hf := b_if_f hc hf
      refine lv_aload_n S.1 S.2.1 d_Scan_collect_16 rfl (lv_at hl 0 rfl) ?_
      refine x_getR (ci := 8) (k := 0) S hK hI (fun w h => List.mem_cons_of_mem _ (i_Scan w h)) rfl (by decide) (List.mem_cons_of_mem _ wd_12) rfl d_Scan_collect_17 hf (fun r5 hf => ?_)
      refine lv_aload_n S.1 S.2.1 d_Scan_collect_20 rfl (lv_at hl 0 rfl) ?_
      refine x_getI (ci := 8) (k := 1) S hK hI (fun w h => List.mem_cons_of_mem _ (i_Scan w h)) rfl (by decide) (List.mem_cons_of_mem _ wd_49) rfl d_Scan_collect_21 hf (fun v6 hf => ?_)
      refine lv_iload_n S.1 S.2.1 d_Scan_collect_24 rfl (lv_at hl 1 rfl) ?_
      obtain ⟨a7, ea7, hg⟩ := b_nn_inv hf
      have hI0 := hI
      have hl0 := hl
      clear hf hI hl
      subst ea7
      have hf := hg
      have hI := hI0
      have hl := hl0
      clear hg hI0 hl0
      refine x_cast (t := 0) S hK hI rfl d_Scan_collect_25 hf (fun M H locs hf hI => ?_)
      refine lv_aload_n S.1 S.2.1 d_Scan_collect_26 rfl (lv_at hl 0 rfl) ?_
      refine lv_dup S.1 S.2.1 d_Scan_collect_27 rfl ?_
      refine x_getI (ci := 8) (k := 1) S hK hI (fun w h => List.mem_cons_of_mem _ (i_Scan w h)) rfl (by decide) (List.mem_cons_of_mem _ wd_49) rfl d_Scan_collect_28 hf (fun v8 hf => ?_)
      refine lv_iconst (v := 1) S.1 S.2.1 d_Scan_collect_31 (by decide) ?_
      refine lv_iadd S.1 S.2.1 d_Scan_collect_32 ?_
      refine x_put (ci := 8) (k := 1) S hK hI (fun w h => List.mem_cons_of_mem _ (i_Scan w h)) t_Scan t_Scan_ok n_Scan rfl (by decide) (List.mem_cons_of_mem _ wd_49) rfl (Or.inl rfl) (by rfl) rfl d_Scan_collect_33 hf (fun M H locs hf hI => ?_)
      exact hret _ _ _ _ _ _ _ d_Scan_collect_36 hf hI
set_option maxHeartbeats 4000000 in
set_option maxRecDepth 100000 in
theorem c_PR_type (l : Launch) {D : va_G} {dA : Nat → ClassId} {aK aV : Nat → Nat} {z : Nat} {N : Nat} {h0 : Nat} {p0 : Int64} {M : hM} {Z : Unit × hM} (hf : (f_PR_type N h0 p0).1 M = some Z) : Met l y_PR_type w_PR_type ({ frames := 1, cells := Z.2.2.1 - M.2.1, slots := Z.2.2.2 - M.2.2, locals := 21 }) (va_Pc [.ref h0, .long p0] (hm_B D dA hCl (hTy dA) sT aK aV z M)) (hm_Q D dA hCl (hTy dA) sT aK aV z none Z.2) (Z.2.2.1 - M.2.1) (Z.2.2.2 - M.2.2) (fun q => z ≤ q) := by
  refine Met.ofW (cc := b_PR_type) (maxL := 4) (ret := none) (by decide) rfl ?_
  intro p e s m args below meth c s₁ B hml hv
  obtain ⟨hav, hB⟩ := hv
  have S : CallFix p m c b_PR_type 4 s args w_PR_type R_PR := ⟨B.exec, B.bytes, hml, findClass_of_methodNamed B.named, atoms_spec (ws := w_PR_type) B.pre⟩
  have hr : meth.sig.returnType = none := B.returns
  have hlocks := B.notSynchronized
  have hK := hB.2.2.1
  have hG := hB.2.2.2.2.2
  have hI := hm_I.start hB
  rw [← hB.2.1]
  generalize M.2.2 = k1 at hI ⊢
  refine W.eq (g2 := F0 m 0 ((lg_sl ([.ref h0, .long p0]) ++ List.replicate (4 - (lg_sl ([.ref h0, .long p0])).length) Slot.unset).toArray) []) (by rw [hav]; exact lg_entry_eq m ([.ref h0, .long p0]) 4) ?_
  have hl := lv_entry ([.ref h0, .long p0]) (n := 4) (Nat.le_of_ble_eq_true rfl)
  generalize (lg_sl ([.ref h0, .long p0]) ++ List.replicate (4 - (lg_sl ([.ref h0, .long p0])).length) Slot.unset).toArray = ls at hl ⊢
  simp only [lvA_nil, lvA_i, lvA_l, lvA_a, lvA_r, Nat.zero_add, Nat.reduceAdd] at hl
  have hret : ∀ (M : hM) (H : Heap) (locs : List Loc) (cells slots : Nat) (ls : Array Slot) (pc : Nat), decode b_PR_type pc = .ok (.return_, 1) → (b_ret ()).1 M = some Z → hm_I D dA hCl z k1 s M H locs cells slots → W p l e (headSpec w_PR_type { frames := 1, cells := Z.2.2.1 - s.heap.size, slots := Z.2.2.2 - k1, locals := 21 }).room s m args below meth c H locs cells slots (MQ below (hm_Q D dA hCl (hTy dA) sT aK aV z none Z.2) args s (Z.2.2.1 - s.heap.size) (Z.2.2.2 - k1) (fun q => z ≤ q)) (F0 m pc ls []) := fun M H locs cells slots ls pc hdg hf hI => x_retv S hK hG hI hr hlocks hdg hf
  have hR : Z.2.2.1 - s.heap.size ≤ (headSpec w_PR_type { frames := 1, cells := Z.2.2.1 - s.heap.size, slots := Z.2.2.2 - k1, locals := 21 }).room.cells ∧ Z.2.2.2 - k1 ≤ (headSpec w_PR_type { frames := 1, cells := Z.2.2.1 - s.heap.size, slots := Z.2.2.2 - k1, locals := 21 }).room.slots := ⟨Nat.le_refl _, Nat.le_refl _⟩
  have hRf : 1 ≤ (headSpec w_PR_type { frames := 1, cells := Z.2.2.1 - s.heap.size, slots := Z.2.2.2 - k1, locals := 21 }).room.frames ∧ 21 ≤ (headSpec w_PR_type { frames := 1, cells := Z.2.2.1 - s.heap.size, slots := Z.2.2.2 - k1, locals := 21 }).room.locals := ⟨Nat.le_refl _, Nat.le_refl _⟩
  generalize (headSpec w_PR_type { frames := 1, cells := Z.2.2.1 - s.heap.size, slots := Z.2.2.2 - k1, locals := 21 }).room = R at hret hR hRf ⊢
  generalize (MQ below (hm_Q D dA hCl (hTy dA) sT aK aV z none Z.2) args s (Z.2.2.1 - s.heap.size) (Z.2.2.2 - k1) (fun q => z ≤ q)) = Q at hret ⊢
  rw [e_PR_type] at hf
  have w3 : ∀ (n : Nat) (x3 : Int32) (M : hM) (H : Heap) (locs : List Loc) (ls : Array Slot) (cells slots : Nat), (f_PR_type_3 N h0 p0  n x3).1 M = some Z → hm_I D dA hCl z k1 s M H locs cells slots → lv_has ls 4 [(0, .ref h0), (1, .long p0), (3, .int x3)] → W p l e R s m args below meth c H locs cells slots Q (F0 m 3 ls []) := by
    intro n
    induction n with
    | zero => intro x3 M H locs ls cells slots hf hI hl; cases hf
    | succ n3 ih3 =>
      intro x3 M H locs ls cells slots hf hI hl
      rw [e_PR_type_3] at hf
      refine lv_iload_n S.1 S.2.1 d_PR_type_3 rfl (lv_at hl 2 rfl) ?_
      refine lv_if_lt (tgt := 29) S.1 S.2.1 d_PR_type_4 (by decide) (fun hc => ?_) (fun hc => ?_)
      · have hf := b_if_t hc hf
        exact hret _ _ _ _ _ _ _ d_PR_type_29 hf hI
      · have hf := b_if_f hc hf
        refine lv_aload_n S.1 S.2.1 d_PR_type_7 rfl (lv_at hl 0 rfl) ?_
        refine x_getR (ci := 0) (k := 1) S hK hI (fun w h => List.mem_cons_of_mem _ (i_PR w h)) rfl (by decide) (List.mem_cons_of_mem _ wd_26) rfl d_PR_type_8 hf (fun r1 hf => ?_)
        refine lv_lload_n S.1 S.2.1 d_PR_type_11 rfl (lv_at hl 1 rfl) ?_
        refine lv_iload_n S.1 S.2.1 d_PR_type_12 rfl (lv_at hl 2 rfl) ?_
        refine lv_lushr S.1 S.2.1 d_PR_type_13 rfl ?_
        refine lv_ldc2 (v := 255) S.1 S.2.1 S.2.2.2.1 (S.2.2.2.2 _ (List.mem_cons_of_mem _ wd_48)) d_PR_type_14 ?_
        refine lv_land S.1 S.2.1 d_PR_type_17 ?_
        refine lv_l2i S.1 S.2.1 d_PR_type_18 rfl ?_
        refine lv_i2c S.1 S.2.1 d_PR_type_19 rfl ?_
        obtain ⟨a2, ea2, hg⟩ := b_nn_inv hf
        have hI0 := hI
        have hl0 := hl
        clear hf hI hl
        subst ea2
        have hf := hg
        have hI := hI0
        have hl := hl0
        clear hg hI0 hl0
        obtain ⟨⟨fs6, hefs6⟩, hf⟩ := b_is_inv hf
        obtain ⟨r3, N4, hg5, hf⟩ := b_call_inv hf
        refine x_call hI (hm_mo hg5) (va_runV (As := [.int (((((((((p0 : Int64).toUInt64 >>> ((x3 : Int32).toInt64.toUInt64 &&& Int64.toUInt64 63)).toInt64) &&& 255) : Int64).toInt32) : Int32).toUInt32 % 65536).toInt32)]) (rest := []) S (c_Scan_collect l hg5) (cwV 1 S.2.2.2.2 (gi_V wd_50 wd_51 wd_52 wd_9 wd_53) rfl rfl rfl (by decide +kernel) ⟨Nat.le_trans (Nat.le_of_ble_eq_true rfl) hRf.1, Nat.le_trans (Nat.le_of_ble_eq_true rfl) hRf.2⟩) ⟨hm_B.blind, va_recv hK (hI.1.one hefs6) (ci := 8) (q0 := 0) rfl rfl, fun U hU hW => ⟨rfl, hm_B.of hK hG hI hU hW⟩⟩ rfl rfl hl.1 rfl (lv_room (Nat.le_of_ble_eq_true rfl)) d_PR_type_20 (hx_fit hI hR (hm_mo hg5) (hm_mo hf))) (fun H locs cells slots hI => ?_)
        refine W.eq (g2 := F0 m 23 ls []) rfl ?_
        refine x_iinc (v := (-8)) (lv2 := [(0, .ref h0), (1, .long p0)]) S d_PR_type_23 hl 2 rfl (by decide) (by decide) [0, 1] rfl ⟨⟨(by decide : (0 : Nat) ≠ 3), fun h => absurd (show (0 : Nat) + 1 = 3 from h) (by decide)⟩, ⟨⟨(by decide : (1 : Nat) ≠ 3), fun h => absurd (show (1 : Nat) + 1 = 3 from h) (by decide)⟩, trivial⟩⟩ (fun ls hl => ?_)
        refine lv_goto (tgt := 3) S.1 S.2.1 d_PR_type_26 (by decide) ?_
        exact ih3 (x3 + (-8)) _ _ _ _ _ _ hf hI (lv_sub hl [1, 2, 0] rfl)
  refine lv_bipush (v := 56) S.1 S.2.1 d_PR_type_0 (by decide) ?_
  refine x_istore_n (lv2 := [(0, .ref h0), (1, .long p0)]) S d_PR_type_2 rfl hl (by decide) [0, 1] rfl ⟨⟨(by decide : (0 : Nat) ≠ 3), fun h => absurd (show (0 : Nat) + 1 = 3 from h) (by decide)⟩, ⟨⟨(by decide : (1 : Nat) ≠ 3), fun h => absurd (show (1 : Nat) + 1 = 3 from h) (by decide)⟩, trivial⟩⟩ (fun ls hl => ?_)
  exact w3 N 56 _ _ _ _ _ _ hf hI (lv_sub hl [1, 2, 0] rfl)
set_option maxHeartbeats 4000000 in
set_option maxRecDepth 100000 in
theorem c_Scan_begin (l : Launch) {D : va_G} {dA : Nat → ClassId} {aK aV : Nat → Nat} {z : Nat} {N : Nat} {h0 : Nat} {M : hM} {Z : Unit × hM} (hf : (f_Scan_begin N h0 ).1 M = some Z) : Met l y_Scan_begin w_Scan_begin ({ frames := 0, cells := Z.2.2.1 - M.2.1, slots := Z.2.2.2 - M.2.2, locals := 0 }) (va_Pc [.ref h0] (hm_B D dA hCl (hTy dA) sT aK aV z M)) (hm_Q D dA hCl (hTy dA) sT aK aV z none Z.2) (Z.2.2.1 - M.2.1) (Z.2.2.2 - M.2.2) (fun q => z ≤ q) := by
  refine Met.ofW (cc := b_Scan_begin) (maxL := 1) (ret := none) (by decide) rfl ?_
  intro p e s m args below meth c s₁ B hml hv
  obtain ⟨hav, hB⟩ := hv
  have S : CallFix p m c b_Scan_begin 1 s args w_Scan_begin R_Scan := ⟨B.exec, B.bytes, hml, findClass_of_methodNamed B.named, atoms_spec (ws := w_Scan_begin) B.pre⟩
  have hr : meth.sig.returnType = none := B.returns
  have hlocks := B.notSynchronized
  have hK := hB.2.2.1
  have hG := hB.2.2.2.2.2
  have hI := hm_I.start hB
  rw [← hB.2.1]
  generalize M.2.2 = k1 at hI ⊢
  refine W.eq (g2 := F0 m 0 ((lg_sl ([.ref h0]) ++ List.replicate (1 - (lg_sl ([.ref h0])).length) Slot.unset).toArray) []) (by rw [hav]; exact lg_entry_eq m ([.ref h0]) 1) ?_
  have hl := lv_entry ([.ref h0]) (n := 1) (Nat.le_of_ble_eq_true rfl)
  generalize (lg_sl ([.ref h0]) ++ List.replicate (1 - (lg_sl ([.ref h0])).length) Slot.unset).toArray = ls at hl ⊢
  simp only [lvA_nil, lvA_i, lvA_l, lvA_a, lvA_r, Nat.zero_add, Nat.reduceAdd] at hl
  have hret : ∀ (M : hM) (H : Heap) (locs : List Loc) (cells slots : Nat) (ls : Array Slot) (pc : Nat), decode b_Scan_begin pc = .ok (.return_, 1) → (b_ret ()).1 M = some Z → hm_I D dA hCl z k1 s M H locs cells slots → W p l e (headSpec w_Scan_begin { frames := 0, cells := Z.2.2.1 - s.heap.size, slots := Z.2.2.2 - k1, locals := 0 }).room s m args below meth c H locs cells slots (MQ below (hm_Q D dA hCl (hTy dA) sT aK aV z none Z.2) args s (Z.2.2.1 - s.heap.size) (Z.2.2.2 - k1) (fun q => z ≤ q)) (F0 m pc ls []) := fun M H locs cells slots ls pc hdg hf hI => x_retv S hK hG hI hr hlocks hdg hf
  have hR : Z.2.2.1 - s.heap.size ≤ (headSpec w_Scan_begin { frames := 0, cells := Z.2.2.1 - s.heap.size, slots := Z.2.2.2 - k1, locals := 0 }).room.cells ∧ Z.2.2.2 - k1 ≤ (headSpec w_Scan_begin { frames := 0, cells := Z.2.2.1 - s.heap.size, slots := Z.2.2.2 - k1, locals := 0 }).room.slots := ⟨Nat.le_refl _, Nat.le_refl _⟩
  have hRf : 0 ≤ (headSpec w_Scan_begin { frames := 0, cells := Z.2.2.1 - s.heap.size, slots := Z.2.2.2 - k1, locals := 0 }).room.frames ∧ 0 ≤ (headSpec w_Scan_begin { frames := 0, cells := Z.2.2.1 - s.heap.size, slots := Z.2.2.2 - k1, locals := 0 }).room.locals := ⟨Nat.le_refl _, Nat.le_refl _⟩
  generalize (headSpec w_Scan_begin { frames := 0, cells := Z.2.2.1 - s.heap.size, slots := Z.2.2.2 - k1, locals := 0 }).room = R at hret hR hRf ⊢
  generalize (MQ below (hm_Q D dA hCl (hTy dA) sT aK aV z none Z.2) args s (Z.2.2.1 - s.heap.size) (Z.2.2.2 - k1) (fun q => z ≤ q)) = Q at hret ⊢
  rw [e_Scan_begin] at hf
  refine lv_aload_n S.1 S.2.1 d_Scan_begin_0 rfl (lv_at hl 0 rfl) ?_
  refine lv_iconst (v := 0) S.1 S.2.1 d_Scan_begin_1 (by decide) ?_
  refine x_put (ci := 8) (k := 2) S hK hI (fun w h => List.mem_cons_of_mem _ (i_Scan w h)) t_Scan t_Scan_ok n_Scan rfl (by decide) (List.mem_cons_of_mem _ wd_54) rfl (Or.inl rfl) (by rfl) rfl d_Scan_begin_2 hf (fun M H locs hf hI => ?_)
  refine lv_aload_n S.1 S.2.1 d_Scan_begin_5 rfl (lv_at hl 0 rfl) ?_
  refine lv_iconst (v := 0) S.1 S.2.1 d_Scan_begin_6 (by decide) ?_
  refine x_put (ci := 8) (k := 3) S hK hI (fun w h => List.mem_cons_of_mem _ (i_Scan w h)) t_Scan t_Scan_ok n_Scan rfl (by decide) (List.mem_cons_of_mem _ wd_55) rfl (Or.inl rfl) (by rfl) rfl d_Scan_begin_7 hf (fun M H locs hf hI => ?_)
  refine lv_aload_n S.1 S.2.1 d_Scan_begin_10 rfl (lv_at hl 0 rfl) ?_
  refine lv_iconst (v := 0) S.1 S.2.1 d_Scan_begin_11 (by decide) ?_
  refine x_put (ci := 8) (k := 4) S hK hI (fun w h => List.mem_cons_of_mem _ (i_Scan w h)) t_Scan t_Scan_ok n_Scan rfl (by decide) (List.mem_cons_of_mem _ wd_56) rfl (Or.inl rfl) (by rfl) rfl d_Scan_begin_12 hf (fun M H locs hf hI => ?_)
  refine lv_aload_n S.1 S.2.1 d_Scan_begin_15 rfl (lv_at hl 0 rfl) ?_
  refine lv_iconst (v := 0) S.1 S.2.1 d_Scan_begin_16 (by decide) ?_
  refine x_put (ci := 8) (k := 5) S hK hI (fun w h => List.mem_cons_of_mem _ (i_Scan w h)) t_Scan t_Scan_ok n_Scan rfl (by decide) (List.mem_cons_of_mem _ wd_57) rfl (Or.inl rfl) (by rfl) rfl d_Scan_begin_17 hf (fun M H locs hf hI => ?_)
  exact hret _ _ _ _ _ _ _ d_Scan_begin_20 hf hI
set_option maxHeartbeats 4000000 in
set_option maxRecDepth 100000 in
theorem c_Name_order (l : Launch) {D : va_G} {dA : Nat → ClassId} {aK aV : Nat → Nat} {z : Nat} {N : Nat} {h0 : Nat} {p0 : Option Nat} {M : hM} {Z : Int32 × hM} (hf : (f_Name_order N h0 p0).1 M = some Z) : Met l y_Name_order w_Name_order ({ frames := 1, cells := Z.2.2.1 - M.2.1, slots := Z.2.2.2 - M.2.2, locals := 24 }) (va_Pc [.ref h0, va_rf p0] (hm_B D dA hCl (hTy dA) sT aK aV z M)) (hm_Q D dA hCl (hTy dA) sT aK aV z (some (.int Z.1)) Z.2) (Z.2.2.1 - M.2.1) (Z.2.2.2 - M.2.2) (fun q => z ≤ q) := by
  refine Met.ofW (cc := b_Name_order) (maxL := 4) (ret := (some .int)) (by decide) rfl ?_
  intro p e s m args below meth c s₁ B hml hv
  obtain ⟨hav, hB⟩ := hv
  have S : CallFix p m c b_Name_order 4 s args w_Name_order R_Name := ⟨B.exec, B.bytes, hml, findClass_of_methodNamed B.named, atoms_spec (ws := w_Name_order) B.pre⟩
  have hr : meth.sig.returnType = (some .int) := B.returns
  have hlocks := B.notSynchronized
  have hK := hB.2.2.1
  have hG := hB.2.2.2.2.2
  have hI := hm_I.start hB
  rw [← hB.2.1]
  generalize M.2.2 = k1 at hI ⊢
  refine W.eq (g2 := F0 m 0 ((lg_sl ([.ref h0, va_rf p0]) ++ List.replicate (4 - (lg_sl ([.ref h0, va_rf p0])).length) Slot.unset).toArray) []) (by rw [hav]; exact lg_entry_eq m ([.ref h0, va_rf p0]) 4) ?_
  have hl := lv_entry ([.ref h0, va_rf p0]) (n := 4) (by cases p0 <;> exact Nat.le_of_ble_eq_true rfl)
  generalize (lg_sl ([.ref h0, va_rf p0]) ++ List.replicate (4 - (lg_sl ([.ref h0, va_rf p0])).length) Slot.unset).toArray = ls at hl ⊢
  simp only [lvA_nil, lvA_i, lvA_l, lvA_a, lvA_r, Nat.zero_add, Nat.reduceAdd] at hl
  have hret : ∀ (v : Int32) (M : hM) (H : Heap) (locs : List Loc) (cells slots : Nat) (ls : Array Slot) (pc : Nat), decode b_Name_order pc = .ok (.ireturn, 1) → (b_ret v).1 M = some Z → hm_I D dA hCl z k1 s M H locs cells slots → W p l e (headSpec w_Name_order { frames := 1, cells := Z.2.2.1 - s.heap.size, slots := Z.2.2.2 - k1, locals := 24 }).room s m args below meth c H locs cells slots (MQ below (hm_Q D dA hCl (hTy dA) sT aK aV z (some (.int Z.1)) Z.2) args s (Z.2.2.1 - s.heap.size) (Z.2.2.2 - k1) (fun q => z ≤ q)) (F0 m pc ls [.int v]) := fun v M H locs cells slots ls pc hdg hf hI => x_reti S hK hG hI hr hlocks hdg hf
  have hR : Z.2.2.1 - s.heap.size ≤ (headSpec w_Name_order { frames := 1, cells := Z.2.2.1 - s.heap.size, slots := Z.2.2.2 - k1, locals := 24 }).room.cells ∧ Z.2.2.2 - k1 ≤ (headSpec w_Name_order { frames := 1, cells := Z.2.2.1 - s.heap.size, slots := Z.2.2.2 - k1, locals := 24 }).room.slots := ⟨Nat.le_refl _, Nat.le_refl _⟩
  have hRf : 1 ≤ (headSpec w_Name_order { frames := 1, cells := Z.2.2.1 - s.heap.size, slots := Z.2.2.2 - k1, locals := 24 }).room.frames ∧ 24 ≤ (headSpec w_Name_order { frames := 1, cells := Z.2.2.1 - s.heap.size, slots := Z.2.2.2 - k1, locals := 24 }).room.locals := ⟨Nat.le_refl _, Nat.le_refl _⟩
  generalize (headSpec w_Name_order { frames := 1, cells := Z.2.2.1 - s.heap.size, slots := Z.2.2.2 - k1, locals := 24 }).room = R at hret hR hRf ⊢
  generalize (MQ below (hm_Q D dA hCl (hTy dA) sT aK aV z (some (.int Z.1)) Z.2) args s (Z.2.2.1 - s.heap.size) (Z.2.2.2 - k1) (fun q => z ≤ q)) = Q at hret ⊢
  rw [e_Name_order] at hf
  have w14 : ∀ (n : Nat) (x2 : Int32) (x3 : Int32) (M : hM) (H : Heap) (locs : List Loc) (ls : Array Slot) (cells slots : Nat), (f_Name_order_14 N h0 p0  n x2 x3).1 M = some Z → hm_I D dA hCl z k1 s M H locs cells slots → lv_has ls 4 [(0, .ref h0), (1, va_rf p0), (2, .int x2), (3, .int x3)] → W p l e R s m args below meth c H locs cells slots Q (F0 m 14 ls []) := by
    intro n
    induction n with
    | zero => intro x2 x3 M H locs ls cells slots hf hI hl; cases hf
    | succ n14 ih14 =>
      intro x2 x3 M H locs ls cells slots hf hI hl
      rw [e_Name_order_14] at hf
      refine lv_iload_n S.1 S.2.1 d_Name_order_14 rfl (lv_at hl 3 rfl) ?_
      refine lv_iload_n S.1 S.2.1 d_Name_order_15 rfl (lv_at hl 2 rfl) ?_
      refine lv_icmp_ge (tgt := 54) S.1 S.2.1 d_Name_order_16 (by decide) (fun hc => ?_) (fun hc => ?_)
      · have hf := b_if_t hc hf
        refine lv_aload_n S.1 S.2.1 d_Name_order_54 rfl (lv_at hl 0 rfl) ?_
        refine x_getI (ci := 2) (k := 2) S hK hI (fun w h => List.mem_cons_of_mem _ (i_Name w h)) rfl (by decide) (List.mem_cons_of_mem _ wd_66) rfl d_Name_order_55 hf (fun v1 hf => ?_)
        refine x_aload_n (r := p0) S d_Name_order_58 rfl (lv_at hl 1 rfl) ?_
        obtain ⟨a2, ea2, hg⟩ := b_nn_inv hf
        have hI0 := hI
        have hl0 := hl
        clear hf hI hl
        subst ea2
        have hf := hg
        have hI := hI0
        have hl := hl0
        clear hg hI0 hl0
        refine x_getI (ci := 2) (k := 2) S hK hI (fun w h => List.mem_cons_of_mem _ (i_Name w h)) rfl (by decide) (List.mem_cons_of_mem _ wd_66) rfl d_Name_order_59 hf (fun v3 hf => ?_)
        refine lv_isub S.1 S.2.1 d_Name_order_62 ?_
        exact hret _ _ _ _ _ _ _ _ d_Name_order_63 hf hI
      · have hf := b_if_f hc hf
        refine lv_aload_n S.1 S.2.1 d_Name_order_19 rfl (lv_at hl 0 rfl) ?_
        refine x_getR (ci := 2) (k := 1) S hK hI (fun w h => List.mem_cons_of_mem _ (i_Name w h)) rfl (by decide) (List.mem_cons_of_mem _ wd_67) rfl d_Name_order_20 hf (fun r4 hf => ?_)
        refine lv_iload_n S.1 S.2.1 d_Name_order_23 rfl (lv_at hl 3 rfl) ?_
        obtain ⟨a5, ea5, hg⟩ := b_nn_inv hf
        have hI0 := hI
        have hl0 := hl
        clear hf hI hl
        subst ea5
        have hf := hg
        have hI := hI0
        have hl := hl0
        clear hg hI0 hl0
        refine x_cald (t := 0) S hK hI rfl d_Name_order_24 hf (fun v6 hf => ?_)
        refine x_aload_n (r := p0) S d_Name_order_25 rfl (lv_at hl 1 rfl) ?_
        obtain ⟨a7, ea7, hg⟩ := b_nn_inv hf
        have hI0 := hI
        have hl0 := hl
        clear hf hI hl
        subst ea7
        have hf := hg
        have hI := hI0
        have hl := hl0
        clear hg hI0 hl0
        refine x_getR (ci := 2) (k := 1) S hK hI (fun w h => List.mem_cons_of_mem _ (i_Name w h)) rfl (by decide) (List.mem_cons_of_mem _ wd_67) rfl d_Name_order_26 hf (fun r8 hf => ?_)
        refine lv_iload_n S.1 S.2.1 d_Name_order_29 rfl (lv_at hl 3 rfl) ?_
        obtain ⟨a9, ea9, hg⟩ := b_nn_inv hf
        have hI0 := hI
        have hl0 := hl
        clear hf hI hl
        subst ea9
        have hf := hg
        have hI := hI0
        have hl := hl0
        clear hg hI0 hl0
        refine x_cald (t := 0) S hK hI rfl d_Name_order_30 hf (fun v10 hf => ?_)
        refine lv_icmp_eq (tgt := 48) S.1 S.2.1 d_Name_order_31 (by decide) (fun hc => ?_) (fun hc => ?_)
        · have hf := b_if_t hc hf
          refine x_iinc (v := 1) (lv2 := [(0, .ref h0), (1, .ref a7), (2, .int x2)]) S d_Name_order_48 hl 3 rfl (by decide) (by decide) [0, 1, 2] rfl ⟨⟨(by decide : (0 : Nat) ≠ 3), fun h => absurd (show (0 : Nat) + 1 = 3 from h) (by decide)⟩, ⟨⟨(by decide : (1 : Nat) ≠ 3), fun h => absurd (show (1 : Nat) + 1 = 3 from h) (by decide)⟩, ⟨⟨(by decide : (2 : Nat) ≠ 3), fun _ => rfl⟩, trivial⟩⟩⟩ (fun ls hl => ?_)
          refine lv_goto (tgt := 14) S.1 S.2.1 d_Name_order_51 (by decide) ?_
          exact ih14 x2 (x3 + 1) _ _ _ _ _ _ hf hI (lv_sub hl [1, 2, 3, 0] rfl)
        · have hf := b_if_f hc hf
          refine lv_aload_n S.1 S.2.1 d_Name_order_34 rfl (lv_at hl 0 rfl) ?_
          refine x_getR (ci := 2) (k := 1) S hK hI (fun w h => List.mem_cons_of_mem _ (i_Name w h)) rfl (by decide) (List.mem_cons_of_mem _ wd_67) rfl d_Name_order_35 hf (fun r11 hf => ?_)
          refine lv_iload_n S.1 S.2.1 d_Name_order_38 rfl (lv_at hl 3 rfl) ?_
          obtain ⟨a12, ea12, hg⟩ := b_nn_inv hf
          have hI0 := hI
          have hl0 := hl
          clear hf hI hl
          subst ea12
          have hf := hg
          have hI := hI0
          have hl := hl0
          clear hg hI0 hl0
          refine x_cald (t := 0) S hK hI rfl d_Name_order_39 hf (fun v13 hf => ?_)
          refine lv_aload_n S.1 S.2.1 d_Name_order_40 rfl (lv_at hl 1 rfl) ?_
          refine x_getR (ci := 2) (k := 1) S hK hI (fun w h => List.mem_cons_of_mem _ (i_Name w h)) rfl (by decide) (List.mem_cons_of_mem _ wd_67) rfl d_Name_order_41 hf (fun r14 hf => ?_)
          refine lv_iload_n S.1 S.2.1 d_Name_order_44 rfl (lv_at hl 3 rfl) ?_
          obtain ⟨a15, ea15, hg⟩ := b_nn_inv hf
          have hI0 := hI
          have hl0 := hl
          clear hf hI hl
          subst ea15
          have hf := hg
          have hI := hI0
          have hl := hl0
          clear hg hI0 hl0
          refine x_cald (t := 0) S hK hI rfl d_Name_order_45 hf (fun v16 hf => ?_)
          refine lv_isub S.1 S.2.1 d_Name_order_46 ?_
          exact hret _ _ _ _ _ _ _ _ d_Name_order_47 hf hI
  refine lv_aload_n S.1 S.2.1 d_Name_order_0 rfl (lv_at hl 0 rfl) ?_
  refine x_getI (ci := 2) (k := 2) S hK hI (fun w h => List.mem_cons_of_mem _ (i_Name w h)) rfl (by decide) (List.mem_cons_of_mem _ wd_66) rfl d_Name_order_1 hf (fun v17 hf => ?_)
  refine x_aload_n (r := p0) S d_Name_order_4 rfl (lv_at hl 1 rfl) ?_
  obtain ⟨a18, ea18, hg⟩ := b_nn_inv hf
  have hI0 := hI
  have hl0 := hl
  clear hf hI hl
  subst ea18
  have hf := hg
  have hI := hI0
  have hl := hl0
  clear hg hI0 hl0
  refine x_getI (ci := 2) (k := 2) S hK hI (fun w h => List.mem_cons_of_mem _ (i_Name w h)) rfl (by decide) (List.mem_cons_of_mem _ wd_66) rfl d_Name_order_5 hf (fun v19 hf => ?_)
  refine va_mmin S.1 S.2.1 (by rw [S.2.2.1]; exact hl.1.symm) S.2.2.2.1 (S.2.2.2.2 _ (List.mem_cons_of_mem _ wd_68)) (S.2.2.2.2 _ (List.mem_cons_of_mem _ wd_69)) (S.2.2.2.2 _ (List.mem_cons_of_mem _ wd_70)) (S.2.2.2.2 _ (List.mem_cons_of_mem _ wd_71)) (Nat.le_trans (Nat.le_of_ble_eq_true rfl) hRf.1) (Nat.le_trans (Nat.le_of_ble_eq_true rfl) hRf.2) (hm_cs hI hR (hm_mo hf)).1 (hm_cs hI hR (hm_mo hf)).2 d_Name_order_8 ?_
  refine x_istore_n (lv2 := [(0, .ref h0), (1, .ref a18)]) S d_Name_order_11 rfl hl (by decide) [0, 1] rfl ⟨⟨(by decide : (0 : Nat) ≠ 2), fun h => absurd (show (0 : Nat) + 1 = 2 from h) (by decide)⟩, ⟨⟨(by decide : (1 : Nat) ≠ 2), fun _ => rfl⟩, trivial⟩⟩ (fun ls hl => ?_)
  refine lv_iconst (v := 0) S.1 S.2.1 d_Name_order_12 (by decide) ?_
  refine x_istore_n (lv2 := [(2, .int (if v19 < v17 then v19 else v17)), (0, .ref h0), (1, .ref a18)]) S d_Name_order_13 rfl hl (by decide) [0, 1, 2] rfl ⟨⟨(by decide : (2 : Nat) ≠ 3), fun _ => rfl⟩, ⟨⟨(by decide : (0 : Nat) ≠ 3), fun h => absurd (show (0 : Nat) + 1 = 3 from h) (by decide)⟩, ⟨⟨(by decide : (1 : Nat) ≠ 3), fun h => absurd (show (1 : Nat) + 1 = 3 from h) (by decide)⟩, trivial⟩⟩⟩ (fun ls hl => ?_)
  exact w14 N (if v19 < v17 then v19 else v17) 0 _ _ _ _ _ _ hf hI (lv_sub hl [2, 3, 1, 0] rfl)
set_option maxHeartbeats 4000000 in
set_option maxRecDepth 100000 in
theorem c_Name_foldsLikeOneOf (l : Launch) {D : va_G} {dA : Nat → ClassId} {aK aV : Nat → Nat} {z : Nat} {N : Nat} {h0 : Nat} {p0 : Option Nat} {p1 : Int32} {M : hM} {Z : Int32 × hM} (hf : (f_Name_foldsLikeOneOf N h0 p0 p1).1 M = some Z) : Met l y_Name_foldsLikeOneOf w_Name_foldsLikeOneOf ({ frames := 2, cells := Z.2.2.1 - M.2.1, slots := Z.2.2.2 - M.2.2, locals := 47 }) (va_Pc [.ref h0, va_rf p0, .int p1] (hm_B D dA hCl (hTy dA) sT aK aV z M)) (hm_Q D dA hCl (hTy dA) sT aK aV z (some (.int Z.1)) Z.2) (Z.2.2.1 - M.2.1) (Z.2.2.2 - M.2.2) (fun q => z ≤ q) := by
  refine Met.ofW (cc := b_Name_foldsLikeOneOf) (maxL := 4) (ret := (some .boolean)) (by decide) rfl ?_
  intro p e s m args below meth c s₁ B hml hv
  obtain ⟨hav, hB⟩ := hv
  have S : CallFix p m c b_Name_foldsLikeOneOf 4 s args w_Name_foldsLikeOneOf R_Name := ⟨B.exec, B.bytes, hml, findClass_of_methodNamed B.named, atoms_spec (ws := w_Name_foldsLikeOneOf) B.pre⟩
  have hr : meth.sig.returnType = (some .boolean) := B.returns
  have hlocks := B.notSynchronized
  have hK := hB.2.2.1
  have hG := hB.2.2.2.2.2
  have hI := hm_I.start hB
  rw [← hB.2.1]
  generalize M.2.2 = k1 at hI ⊢
  refine W.eq (g2 := F0 m 0 ((lg_sl ([.ref h0, va_rf p0, .int p1]) ++ List.replicate (4 - (lg_sl ([.ref h0, va_rf p0, .int p1])).length) Slot.unset).toArray) []) (by rw [hav]; exact lg_entry_eq m ([.ref h0, va_rf p0, .int p1]) 4) ?_
  have hl := lv_entry ([.ref h0, va_rf p0, .int p1]) (n := 4) (by cases p0 <;> exact Nat.le_of_ble_eq_true rfl)
  generalize (lg_sl ([.ref h0, va_rf p0, .int p1]) ++ List.replicate (4 - (lg_sl ([.ref h0, va_rf p0, .int p1])).length) Slot.unset).toArray = ls at hl ⊢
  simp only [lvA_nil, lvA_i, lvA_l, lvA_a, lvA_r, Nat.zero_add, Nat.reduceAdd] at hl
  have hret : ∀ (v : Int32) (M : hM) (H : Heap) (locs : List Loc) (cells slots : Nat) (ls : Array Slot) (pc : Nat), decode b_Name_foldsLikeOneOf pc = .ok (.ireturn, 1) → (b_retN .boolean v).1 M = some Z → hm_I D dA hCl z k1 s M H locs cells slots → W p l e (headSpec w_Name_foldsLikeOneOf { frames := 2, cells := Z.2.2.1 - s.heap.size, slots := Z.2.2.2 - k1, locals := 47 }).room s m args below meth c H locs cells slots (MQ below (hm_Q D dA hCl (hTy dA) sT aK aV z (some (.int Z.1)) Z.2) args s (Z.2.2.1 - s.heap.size) (Z.2.2.2 - k1) (fun q => z ≤ q)) (F0 m pc ls [.int v]) := fun v M H locs cells slots ls pc hdg hf hI => x_retn S hK hG hI hr hlocks hdg hf
  have hR : Z.2.2.1 - s.heap.size ≤ (headSpec w_Name_foldsLikeOneOf { frames := 2, cells := Z.2.2.1 - s.heap.size, slots := Z.2.2.2 - k1, locals := 47 }).room.cells ∧ Z.2.2.2 - k1 ≤ (headSpec w_Name_foldsLikeOneOf { frames := 2, cells := Z.2.2.1 - s.heap.size, slots := Z.2.2.2 - k1, locals := 47 }).room.slots := ⟨Nat.le_refl _, Nat.le_refl _⟩
  have hRf : 2 ≤ (headSpec w_Name_foldsLikeOneOf { frames := 2, cells := Z.2.2.1 - s.heap.size, slots := Z.2.2.2 - k1, locals := 47 }).room.frames ∧ 47 ≤ (headSpec w_Name_foldsLikeOneOf { frames := 2, cells := Z.2.2.1 - s.heap.size, slots := Z.2.2.2 - k1, locals := 47 }).room.locals := ⟨Nat.le_refl _, Nat.le_refl _⟩
  generalize (headSpec w_Name_foldsLikeOneOf { frames := 2, cells := Z.2.2.1 - s.heap.size, slots := Z.2.2.2 - k1, locals := 47 }).room = R at hret hR hRf ⊢
  generalize (MQ below (hm_Q D dA hCl (hTy dA) sT aK aV z (some (.int Z.1)) Z.2) args s (Z.2.2.1 - s.heap.size) (Z.2.2.2 - k1) (fun q => z ≤ q)) = Q at hret ⊢
  rw [e_Name_foldsLikeOneOf] at hf
  have w2 : ∀ (n : Nat) (x3 : Int32) (M : hM) (H : Heap) (locs : List Loc) (ls : Array Slot) (cells slots : Nat), (f_Name_foldsLikeOneOf_2 N h0 p0 p1  n x3).1 M = some Z → hm_I D dA hCl z k1 s M H locs cells slots → lv_has ls 4 [(0, .ref h0), (1, va_rf p0), (2, .int p1), (3, .int x3)] → W p l e R s m args below meth c H locs cells slots Q (F0 m 2 ls []) := by
    intro n
    induction n with
    | zero => intro x3 M H locs ls cells slots hf hI hl; cases hf
    | succ n2 ih2 =>
      intro x3 M H locs ls cells slots hf hI hl
      rw [e_Name_foldsLikeOneOf_2] at hf
      refine lv_iload_n S.1 S.2.1 d_Name_foldsLikeOneOf_2 rfl (lv_at hl 3 rfl) ?_
      refine lv_iload_n S.1 S.2.1 d_Name_foldsLikeOneOf_3 rfl (lv_at hl 2 rfl) ?_
      refine lv_icmp_ge (tgt := 31) S.1 S.2.1 d_Name_foldsLikeOneOf_4 (by decide) (fun hc => ?_) (fun hc => ?_)
      · have hf := b_if_t hc hf
        refine lv_iconst (v := 0) S.1 S.2.1 d_Name_foldsLikeOneOf_31 (by decide) ?_
        exact hret _ _ _ _ _ _ _ _ d_Name_foldsLikeOneOf_32 hf hI
      · have hf := b_if_f hc hf
        refine lv_iload_n S.1 S.2.1 d_Name_foldsLikeOneOf_7 rfl (lv_at hl 3 rfl) ?_
        refine x_aload_n (r := p0) S d_Name_foldsLikeOneOf_8 rfl (lv_at hl 1 rfl) ?_
        obtain ⟨a1, ea1, hg⟩ := b_nn_inv hf
        have hI0 := hI
        have hl0 := hl
        clear hf hI hl
        subst ea1
        have hf := hg
        have hI := hI0
        have hl := hl0
        clear hg hI0 hl0
        refine x_len (t := 3) S hK hI rfl d_Name_foldsLikeOneOf_9 hf (fun v2 hf => ?_)
        refine lv_icmp_ge (tgt := 31) S.1 S.2.1 d_Name_foldsLikeOneOf_10 (by decide) (fun hc => ?_) (fun hc => ?_)
        · have hf := b_if_t hc hf
          refine lv_iconst (v := 0) S.1 S.2.1 d_Name_foldsLikeOneOf_31 (by decide) ?_
          exact hret _ _ _ _ _ _ _ _ d_Name_foldsLikeOneOf_32 hf hI
        · have hf := b_if_f hc hf
          refine lv_aload_n S.1 S.2.1 d_Name_foldsLikeOneOf_13 rfl (lv_at hl 0 rfl) ?_
          refine lv_aload_n S.1 S.2.1 d_Name_foldsLikeOneOf_14 rfl (lv_at hl 1 rfl) ?_
          refine lv_iload_n S.1 S.2.1 d_Name_foldsLikeOneOf_15 rfl (lv_at hl 3 rfl) ?_
          refine x_aald (t := 3) S hK hI rfl d_Name_foldsLikeOneOf_16 hf (fun r3 hf => ?_)
          obtain ⟨⟨fs7, hefs7⟩, hf⟩ := b_is_inv hf
          obtain ⟨v4, N5, hg6, hf⟩ := b_call_inv hf
          refine x_call hI (hm_mo hg6) (va_runV (As := [va_rf r3]) (rest := []) S (c_Name_order l hg6) (cwV 1 S.2.2.2.2 (gi_V wd_72 wd_73 wd_74 wd_75 wd_76) rfl rfl rfl (by decide +kernel) ⟨Nat.le_trans (Nat.le_of_ble_eq_true rfl) hRf.1, Nat.le_trans (Nat.le_of_ble_eq_true rfl) hRf.2⟩) ⟨hm_B.blind, va_recv hK (hI.1.one hefs7) (ci := 2) (q0 := 0) rfl rfl, fun U hU hW => ⟨rfl, hm_B.of hK hG hI hU hW⟩⟩ rfl rfl hl.1 rfl (lv_room (Nat.le_of_ble_eq_true rfl)) d_Name_foldsLikeOneOf_17 (hx_fit hI hR (hm_mo hg6) (hm_mo hf))) (fun H locs cells slots hI => ?_)
          refine W.eq (g2 := F0 m 20 ls [.int v4]) rfl ?_
          refine lv_if_ne (tgt := 25) S.1 S.2.1 d_Name_foldsLikeOneOf_20 (by decide) (fun hc => ?_) (fun hc => ?_)
          · have hf := b_if_f hc hf
            refine x_iinc (v := 1) (lv2 := [(0, .ref h0), (1, .ref a1), (2, .int p1)]) S d_Name_foldsLikeOneOf_25 hl 3 rfl (by decide) (by decide) [0, 1, 2] rfl ⟨⟨(by decide : (0 : Nat) ≠ 3), fun h => absurd (show (0 : Nat) + 1 = 3 from h) (by decide)⟩, ⟨⟨(by decide : (1 : Nat) ≠ 3), fun h => absurd (show (1 : Nat) + 1 = 3 from h) (by decide)⟩, ⟨⟨(by decide : (2 : Nat) ≠ 3), fun _ => rfl⟩, trivial⟩⟩⟩ (fun ls hl => ?_)
            refine lv_goto (tgt := 2) S.1 S.2.1 d_Name_foldsLikeOneOf_28 (by decide) ?_
            exact ih2 (x3 + 1) _ _ _ _ _ _ hf hI (lv_sub hl [1, 2, 3, 0] rfl)
          · have hf := b_if_t hc hf
            refine lv_iconst (v := 1) S.1 S.2.1 d_Name_foldsLikeOneOf_23 (by decide) ?_
            exact hret _ _ _ _ _ _ _ _ d_Name_foldsLikeOneOf_24 hf hI
  refine lv_iconst (v := 0) S.1 S.2.1 d_Name_foldsLikeOneOf_0 (by decide) ?_
  refine x_istore_n (lv2 := [(0, .ref h0), (1, va_rf p0), (2, .int p1)]) S d_Name_foldsLikeOneOf_1 rfl hl (by decide) [0, 1, 2] rfl ⟨⟨(by decide : (0 : Nat) ≠ 3), fun h => absurd (show (0 : Nat) + 1 = 3 from h) (by decide)⟩, ⟨⟨(by decide : (1 : Nat) ≠ 3), fun h => absurd (show (1 : Nat) + 1 = 3 from h) (by decide)⟩, ⟨⟨(by decide : (2 : Nat) ≠ 3), fun _ => rfl⟩, trivial⟩⟩⟩ (fun ls hl => ?_)
  exact w2 N 0 _ _ _ _ _ _ hf hI (lv_sub hl [1, 2, 3, 0] rfl)
set_option maxHeartbeats 4000000 in
set_option maxRecDepth 100000 in
theorem c_Scan_refuse (l : Launch) {D : va_G} {dA : Nat → ClassId} {aK aV : Nat → Nat} {z : Nat} {N : Nat} {h0 : Nat} {p0 : Int32} {M : hM} {Z : Int32 × hM} (hf : (f_Scan_refuse N h0 p0).1 M = some Z) : Met l y_Scan_refuse w_Scan_refuse ({ frames := 0, cells := Z.2.2.1 - M.2.1, slots := Z.2.2.2 - M.2.2, locals := 0 }) (va_Pc [.ref h0, .int p0] (hm_B D dA hCl (hTy dA) sT aK aV z M)) (hm_Q D dA hCl (hTy dA) sT aK aV z (some (.int Z.1)) Z.2) (Z.2.2.1 - M.2.1) (Z.2.2.2 - M.2.2) (fun q => z ≤ q) := by
  refine Met.ofW (cc := b_Scan_refuse) (maxL := 2) (ret := (some .boolean)) (by decide) rfl ?_
  intro p e s m args below meth c s₁ B hml hv
  obtain ⟨hav, hB⟩ := hv
  have S : CallFix p m c b_Scan_refuse 2 s args w_Scan_refuse R_Scan := ⟨B.exec, B.bytes, hml, findClass_of_methodNamed B.named, atoms_spec (ws := w_Scan_refuse) B.pre⟩
  have hr : meth.sig.returnType = (some .boolean) := B.returns
  have hlocks := B.notSynchronized
  have hK := hB.2.2.1
  have hG := hB.2.2.2.2.2
  have hI := hm_I.start hB
  rw [← hB.2.1]
  generalize M.2.2 = k1 at hI ⊢
  refine W.eq (g2 := F0 m 0 ((lg_sl ([.ref h0, .int p0]) ++ List.replicate (2 - (lg_sl ([.ref h0, .int p0])).length) Slot.unset).toArray) []) (by rw [hav]; exact lg_entry_eq m ([.ref h0, .int p0]) 2) ?_
  have hl := lv_entry ([.ref h0, .int p0]) (n := 2) (Nat.le_of_ble_eq_true rfl)
  generalize (lg_sl ([.ref h0, .int p0]) ++ List.replicate (2 - (lg_sl ([.ref h0, .int p0])).length) Slot.unset).toArray = ls at hl ⊢
  simp only [lvA_nil, lvA_i, lvA_l, lvA_a, lvA_r, Nat.zero_add, Nat.reduceAdd] at hl
  have hret : ∀ (v : Int32) (M : hM) (H : Heap) (locs : List Loc) (cells slots : Nat) (ls : Array Slot) (pc : Nat), decode b_Scan_refuse pc = .ok (.ireturn, 1) → (b_retN .boolean v).1 M = some Z → hm_I D dA hCl z k1 s M H locs cells slots → W p l e (headSpec w_Scan_refuse { frames := 0, cells := Z.2.2.1 - s.heap.size, slots := Z.2.2.2 - k1, locals := 0 }).room s m args below meth c H locs cells slots (MQ below (hm_Q D dA hCl (hTy dA) sT aK aV z (some (.int Z.1)) Z.2) args s (Z.2.2.1 - s.heap.size) (Z.2.2.2 - k1) (fun q => z ≤ q)) (F0 m pc ls [.int v]) := fun v M H locs cells slots ls pc hdg hf hI => x_retn S hK hG hI hr hlocks hdg hf
  have hR : Z.2.2.1 - s.heap.size ≤ (headSpec w_Scan_refuse { frames := 0, cells := Z.2.2.1 - s.heap.size, slots := Z.2.2.2 - k1, locals := 0 }).room.cells ∧ Z.2.2.2 - k1 ≤ (headSpec w_Scan_refuse { frames := 0, cells := Z.2.2.1 - s.heap.size, slots := Z.2.2.2 - k1, locals := 0 }).room.slots := ⟨Nat.le_refl _, Nat.le_refl _⟩
  have hRf : 0 ≤ (headSpec w_Scan_refuse { frames := 0, cells := Z.2.2.1 - s.heap.size, slots := Z.2.2.2 - k1, locals := 0 }).room.frames ∧ 0 ≤ (headSpec w_Scan_refuse { frames := 0, cells := Z.2.2.1 - s.heap.size, slots := Z.2.2.2 - k1, locals := 0 }).room.locals := ⟨Nat.le_refl _, Nat.le_refl _⟩
  generalize (headSpec w_Scan_refuse { frames := 0, cells := Z.2.2.1 - s.heap.size, slots := Z.2.2.2 - k1, locals := 0 }).room = R at hret hR hRf ⊢
  generalize (MQ below (hm_Q D dA hCl (hTy dA) sT aK aV z (some (.int Z.1)) Z.2) args s (Z.2.2.1 - s.heap.size) (Z.2.2.2 - k1) (fun q => z ≤ q)) = Q at hret ⊢
  rw [e_Scan_refuse] at hf
  refine lv_aload_n S.1 S.2.1 d_Scan_refuse_0 rfl (lv_at hl 0 rfl) ?_
  refine lv_iload_n S.1 S.2.1 d_Scan_refuse_1 rfl (lv_at hl 1 rfl) ?_
  refine x_put (ci := 8) (k := 3) S hK hI (fun w h => List.mem_cons_of_mem _ (i_Scan w h)) t_Scan t_Scan_ok n_Scan rfl (by decide) (List.mem_cons_of_mem _ wd_55) rfl (Or.inl rfl) (by rfl) rfl d_Scan_refuse_2 hf (fun M H locs hf hI => ?_)
  refine lv_iconst (v := 0) S.1 S.2.1 d_Scan_refuse_5 (by decide) ?_
  exact hret _ _ _ _ _ _ _ _ d_Scan_refuse_6 hf hI
set_option maxHeartbeats 4000000 in
set_option maxRecDepth 100000 in
theorem c_Reader_defaultsStand (l : Launch) {D : va_G} {dA : Nat → ClassId} {aK aV : Nat → Nat} {z : Nat} {N : Nat} {h0 : Nat} {M : hM} {Z : Int32 × hM} (hf : (f_Reader_defaultsStand N h0 ).1 M = some Z) : Met l y_Reader_defaultsStand w_Reader_defaultsStand ({ frames := 3, cells := Z.2.2.1 - M.2.1, slots := Z.2.2.2 - M.2.2, locals := 70 }) (va_Pc [.ref h0] (hm_B D dA hCl (hTy dA) sT aK aV z M)) (hm_Q D dA hCl (hTy dA) sT aK aV z (some (.int Z.1)) Z.2) (Z.2.2.1 - M.2.1) (Z.2.2.2 - M.2.2) (fun q => z ≤ q) := by
  refine Met.ofW (cc := b_Reader_defaultsStand) (maxL := 2) (ret := (some .boolean)) (by decide) rfl ?_
  intro p e s m args below meth c s₁ B hml hv
  obtain ⟨hav, hB⟩ := hv
  have S : CallFix p m c b_Reader_defaultsStand 2 s args w_Reader_defaultsStand R_Reader := ⟨B.exec, B.bytes, hml, findClass_of_methodNamed B.named, atoms_spec (ws := w_Reader_defaultsStand) B.pre⟩
  have hr : meth.sig.returnType = (some .boolean) := B.returns
  have hlocks := B.notSynchronized
  have hK := hB.2.2.1
  have hG := hB.2.2.2.2.2
  have hI := hm_I.start hB
  rw [← hB.2.1]
  generalize M.2.2 = k1 at hI ⊢
  refine W.eq (g2 := F0 m 0 ((lg_sl ([.ref h0]) ++ List.replicate (2 - (lg_sl ([.ref h0])).length) Slot.unset).toArray) []) (by rw [hav]; exact lg_entry_eq m ([.ref h0]) 2) ?_
  have hl := lv_entry ([.ref h0]) (n := 2) (Nat.le_of_ble_eq_true rfl)
  generalize (lg_sl ([.ref h0]) ++ List.replicate (2 - (lg_sl ([.ref h0])).length) Slot.unset).toArray = ls at hl ⊢
  simp only [lvA_nil, lvA_i, lvA_l, lvA_a, lvA_r, Nat.zero_add, Nat.reduceAdd] at hl
  have hret : ∀ (v : Int32) (M : hM) (H : Heap) (locs : List Loc) (cells slots : Nat) (ls : Array Slot) (pc : Nat), decode b_Reader_defaultsStand pc = .ok (.ireturn, 1) → (b_retN .boolean v).1 M = some Z → hm_I D dA hCl z k1 s M H locs cells slots → W p l e (headSpec w_Reader_defaultsStand { frames := 3, cells := Z.2.2.1 - s.heap.size, slots := Z.2.2.2 - k1, locals := 70 }).room s m args below meth c H locs cells slots (MQ below (hm_Q D dA hCl (hTy dA) sT aK aV z (some (.int Z.1)) Z.2) args s (Z.2.2.1 - s.heap.size) (Z.2.2.2 - k1) (fun q => z ≤ q)) (F0 m pc ls [.int v]) := fun v M H locs cells slots ls pc hdg hf hI => x_retn S hK hG hI hr hlocks hdg hf
  have hR : Z.2.2.1 - s.heap.size ≤ (headSpec w_Reader_defaultsStand { frames := 3, cells := Z.2.2.1 - s.heap.size, slots := Z.2.2.2 - k1, locals := 70 }).room.cells ∧ Z.2.2.2 - k1 ≤ (headSpec w_Reader_defaultsStand { frames := 3, cells := Z.2.2.1 - s.heap.size, slots := Z.2.2.2 - k1, locals := 70 }).room.slots := ⟨Nat.le_refl _, Nat.le_refl _⟩
  have hRf : 3 ≤ (headSpec w_Reader_defaultsStand { frames := 3, cells := Z.2.2.1 - s.heap.size, slots := Z.2.2.2 - k1, locals := 70 }).room.frames ∧ 70 ≤ (headSpec w_Reader_defaultsStand { frames := 3, cells := Z.2.2.1 - s.heap.size, slots := Z.2.2.2 - k1, locals := 70 }).room.locals := ⟨Nat.le_refl _, Nat.le_refl _⟩
  generalize (headSpec w_Reader_defaultsStand { frames := 3, cells := Z.2.2.1 - s.heap.size, slots := Z.2.2.2 - k1, locals := 70 }).room = R at hret hR hRf ⊢
  generalize (MQ below (hm_Q D dA hCl (hTy dA) sT aK aV z (some (.int Z.1)) Z.2) args s (Z.2.2.1 - s.heap.size) (Z.2.2.2 - k1) (fun q => z ≤ q)) = Q at hret ⊢
  rw [e_Reader_defaultsStand] at hf
  have w2 : ∀ (n : Nat) (x1 : Int32) (M : hM) (H : Heap) (locs : List Loc) (ls : Array Slot) (cells slots : Nat), (f_Reader_defaultsStand_2 N h0  n x1).1 M = some Z → hm_I D dA hCl z k1 s M H locs cells slots → lv_has ls 2 [(0, .ref h0), (1, .int x1)] → W p l e R s m args below meth c H locs cells slots Q (F0 m 2 ls []) := by
    intro n
    induction n with
    | zero => intro x1 M H locs ls cells slots hf hI hl; cases hf
    | succ n2 ih2 =>
      intro x1 M H locs ls cells slots hf hI hl
      rw [e_Reader_defaultsStand_2] at hf
      obtain ⟨J61, eJ61, hf⟩ := b_let_inv hf
      have w61 : ∀ (x1 : Int32) (M : hM) (H : Heap) (locs : List Loc) (ls : Array Slot) (cells slots : Nat), (J61 x1).1 M = some Z → hm_I D dA hCl z k1 s M H locs cells slots → lv_has ls 2 [(0, .ref h0), (1, .int x1)] → W p l e R s m args below meth c H locs cells slots Q (F0 m 61 ls []) := by
        intro x1 M H locs ls cells slots hf hI hl
        rw [eJ61] at hf
        refine x_iinc (v := 1) (lv2 := [(0, .ref h0)]) S d_Reader_defaultsStand_61 hl 1 rfl (by decide) (by decide) [0] rfl ⟨⟨(by decide : (0 : Nat) ≠ 1), fun _ => rfl⟩, trivial⟩ (fun ls hl => ?_)
        refine lv_goto (tgt := 2) S.1 S.2.1 d_Reader_defaultsStand_64 (by decide) ?_
        exact ih2 (x1 + 1) _ _ _ _ _ _ hf hI (lv_sub hl [1, 0] rfl)
      refine lv_iload_n S.1 S.2.1 d_Reader_defaultsStand_2 rfl (lv_at hl 1 rfl) ?_
      refine lv_aload_n S.1 S.2.1 d_Reader_defaultsStand_3 rfl (lv_at hl 0 rfl) ?_
      refine x_getI (ci := 6) (k := 3) S hK hI (fun w h => List.mem_cons_of_mem _ (i_Reader w h)) rfl (by decide) (List.mem_cons_of_mem _ wd_62) rfl d_Reader_defaultsStand_4 hf (fun v1 hf => ?_)
      refine lv_icmp_ge (tgt := 67) S.1 S.2.1 d_Reader_defaultsStand_7 (by decide) (fun hc => ?_) (fun hc => ?_)
      · have hf := b_if_t hc hf
        refine lv_iconst (v := 1) S.1 S.2.1 d_Reader_defaultsStand_67 (by decide) ?_
        exact hret _ _ _ _ _ _ _ _ d_Reader_defaultsStand_68 hf hI
      · have hf := b_if_f hc hf
        refine lv_aload_n S.1 S.2.1 d_Reader_defaultsStand_10 rfl (lv_at hl 0 rfl) ?_
        refine x_getR (ci := 6) (k := 1) S hK hI (fun w h => List.mem_cons_of_mem _ (i_Reader w h)) rfl (by decide) (List.mem_cons_of_mem _ wd_17) rfl d_Reader_defaultsStand_11 hf (fun r2 hf => ?_)
        refine lv_iload_n S.1 S.2.1 d_Reader_defaultsStand_14 rfl (lv_at hl 1 rfl) ?_
        obtain ⟨a3, ea3, hg⟩ := b_nn_inv hf
        have hI0 := hI
        have hl0 := hl
        clear hf hI hl
        subst ea3
        have hf := hg
        have hI := hI0
        have hl := hl0
        clear hg hI0 hl0
        refine x_aald (t := 1) S hK hI rfl d_Reader_defaultsStand_15 hf (fun r4 hf => ?_)
        obtain ⟨a5, ea5, hg⟩ := b_nn_inv hf
        have hI0 := hI
        have hl0 := hl
        clear hf hI hl
        subst ea5
        have hf := hg
        have hI := hI0
        have hl := hl0
        clear hg hI0 hl0
        refine x_getI (ci := 7) (k := 0) S hK hI (fun w h => List.mem_cons_of_mem _ (i_Row w h)) rfl (by decide) (List.mem_cons_of_mem _ wd_63) rfl d_Reader_defaultsStand_16 hf (fun v6 hf => ?_)
        refine lv_bipush (v := 10) S.1 S.2.1 d_Reader_defaultsStand_19 (by decide) ?_
        refine lv_icmp_ne (tgt := 61) S.1 S.2.1 d_Reader_defaultsStand_21 (by decide) (fun hc => ?_) (fun hc => ?_)
        · have hf := b_if_f hc hf
          exact w61 x1 _ _ _ _ _ _ hf hI (lv_sub hl [0, 1] rfl)
        · have hf := b_if_t hc hf
          refine lv_aload_n S.1 S.2.1 d_Reader_defaultsStand_24 rfl (lv_at hl 0 rfl) ?_
          refine x_getR (ci := 6) (k := 1) S hK hI (fun w h => List.mem_cons_of_mem _ (i_Reader w h)) rfl (by decide) (List.mem_cons_of_mem _ wd_17) rfl d_Reader_defaultsStand_25 hf (fun r7 hf => ?_)
          refine lv_iload_n S.1 S.2.1 d_Reader_defaultsStand_28 rfl (lv_at hl 1 rfl) ?_
          obtain ⟨a8, ea8, hg⟩ := b_nn_inv hf
          have hI0 := hI
          have hl0 := hl
          clear hf hI hl
          subst ea8
          have hf := hg
          have hI := hI0
          have hl := hl0
          clear hg hI0 hl0
          refine x_aald (t := 1) S hK hI rfl d_Reader_defaultsStand_29 hf (fun r9 hf => ?_)
          obtain ⟨a10, ea10, hg⟩ := b_nn_inv hf
          have hI0 := hI
          have hl0 := hl
          clear hf hI hl
          subst ea10
          have hf := hg
          have hI := hI0
          have hl := hl0
          clear hg hI0 hl0
          refine x_getR (ci := 7) (k := 2) S hK hI (fun w h => List.mem_cons_of_mem _ (i_Row w h)) rfl (by decide) (List.mem_cons_of_mem _ wd_64) rfl d_Reader_defaultsStand_30 hf (fun r11 hf => ?_)
          refine lv_aload_n S.1 S.2.1 d_Reader_defaultsStand_33 rfl (lv_at hl 0 rfl) ?_
          refine x_getR (ci := 6) (k := 4) S hK hI (fun w h => List.mem_cons_of_mem _ (i_Reader w h)) rfl (by decide) (List.mem_cons_of_mem _ wd_21) rfl d_Reader_defaultsStand_34 hf (fun r12 hf => ?_)
          refine lv_aload_n S.1 S.2.1 d_Reader_defaultsStand_37 rfl (lv_at hl 0 rfl) ?_
          refine x_getI (ci := 6) (k := 5) S hK hI (fun w h => List.mem_cons_of_mem _ (i_Reader w h)) rfl (by decide) (List.mem_cons_of_mem _ wd_65) rfl d_Reader_defaultsStand_38 hf (fun v13 hf => ?_)
          obtain ⟨a14, ea14, hg⟩ := b_nn_inv hf
          have hI0 := hI
          have hl0 := hl
          clear hf hI hl
          subst ea14
          have hf := hg
          have hI := hI0
          have hl := hl0
          clear hg hI0 hl0
          obtain ⟨⟨fs18, hefs18⟩, hf⟩ := b_is_inv hf
          obtain ⟨v15, N16, hg17, hf⟩ := b_call_inv hf
          refine x_call hI (hm_mo hg17) (va_runV (As := [va_rf r12, .int v13]) (rest := []) S (c_Name_foldsLikeOneOf l hg17) (cwV 2 S.2.2.2.2 (gi_V wd_77 wd_78 wd_79 wd_75 wd_80) rfl rfl rfl (by decide +kernel) ⟨Nat.le_trans (Nat.le_of_ble_eq_true rfl) hRf.1, Nat.le_trans (Nat.le_of_ble_eq_true rfl) hRf.2⟩) ⟨hm_B.blind, va_recv hK (hI.1.one hefs18) (ci := 2) (q0 := 0) rfl rfl, fun U hU hW => ⟨rfl, hm_B.of hK hG hI hU hW⟩⟩ rfl rfl hl.1 rfl (lv_room (Nat.le_of_ble_eq_true rfl)) d_Reader_defaultsStand_41 (hx_fit hI hR (hm_mo hg17) (hm_mo hf))) (fun H locs cells slots hI => ?_)
          refine W.eq (g2 := F0 m 44 ls [.int v15]) rfl ?_
          refine lv_if_ne (tgt := 61) S.1 S.2.1 d_Reader_defaultsStand_44 (by decide) (fun hc => ?_) (fun hc => ?_)
          · have hf := b_if_f hc hf
            exact w61 x1 _ _ _ _ _ _ hf hI (lv_sub hl [0, 1] rfl)
          · have hf := b_if_t hc hf
            refine lv_aload_n S.1 S.2.1 d_Reader_defaultsStand_47 rfl (lv_at hl 0 rfl) ?_
            refine x_getR (ci := 6) (k := 0) S hK hI (fun w h => List.mem_cons_of_mem _ (i_Reader w h)) rfl (by decide) (List.mem_cons_of_mem _ wd_15) rfl d_Reader_defaultsStand_48 hf (fun r19 hf => ?_)
            refine lv_aload_n S.1 S.2.1 d_Reader_defaultsStand_51 rfl (lv_at hl 0 rfl) ?_
            refine x_getR (ci := 6) (k := 2) S hK hI (fun w h => List.mem_cons_of_mem _ (i_Reader w h)) rfl (by decide) (List.mem_cons_of_mem _ wd_19) rfl d_Reader_defaultsStand_52 hf (fun r20 hf => ?_)
            refine lv_iload_n S.1 S.2.1 d_Reader_defaultsStand_55 rfl (lv_at hl 1 rfl) ?_
            obtain ⟨a21, ea21, hg⟩ := b_nn_inv hf
            have hI0 := hI
            have hl0 := hl
            clear hf hI hl
            subst ea21
            have hf := hg
            have hI := hI0
            have hl := hl0
            clear hg hI0 hl0
            refine x_iald (t := 2) S hK hI rfl d_Reader_defaultsStand_56 hf (fun v22 hf => ?_)
            obtain ⟨a23, ea23, hg⟩ := b_nn_inv hf
            have hI0 := hI
            have hl0 := hl
            clear hf hI hl
            subst ea23
            have hf := hg
            have hI := hI0
            have hl := hl0
            clear hg hI0 hl0
            obtain ⟨⟨fs27, hefs27⟩, hf⟩ := b_is_inv hf
            obtain ⟨v24, N25, hg26, hf⟩ := b_call_inv hf
            refine x_call hI (hm_mo hg26) (va_runV (As := [.int v22]) (rest := []) S (c_Scan_refuse l hg26) (cwV 1 S.2.2.2.2 (gi_V wd_81 wd_82 wd_83 wd_9 wd_84) rfl rfl rfl (by decide +kernel) ⟨Nat.le_trans (Nat.le_of_ble_eq_true rfl) hRf.1, Nat.le_trans (Nat.le_of_ble_eq_true rfl) hRf.2⟩) ⟨hm_B.blind, va_recv hK (hI.1.one hefs27) (ci := 8) (q0 := 0) rfl rfl, fun U hU hW => ⟨rfl, hm_B.of hK hG hI hU hW⟩⟩ rfl rfl hl.1 rfl (lv_room (Nat.le_of_ble_eq_true rfl)) d_Reader_defaultsStand_57 (hx_fit hI hR (hm_mo hg26) (hm_mo hf))) (fun H locs cells slots hI => ?_)
            refine W.eq (g2 := F0 m 60 ls [.int v24]) rfl ?_
            exact hret _ _ _ _ _ _ _ _ d_Reader_defaultsStand_60 hf hI
  refine lv_iconst (v := 0) S.1 S.2.1 d_Reader_defaultsStand_0 (by decide) ?_
  refine x_istore_n (lv2 := [(0, .ref h0)]) S d_Reader_defaultsStand_1 rfl hl (by decide) [0] rfl ⟨⟨(by decide : (0 : Nat) ≠ 1), fun _ => rfl⟩, trivial⟩ (fun ls hl => ?_)
  exact w2 N 0 _ _ _ _ _ _ hf hI (lv_sub hl [1, 0] rfl)
set_option maxHeartbeats 4000000 in
set_option maxRecDepth 100000 in
theorem c_Scan_skipBlanks (l : Launch) {D : va_G} {dA : Nat → ClassId} {aK aV : Nat → Nat} {z : Nat} {N : Nat} {h0 : Nat} {M : hM} {Z : Unit × hM} (hf : (f_Scan_skipBlanks N h0 ).1 M = some Z) : Met l y_Scan_skipBlanks w_Scan_skipBlanks ({ frames := 0, cells := Z.2.2.1 - M.2.1, slots := Z.2.2.2 - M.2.2, locals := 0 }) (va_Pc [.ref h0] (hm_B D dA hCl (hTy dA) sT aK aV z M)) (hm_Q D dA hCl (hTy dA) sT aK aV z none Z.2) (Z.2.2.1 - M.2.1) (Z.2.2.2 - M.2.2) (fun q => z ≤ q) := by
  refine Met.ofW (cc := b_Scan_skipBlanks) (maxL := 1) (ret := none) (by decide) rfl ?_
  intro p e s m args below meth c s₁ B hml hv
  obtain ⟨hav, hB⟩ := hv
  have S : CallFix p m c b_Scan_skipBlanks 1 s args w_Scan_skipBlanks R_Scan := ⟨B.exec, B.bytes, hml, findClass_of_methodNamed B.named, atoms_spec (ws := w_Scan_skipBlanks) B.pre⟩
  have hr : meth.sig.returnType = none := B.returns
  have hlocks := B.notSynchronized
  have hK := hB.2.2.1
  have hG := hB.2.2.2.2.2
  have hI := hm_I.start hB
  rw [← hB.2.1]
  generalize M.2.2 = k1 at hI ⊢
  refine W.eq (g2 := F0 m 0 ((lg_sl ([.ref h0]) ++ List.replicate (1 - (lg_sl ([.ref h0])).length) Slot.unset).toArray) []) (by rw [hav]; exact lg_entry_eq m ([.ref h0]) 1) ?_
  have hl := lv_entry ([.ref h0]) (n := 1) (Nat.le_of_ble_eq_true rfl)
  generalize (lg_sl ([.ref h0]) ++ List.replicate (1 - (lg_sl ([.ref h0])).length) Slot.unset).toArray = ls at hl ⊢
  simp only [lvA_nil, lvA_i, lvA_l, lvA_a, lvA_r, Nat.zero_add, Nat.reduceAdd] at hl
  have hret : ∀ (M : hM) (H : Heap) (locs : List Loc) (cells slots : Nat) (ls : Array Slot) (pc : Nat), decode b_Scan_skipBlanks pc = .ok (.return_, 1) → (b_ret ()).1 M = some Z → hm_I D dA hCl z k1 s M H locs cells slots → W p l e (headSpec w_Scan_skipBlanks { frames := 0, cells := Z.2.2.1 - s.heap.size, slots := Z.2.2.2 - k1, locals := 0 }).room s m args below meth c H locs cells slots (MQ below (hm_Q D dA hCl (hTy dA) sT aK aV z none Z.2) args s (Z.2.2.1 - s.heap.size) (Z.2.2.2 - k1) (fun q => z ≤ q)) (F0 m pc ls []) := fun M H locs cells slots ls pc hdg hf hI => x_retv S hK hG hI hr hlocks hdg hf
  have hR : Z.2.2.1 - s.heap.size ≤ (headSpec w_Scan_skipBlanks { frames := 0, cells := Z.2.2.1 - s.heap.size, slots := Z.2.2.2 - k1, locals := 0 }).room.cells ∧ Z.2.2.2 - k1 ≤ (headSpec w_Scan_skipBlanks { frames := 0, cells := Z.2.2.1 - s.heap.size, slots := Z.2.2.2 - k1, locals := 0 }).room.slots := ⟨Nat.le_refl _, Nat.le_refl _⟩
  have hRf : 0 ≤ (headSpec w_Scan_skipBlanks { frames := 0, cells := Z.2.2.1 - s.heap.size, slots := Z.2.2.2 - k1, locals := 0 }).room.frames ∧ 0 ≤ (headSpec w_Scan_skipBlanks { frames := 0, cells := Z.2.2.1 - s.heap.size, slots := Z.2.2.2 - k1, locals := 0 }).room.locals := ⟨Nat.le_refl _, Nat.le_refl _⟩
  generalize (headSpec w_Scan_skipBlanks { frames := 0, cells := Z.2.2.1 - s.heap.size, slots := Z.2.2.2 - k1, locals := 0 }).room = R at hret hR hRf ⊢
  generalize (MQ below (hm_Q D dA hCl (hTy dA) sT aK aV z none Z.2) args s (Z.2.2.1 - s.heap.size) (Z.2.2.2 - k1) (fun q => z ≤ q)) = Q at hret ⊢
  rw [e_Scan_skipBlanks] at hf
  have w0 : ∀ (n : Nat)  (M : hM) (H : Heap) (locs : List Loc) (ls : Array Slot) (cells slots : Nat), (f_Scan_skipBlanks_0 N h0  n).1 M = some Z → hm_I D dA hCl z k1 s M H locs cells slots → lv_has ls 1 [(0, .ref h0)] → W p l e R s m args below meth c H locs cells slots Q (F0 m 0 ls []) := by
    intro n
    induction n with
    | zero => intro M H locs ls cells slots hf hI hl; cases hf
    | succ n0 ih0 =>
      intro M H locs ls cells slots hf hI hl
      rw [e_Scan_skipBlanks_0] at hf
      obtain ⟨J39, eJ39, hf⟩ := b_let_inv hf
      have w39 : ∀  (M : hM) (H : Heap) (locs : List Loc) (ls : Array Slot) (cells slots : Nat), (J39).1 M = some Z → hm_I D dA hCl z k1 s M H locs cells slots → lv_has ls 1 [(0, .ref h0)] → W p l e R s m args below meth c H locs cells slots Q (F0 m 39 ls []) := by
        intro M H locs ls cells slots hf hI hl
        rw [eJ39] at hf
        refine lv_aload_n S.1 S.2.1 d_Scan_skipBlanks_39 rfl (lv_at hl 0 rfl) ?_
        refine lv_dup S.1 S.2.1 d_Scan_skipBlanks_40 rfl ?_
        refine x_getI (ci := 8) (k := 2) S hK hI (fun w h => List.mem_cons_of_mem _ (i_Scan w h)) rfl (by decide) (List.mem_cons_of_mem _ wd_54) rfl d_Scan_skipBlanks_41 hf (fun v1 hf => ?_)
        refine lv_iconst (v := 1) S.1 S.2.1 d_Scan_skipBlanks_44 (by decide) ?_
        refine lv_iadd S.1 S.2.1 d_Scan_skipBlanks_45 ?_
        refine x_put (ci := 8) (k := 2) S hK hI (fun w h => List.mem_cons_of_mem _ (i_Scan w h)) t_Scan t_Scan_ok n_Scan rfl (by decide) (List.mem_cons_of_mem _ wd_54) rfl (Or.inl rfl) (by rfl) rfl d_Scan_skipBlanks_46 hf (fun M H locs hf hI => ?_)
        refine lv_goto (tgt := 0) S.1 S.2.1 d_Scan_skipBlanks_49 (by decide) ?_
        exact ih0  _ _ _ _ _ _ hf hI (lv_sub hl [0] rfl)
      refine lv_aload_n S.1 S.2.1 d_Scan_skipBlanks_0 rfl (lv_at hl 0 rfl) ?_
      refine x_getI (ci := 8) (k := 2) S hK hI (fun w h => List.mem_cons_of_mem _ (i_Scan w h)) rfl (by decide) (List.mem_cons_of_mem _ wd_54) rfl d_Scan_skipBlanks_1 hf (fun v2 hf => ?_)
      refine lv_aload_n S.1 S.2.1 d_Scan_skipBlanks_4 rfl (lv_at hl 0 rfl) ?_
      refine x_getI (ci := 8) (k := 1) S hK hI (fun w h => List.mem_cons_of_mem _ (i_Scan w h)) rfl (by decide) (List.mem_cons_of_mem _ wd_49) rfl d_Scan_skipBlanks_5 hf (fun v3 hf => ?_)
      refine lv_icmp_ge (tgt := 52) S.1 S.2.1 d_Scan_skipBlanks_8 (by decide) (fun hc => ?_) (fun hc => ?_)
      · have hf := b_if_t hc hf
        exact hret _ _ _ _ _ _ _ d_Scan_skipBlanks_52 hf hI
      · have hf := b_if_f hc hf
        refine lv_aload_n S.1 S.2.1 d_Scan_skipBlanks_11 rfl (lv_at hl 0 rfl) ?_
        refine x_getR (ci := 8) (k := 0) S hK hI (fun w h => List.mem_cons_of_mem _ (i_Scan w h)) rfl (by decide) (List.mem_cons_of_mem _ wd_12) rfl d_Scan_skipBlanks_12 hf (fun r4 hf => ?_)
        refine lv_aload_n S.1 S.2.1 d_Scan_skipBlanks_15 rfl (lv_at hl 0 rfl) ?_
        refine x_getI (ci := 8) (k := 2) S hK hI (fun w h => List.mem_cons_of_mem _ (i_Scan w h)) rfl (by decide) (List.mem_cons_of_mem _ wd_54) rfl d_Scan_skipBlanks_16 hf (fun v5 hf => ?_)
        obtain ⟨a6, ea6, hg⟩ := b_nn_inv hf
        have hI0 := hI
        have hl0 := hl
        clear hf hI hl
        subst ea6
        have hf := hg
        have hI := hI0
        have hl := hl0
        clear hg hI0 hl0
        refine x_cald (t := 0) S hK hI rfl d_Scan_skipBlanks_19 hf (fun v7 hf => ?_)
        refine lv_bipush (v := 32) S.1 S.2.1 d_Scan_skipBlanks_20 (by decide) ?_
        refine lv_icmp_eq (tgt := 39) S.1 S.2.1 d_Scan_skipBlanks_22 (by decide) (fun hc => ?_) (fun hc => ?_)
        · have hf := b_if_t hc hf
          exact w39  _ _ _ _ _ _ hf hI (lv_sub hl [0] rfl)
        · have hf := b_if_f hc hf
          refine lv_aload_n S.1 S.2.1 d_Scan_skipBlanks_25 rfl (lv_at hl 0 rfl) ?_
          refine x_getR (ci := 8) (k := 0) S hK hI (fun w h => List.mem_cons_of_mem _ (i_Scan w h)) rfl (by decide) (List.mem_cons_of_mem _ wd_12) rfl d_Scan_skipBlanks_26 hf (fun r8 hf => ?_)
          refine lv_aload_n S.1 S.2.1 d_Scan_skipBlanks_29 rfl (lv_at hl 0 rfl) ?_
          refine x_getI (ci := 8) (k := 2) S hK hI (fun w h => List.mem_cons_of_mem _ (i_Scan w h)) rfl (by decide) (List.mem_cons_of_mem _ wd_54) rfl d_Scan_skipBlanks_30 hf (fun v9 hf => ?_)
          obtain ⟨a10, ea10, hg⟩ := b_nn_inv hf
          have hI0 := hI
          have hl0 := hl
          clear hf hI hl
          subst ea10
          have hf := hg
          have hI := hI0
          have hl := hl0
          clear hg hI0 hl0
          refine x_cald (t := 0) S hK hI rfl d_Scan_skipBlanks_33 hf (fun v11 hf => ?_)
          refine lv_bipush (v := 10) S.1 S.2.1 d_Scan_skipBlanks_34 (by decide) ?_
          refine lv_icmp_ne (tgt := 52) S.1 S.2.1 d_Scan_skipBlanks_36 (by decide) (fun hc => ?_) (fun hc => ?_)
          · have hf := b_if_f hc hf
            exact hret _ _ _ _ _ _ _ d_Scan_skipBlanks_52 hf hI
          · have hf := b_if_t hc hf
            exact w39  _ _ _ _ _ _ hf hI (lv_sub hl [0] rfl)
  exact w0 N  _ _ _ _ _ _ hf hI (lv_sub hl [0] rfl)
set_option maxHeartbeats 4000000 in
set_option maxRecDepth 100000 in
theorem c_Scan_atEnd (l : Launch) {D : va_G} {dA : Nat → ClassId} {aK aV : Nat → Nat} {z : Nat} {N : Nat} {h0 : Nat} {M : hM} {Z : Int32 × hM} (hf : (f_Scan_atEnd N h0 ).1 M = some Z) : Met l y_Scan_atEnd w_Scan_atEnd ({ frames := 1, cells := Z.2.2.1 - M.2.1, slots := Z.2.2.2 - M.2.2, locals := 20 }) (va_Pc [.ref h0] (hm_B D dA hCl (hTy dA) sT aK aV z M)) (hm_Q D dA hCl (hTy dA) sT aK aV z (some (.int Z.1)) Z.2) (Z.2.2.1 - M.2.1) (Z.2.2.2 - M.2.2) (fun q => z ≤ q) := by
  refine Met.ofW (cc := b_Scan_atEnd) (maxL := 1) (ret := (some .boolean)) (by decide) rfl ?_
  intro p e s m args below meth c s₁ B hml hv
  obtain ⟨hav, hB⟩ := hv
  have S : CallFix p m c b_Scan_atEnd 1 s args w_Scan_atEnd R_Scan := ⟨B.exec, B.bytes, hml, findClass_of_methodNamed B.named, atoms_spec (ws := w_Scan_atEnd) B.pre⟩
  have hr : meth.sig.returnType = (some .boolean) := B.returns
  have hlocks := B.notSynchronized
  have hK := hB.2.2.1
  have hG := hB.2.2.2.2.2
  have hI := hm_I.start hB
  rw [← hB.2.1]
  generalize M.2.2 = k1 at hI ⊢
  refine W.eq (g2 := F0 m 0 ((lg_sl ([.ref h0]) ++ List.replicate (1 - (lg_sl ([.ref h0])).length) Slot.unset).toArray) []) (by rw [hav]; exact lg_entry_eq m ([.ref h0]) 1) ?_
  have hl := lv_entry ([.ref h0]) (n := 1) (Nat.le_of_ble_eq_true rfl)
  generalize (lg_sl ([.ref h0]) ++ List.replicate (1 - (lg_sl ([.ref h0])).length) Slot.unset).toArray = ls at hl ⊢
  simp only [lvA_nil, lvA_i, lvA_l, lvA_a, lvA_r, Nat.zero_add, Nat.reduceAdd] at hl
  have hret : ∀ (v : Int32) (M : hM) (H : Heap) (locs : List Loc) (cells slots : Nat) (ls : Array Slot) (pc : Nat), decode b_Scan_atEnd pc = .ok (.ireturn, 1) → (b_retN .boolean v).1 M = some Z → hm_I D dA hCl z k1 s M H locs cells slots → W p l e (headSpec w_Scan_atEnd { frames := 1, cells := Z.2.2.1 - s.heap.size, slots := Z.2.2.2 - k1, locals := 20 }).room s m args below meth c H locs cells slots (MQ below (hm_Q D dA hCl (hTy dA) sT aK aV z (some (.int Z.1)) Z.2) args s (Z.2.2.1 - s.heap.size) (Z.2.2.2 - k1) (fun q => z ≤ q)) (F0 m pc ls [.int v]) := fun v M H locs cells slots ls pc hdg hf hI => x_retn S hK hG hI hr hlocks hdg hf
  have hR : Z.2.2.1 - s.heap.size ≤ (headSpec w_Scan_atEnd { frames := 1, cells := Z.2.2.1 - s.heap.size, slots := Z.2.2.2 - k1, locals := 20 }).room.cells ∧ Z.2.2.2 - k1 ≤ (headSpec w_Scan_atEnd { frames := 1, cells := Z.2.2.1 - s.heap.size, slots := Z.2.2.2 - k1, locals := 20 }).room.slots := ⟨Nat.le_refl _, Nat.le_refl _⟩
  have hRf : 1 ≤ (headSpec w_Scan_atEnd { frames := 1, cells := Z.2.2.1 - s.heap.size, slots := Z.2.2.2 - k1, locals := 20 }).room.frames ∧ 20 ≤ (headSpec w_Scan_atEnd { frames := 1, cells := Z.2.2.1 - s.heap.size, slots := Z.2.2.2 - k1, locals := 20 }).room.locals := ⟨Nat.le_refl _, Nat.le_refl _⟩
  generalize (headSpec w_Scan_atEnd { frames := 1, cells := Z.2.2.1 - s.heap.size, slots := Z.2.2.2 - k1, locals := 20 }).room = R at hret hR hRf ⊢
  generalize (MQ below (hm_Q D dA hCl (hTy dA) sT aK aV z (some (.int Z.1)) Z.2) args s (Z.2.2.1 - s.heap.size) (Z.2.2.2 - k1) (fun q => z ≤ q)) = Q at hret ⊢
  rw [e_Scan_atEnd] at hf
  obtain ⟨J20, eJ20, hf⟩ := b_let_inv hf
  have w20 : ∀ (y0 : Int32) (M : hM) (H : Heap) (locs : List Loc) (ls : Array Slot) (cells slots : Nat), (J20 y0).1 M = some Z → hm_I D dA hCl z k1 s M H locs cells slots → lv_has ls 1 [] → W p l e R s m args below meth c H locs cells slots Q (F0 m 20 ls [.int y0]) := by
    intro y0 M H locs ls cells slots hf hI hl
    rw [eJ20] at hf
    exact hret _ _ _ _ _ _ _ _ d_Scan_atEnd_20 hf hI
  refine lv_aload_n S.1 S.2.1 d_Scan_atEnd_0 rfl (lv_at hl 0 rfl) ?_
  obtain ⟨⟨fs4, hefs4⟩, hf⟩ := b_is_inv hf
  obtain ⟨r1, N2, hg3, hf⟩ := b_call_inv hf
  refine x_call hI (hm_mo hg3) (va_runV (As := []) (rest := []) S (c_Scan_skipBlanks l hg3) (cwV 0 S.2.2.2.2 (gi_V wd_89 wd_90 wd_91 wd_9 wd_92) rfl rfl rfl (by decide +kernel) ⟨Nat.le_trans (Nat.le_of_ble_eq_true rfl) hRf.1, Nat.le_trans (Nat.le_of_ble_eq_true rfl) hRf.2⟩) ⟨hm_B.blind, va_recv hK (hI.1.one hefs4) (ci := 8) (q0 := 0) rfl rfl, fun U hU hW => ⟨rfl, hm_B.of hK hG hI hU hW⟩⟩ rfl rfl hl.1 rfl (lv_room (Nat.le_of_ble_eq_true rfl)) d_Scan_atEnd_1 (hx_fit hI hR (hm_mo hg3) (hm_mo hf))) (fun H locs cells slots hI => ?_)
  refine W.eq (g2 := F0 m 4 ls []) rfl ?_
  refine lv_aload_n S.1 S.2.1 d_Scan_atEnd_4 rfl (lv_at hl 0 rfl) ?_
  refine x_getI (ci := 8) (k := 2) S hK hI (fun w h => List.mem_cons_of_mem _ (i_Scan w h)) rfl (by decide) (List.mem_cons_of_mem _ wd_54) rfl d_Scan_atEnd_5 hf (fun v5 hf => ?_)
  refine lv_aload_n S.1 S.2.1 d_Scan_atEnd_8 rfl (lv_at hl 0 rfl) ?_
  refine x_getI (ci := 8) (k := 1) S hK hI (fun w h => List.mem_cons_of_mem _ (i_Scan w h)) rfl (by decide) (List.mem_cons_of_mem _ wd_49) rfl d_Scan_atEnd_9 hf (fun v6 hf => ?_)
  refine lv_icmp_lt (tgt := 19) S.1 S.2.1 d_Scan_atEnd_12 (by decide) (fun hc => ?_) (fun hc => ?_)
  · have hf := b_if_t hc hf
    refine lv_iconst (v := 0) S.1 S.2.1 d_Scan_atEnd_19 (by decide) ?_
    exact w20 0 _ _ _ _ _ _ hf hI (lv_sub hl [] rfl)
  · have hf := b_if_f hc hf
    refine lv_iconst (v := 1) S.1 S.2.1 d_Scan_atEnd_15 (by decide) ?_
    refine lv_goto (tgt := 20) S.1 S.2.1 d_Scan_atEnd_16 (by decide) ?_
    exact w20 1 _ _ _ _ _ _ hf hI (lv_sub hl [] rfl)
set_option maxHeartbeats 4000000 in
set_option maxRecDepth 100000 in
theorem c_Scan_isLetter (l : Launch) {D : va_G} {dA : Nat → ClassId} {aK aV : Nat → Nat} {z : Nat} {N : Nat} {p0 : Int32} {M : hM} {Z : Int32 × hM} (hf : (f_Scan_isLetter N p0).1 M = some Z) : Met l y_Scan_isLetter w_Scan_isLetter ({ frames := 0, cells := Z.2.2.1 - M.2.1, slots := Z.2.2.2 - M.2.2, locals := 0 }) (va_Pc [.int p0] (hm_B D dA hCl (hTy dA) sT aK aV z M)) (hm_Q D dA hCl (hTy dA) sT aK aV z (some (.int Z.1)) Z.2) (Z.2.2.1 - M.2.1) (Z.2.2.2 - M.2.2) (fun q => z ≤ q) := by
  refine Met.ofW (cc := b_Scan_isLetter) (maxL := 1) (ret := (some .boolean)) (by decide) rfl ?_
  intro p e s m args below meth c s₁ B hml hv
  obtain ⟨hav, hB⟩ := hv
  have S : CallFix p m c b_Scan_isLetter 1 s args w_Scan_isLetter R_Scan := ⟨B.exec, B.bytes, hml, findClass_of_methodNamed B.named, atoms_spec (ws := w_Scan_isLetter) B.pre⟩
  have hr : meth.sig.returnType = (some .boolean) := B.returns
  have hlocks := B.notSynchronized
  have hK := hB.2.2.1
  have hG := hB.2.2.2.2.2
  have hI := hm_I.start hB
  rw [← hB.2.1]
  generalize M.2.2 = k1 at hI ⊢
  refine W.eq (g2 := F0 m 0 ((lg_sl ([.int p0]) ++ List.replicate (1 - (lg_sl ([.int p0])).length) Slot.unset).toArray) []) (by rw [hav]; exact lg_entry_eq m ([.int p0]) 1) ?_
  have hl := lv_entry ([.int p0]) (n := 1) (Nat.le_of_ble_eq_true rfl)
  generalize (lg_sl ([.int p0]) ++ List.replicate (1 - (lg_sl ([.int p0])).length) Slot.unset).toArray = ls at hl ⊢
  simp only [lvA_nil, lvA_i, lvA_l, lvA_a, lvA_r, Nat.zero_add, Nat.reduceAdd] at hl
  have hret : ∀ (v : Int32) (M : hM) (H : Heap) (locs : List Loc) (cells slots : Nat) (ls : Array Slot) (pc : Nat), decode b_Scan_isLetter pc = .ok (.ireturn, 1) → (b_retN .boolean v).1 M = some Z → hm_I D dA hCl z k1 s M H locs cells slots → W p l e (headSpec w_Scan_isLetter { frames := 0, cells := Z.2.2.1 - s.heap.size, slots := Z.2.2.2 - k1, locals := 0 }).room s m args below meth c H locs cells slots (MQ below (hm_Q D dA hCl (hTy dA) sT aK aV z (some (.int Z.1)) Z.2) args s (Z.2.2.1 - s.heap.size) (Z.2.2.2 - k1) (fun q => z ≤ q)) (F0 m pc ls [.int v]) := fun v M H locs cells slots ls pc hdg hf hI => x_retn S hK hG hI hr hlocks hdg hf
  have hR : Z.2.2.1 - s.heap.size ≤ (headSpec w_Scan_isLetter { frames := 0, cells := Z.2.2.1 - s.heap.size, slots := Z.2.2.2 - k1, locals := 0 }).room.cells ∧ Z.2.2.2 - k1 ≤ (headSpec w_Scan_isLetter { frames := 0, cells := Z.2.2.1 - s.heap.size, slots := Z.2.2.2 - k1, locals := 0 }).room.slots := ⟨Nat.le_refl _, Nat.le_refl _⟩
  have hRf : 0 ≤ (headSpec w_Scan_isLetter { frames := 0, cells := Z.2.2.1 - s.heap.size, slots := Z.2.2.2 - k1, locals := 0 }).room.frames ∧ 0 ≤ (headSpec w_Scan_isLetter { frames := 0, cells := Z.2.2.1 - s.heap.size, slots := Z.2.2.2 - k1, locals := 0 }).room.locals := ⟨Nat.le_refl _, Nat.le_refl _⟩
  generalize (headSpec w_Scan_isLetter { frames := 0, cells := Z.2.2.1 - s.heap.size, slots := Z.2.2.2 - k1, locals := 0 }).room = R at hret hR hRf ⊢
  generalize (MQ below (hm_Q D dA hCl (hTy dA) sT aK aV z (some (.int Z.1)) Z.2) args s (Z.2.2.1 - s.heap.size) (Z.2.2.2 - k1) (fun q => z ≤ q)) = Q at hret ⊢
  rw [e_Scan_isLetter] at hf
  obtain ⟨J29, eJ29, hf⟩ := b_let_inv hf
  have w29 : ∀ (y0 : Int32) (M : hM) (H : Heap) (locs : List Loc) (ls : Array Slot) (cells slots : Nat), (J29 y0).1 M = some Z → hm_I D dA hCl z k1 s M H locs cells slots → lv_has ls 1 [] → W p l e R s m args below meth c H locs cells slots Q (F0 m 29 ls [.int y0]) := by
    intro y0 M H locs ls cells slots hf hI hl
    rw [eJ29] at hf
    exact hret _ _ _ _ _ _ _ _ d_Scan_isLetter_29 hf hI
  obtain ⟨J24, eJ24, hf⟩ := b_let_inv hf
  have w24 : ∀  (M : hM) (H : Heap) (locs : List Loc) (ls : Array Slot) (cells slots : Nat), (J24).1 M = some Z → hm_I D dA hCl z k1 s M H locs cells slots → lv_has ls 1 [] → W p l e R s m args below meth c H locs cells slots Q (F0 m 24 ls []) := by
    intro M H locs ls cells slots hf hI hl
    rw [eJ24] at hf
    refine lv_iconst (v := 1) S.1 S.2.1 d_Scan_isLetter_24 (by decide) ?_
    refine lv_goto (tgt := 29) S.1 S.2.1 d_Scan_isLetter_25 (by decide) ?_
    exact w29 1 _ _ _ _ _ _ hf hI (lv_sub hl [] rfl)
  obtain ⟨J12, eJ12, hf⟩ := b_let_inv hf
  have w12 : ∀  (M : hM) (H : Heap) (locs : List Loc) (ls : Array Slot) (cells slots : Nat), (J12).1 M = some Z → hm_I D dA hCl z k1 s M H locs cells slots → lv_has ls 1 [(0, .int p0)] → W p l e R s m args below meth c H locs cells slots Q (F0 m 12 ls []) := by
    intro M H locs ls cells slots hf hI hl
    rw [eJ12] at hf
    obtain ⟨J28, eJ28, hf⟩ := b_let_inv hf
    have w28 : ∀  (M : hM) (H : Heap) (locs : List Loc) (ls : Array Slot) (cells slots : Nat), (J28).1 M = some Z → hm_I D dA hCl z k1 s M H locs cells slots → lv_has ls 1 [] → W p l e R s m args below meth c H locs cells slots Q (F0 m 28 ls []) := by
      intro M H locs ls cells slots hf hI hl
      rw [eJ28] at hf
      refine lv_iconst (v := 0) S.1 S.2.1 d_Scan_isLetter_28 (by decide) ?_
      exact w29 0 _ _ _ _ _ _ hf hI (lv_sub hl [] rfl)
    refine lv_iload_n S.1 S.2.1 d_Scan_isLetter_12 rfl (lv_at hl 0 rfl) ?_
    refine lv_bipush (v := 65) S.1 S.2.1 d_Scan_isLetter_13 (by decide) ?_
    refine lv_icmp_lt (tgt := 28) S.1 S.2.1 d_Scan_isLetter_15 (by decide) (fun hc => ?_) (fun hc => ?_)
    · have hf := b_if_t hc hf
      exact w28  _ _ _ _ _ _ hf hI (lv_sub hl [] rfl)
    · have hf := b_if_f hc hf
      refine lv_iload_n S.1 S.2.1 d_Scan_isLetter_18 rfl (lv_at hl 0 rfl) ?_
      refine lv_bipush (v := 90) S.1 S.2.1 d_Scan_isLetter_19 (by decide) ?_
      refine lv_icmp_gt (tgt := 28) S.1 S.2.1 d_Scan_isLetter_21 (by decide) (fun hc => ?_) (fun hc => ?_)
      · have hf := b_if_t hc hf
        exact w28  _ _ _ _ _ _ hf hI (lv_sub hl [] rfl)
      · have hf := b_if_f hc hf
        exact w24  _ _ _ _ _ _ hf hI (lv_sub hl [] rfl)
  refine lv_iload_n S.1 S.2.1 d_Scan_isLetter_0 rfl (lv_at hl 0 rfl) ?_
  refine lv_bipush (v := 97) S.1 S.2.1 d_Scan_isLetter_1 (by decide) ?_
  refine lv_icmp_lt (tgt := 12) S.1 S.2.1 d_Scan_isLetter_3 (by decide) (fun hc => ?_) (fun hc => ?_)
  · have hf := b_if_t hc hf
    exact w12  _ _ _ _ _ _ hf hI (lv_sub hl [0] rfl)
  · have hf := b_if_f hc hf
    refine lv_iload_n S.1 S.2.1 d_Scan_isLetter_6 rfl (lv_at hl 0 rfl) ?_
    refine lv_bipush (v := 122) S.1 S.2.1 d_Scan_isLetter_7 (by decide) ?_
    refine lv_icmp_le (tgt := 24) S.1 S.2.1 d_Scan_isLetter_9 (by decide) (fun hc => ?_) (fun hc => ?_)
    · have hf := b_if_t hc hf
      exact w24  _ _ _ _ _ _ hf hI (lv_sub hl [] rfl)
    · have hf := b_if_f hc hf
      exact w12  _ _ _ _ _ _ hf hI (lv_sub hl [0] rfl)
set_option maxHeartbeats 4000000 in
set_option maxRecDepth 100000 in
theorem c_Scan_isDigit (l : Launch) {D : va_G} {dA : Nat → ClassId} {aK aV : Nat → Nat} {z : Nat} {N : Nat} {p0 : Int32} {M : hM} {Z : Int32 × hM} (hf : (f_Scan_isDigit N p0).1 M = some Z) : Met l y_Scan_isDigit w_Scan_isDigit ({ frames := 0, cells := Z.2.2.1 - M.2.1, slots := Z.2.2.2 - M.2.2, locals := 0 }) (va_Pc [.int p0] (hm_B D dA hCl (hTy dA) sT aK aV z M)) (hm_Q D dA hCl (hTy dA) sT aK aV z (some (.int Z.1)) Z.2) (Z.2.2.1 - M.2.1) (Z.2.2.2 - M.2.2) (fun q => z ≤ q) := by
  refine Met.ofW (cc := b_Scan_isDigit) (maxL := 1) (ret := (some .boolean)) (by decide) rfl ?_
  intro p e s m args below meth c s₁ B hml hv
  obtain ⟨hav, hB⟩ := hv
  have S : CallFix p m c b_Scan_isDigit 1 s args w_Scan_isDigit R_Scan := ⟨B.exec, B.bytes, hml, findClass_of_methodNamed B.named, atoms_spec (ws := w_Scan_isDigit) B.pre⟩
  have hr : meth.sig.returnType = (some .boolean) := B.returns
  have hlocks := B.notSynchronized
  have hK := hB.2.2.1
  have hG := hB.2.2.2.2.2
  have hI := hm_I.start hB
  rw [← hB.2.1]
  generalize M.2.2 = k1 at hI ⊢
  refine W.eq (g2 := F0 m 0 ((lg_sl ([.int p0]) ++ List.replicate (1 - (lg_sl ([.int p0])).length) Slot.unset).toArray) []) (by rw [hav]; exact lg_entry_eq m ([.int p0]) 1) ?_
  have hl := lv_entry ([.int p0]) (n := 1) (Nat.le_of_ble_eq_true rfl)
  generalize (lg_sl ([.int p0]) ++ List.replicate (1 - (lg_sl ([.int p0])).length) Slot.unset).toArray = ls at hl ⊢
  simp only [lvA_nil, lvA_i, lvA_l, lvA_a, lvA_r, Nat.zero_add, Nat.reduceAdd] at hl
  have hret : ∀ (v : Int32) (M : hM) (H : Heap) (locs : List Loc) (cells slots : Nat) (ls : Array Slot) (pc : Nat), decode b_Scan_isDigit pc = .ok (.ireturn, 1) → (b_retN .boolean v).1 M = some Z → hm_I D dA hCl z k1 s M H locs cells slots → W p l e (headSpec w_Scan_isDigit { frames := 0, cells := Z.2.2.1 - s.heap.size, slots := Z.2.2.2 - k1, locals := 0 }).room s m args below meth c H locs cells slots (MQ below (hm_Q D dA hCl (hTy dA) sT aK aV z (some (.int Z.1)) Z.2) args s (Z.2.2.1 - s.heap.size) (Z.2.2.2 - k1) (fun q => z ≤ q)) (F0 m pc ls [.int v]) := fun v M H locs cells slots ls pc hdg hf hI => x_retn S hK hG hI hr hlocks hdg hf
  have hR : Z.2.2.1 - s.heap.size ≤ (headSpec w_Scan_isDigit { frames := 0, cells := Z.2.2.1 - s.heap.size, slots := Z.2.2.2 - k1, locals := 0 }).room.cells ∧ Z.2.2.2 - k1 ≤ (headSpec w_Scan_isDigit { frames := 0, cells := Z.2.2.1 - s.heap.size, slots := Z.2.2.2 - k1, locals := 0 }).room.slots := ⟨Nat.le_refl _, Nat.le_refl _⟩
  have hRf : 0 ≤ (headSpec w_Scan_isDigit { frames := 0, cells := Z.2.2.1 - s.heap.size, slots := Z.2.2.2 - k1, locals := 0 }).room.frames ∧ 0 ≤ (headSpec w_Scan_isDigit { frames := 0, cells := Z.2.2.1 - s.heap.size, slots := Z.2.2.2 - k1, locals := 0 }).room.locals := ⟨Nat.le_refl _, Nat.le_refl _⟩
  generalize (headSpec w_Scan_isDigit { frames := 0, cells := Z.2.2.1 - s.heap.size, slots := Z.2.2.2 - k1, locals := 0 }).room = R at hret hR hRf ⊢
  generalize (MQ below (hm_Q D dA hCl (hTy dA) sT aK aV z (some (.int Z.1)) Z.2) args s (Z.2.2.1 - s.heap.size) (Z.2.2.2 - k1) (fun q => z ≤ q)) = Q at hret ⊢
  rw [e_Scan_isDigit] at hf
  obtain ⟨J17, eJ17, hf⟩ := b_let_inv hf
  have w17 : ∀ (y0 : Int32) (M : hM) (H : Heap) (locs : List Loc) (ls : Array Slot) (cells slots : Nat), (J17 y0).1 M = some Z → hm_I D dA hCl z k1 s M H locs cells slots → lv_has ls 1 [] → W p l e R s m args below meth c H locs cells slots Q (F0 m 17 ls [.int y0]) := by
    intro y0 M H locs ls cells slots hf hI hl
    rw [eJ17] at hf
    exact hret _ _ _ _ _ _ _ _ d_Scan_isDigit_17 hf hI
  obtain ⟨J16, eJ16, hf⟩ := b_let_inv hf
  have w16 : ∀  (M : hM) (H : Heap) (locs : List Loc) (ls : Array Slot) (cells slots : Nat), (J16).1 M = some Z → hm_I D dA hCl z k1 s M H locs cells slots → lv_has ls 1 [] → W p l e R s m args below meth c H locs cells slots Q (F0 m 16 ls []) := by
    intro M H locs ls cells slots hf hI hl
    rw [eJ16] at hf
    refine lv_iconst (v := 0) S.1 S.2.1 d_Scan_isDigit_16 (by decide) ?_
    exact w17 0 _ _ _ _ _ _ hf hI (lv_sub hl [] rfl)
  refine lv_iload_n S.1 S.2.1 d_Scan_isDigit_0 rfl (lv_at hl 0 rfl) ?_
  refine lv_bipush (v := 48) S.1 S.2.1 d_Scan_isDigit_1 (by decide) ?_
  refine lv_icmp_lt (tgt := 16) S.1 S.2.1 d_Scan_isDigit_3 (by decide) (fun hc => ?_) (fun hc => ?_)
  · have hf := b_if_t hc hf
    exact w16  _ _ _ _ _ _ hf hI (lv_sub hl [] rfl)
  · have hf := b_if_f hc hf
    refine lv_iload_n S.1 S.2.1 d_Scan_isDigit_6 rfl (lv_at hl 0 rfl) ?_
    refine lv_bipush (v := 57) S.1 S.2.1 d_Scan_isDigit_7 (by decide) ?_
    refine lv_icmp_gt (tgt := 16) S.1 S.2.1 d_Scan_isDigit_9 (by decide) (fun hc => ?_) (fun hc => ?_)
    · have hf := b_if_t hc hf
      exact w16  _ _ _ _ _ _ hf hI (lv_sub hl [] rfl)
    · have hf := b_if_f hc hf
      refine lv_iconst (v := 1) S.1 S.2.1 d_Scan_isDigit_12 (by decide) ?_
      refine lv_goto (tgt := 17) S.1 S.2.1 d_Scan_isDigit_13 (by decide) ?_
      exact w17 1 _ _ _ _ _ _ hf hI (lv_sub hl [] rfl)
set_option maxHeartbeats 4000000 in
set_option maxRecDepth 100000 in
theorem c_Name_isBar (l : Launch) {D : va_G} {dA : Nat → ClassId} {aK aV : Nat → Nat} {z : Nat} {N : Nat} {p0 : Int32} {M : hM} {Z : Int32 × hM} (hf : (f_Name_isBar N p0).1 M = some Z) : Met l y_Name_isBar w_Name_isBar ({ frames := 0, cells := Z.2.2.1 - M.2.1, slots := Z.2.2.2 - M.2.2, locals := 0 }) (va_Pc [.int p0] (hm_B D dA hCl (hTy dA) sT aK aV z M)) (hm_Q D dA hCl (hTy dA) sT aK aV z (some (.int Z.1)) Z.2) (Z.2.2.1 - M.2.1) (Z.2.2.2 - M.2.2) (fun q => z ≤ q) := by
  refine Met.ofW (cc := b_Name_isBar) (maxL := 1) (ret := (some .boolean)) (by decide) rfl ?_
  intro p e s m args below meth c s₁ B hml hv
  obtain ⟨hav, hB⟩ := hv
  have S : CallFix p m c b_Name_isBar 1 s args w_Name_isBar R_Name := ⟨B.exec, B.bytes, hml, findClass_of_methodNamed B.named, atoms_spec (ws := w_Name_isBar) B.pre⟩
  have hr : meth.sig.returnType = (some .boolean) := B.returns
  have hlocks := B.notSynchronized
  have hK := hB.2.2.1
  have hG := hB.2.2.2.2.2
  have hI := hm_I.start hB
  rw [← hB.2.1]
  generalize M.2.2 = k1 at hI ⊢
  refine W.eq (g2 := F0 m 0 ((lg_sl ([.int p0]) ++ List.replicate (1 - (lg_sl ([.int p0])).length) Slot.unset).toArray) []) (by rw [hav]; exact lg_entry_eq m ([.int p0]) 1) ?_
  have hl := lv_entry ([.int p0]) (n := 1) (Nat.le_of_ble_eq_true rfl)
  generalize (lg_sl ([.int p0]) ++ List.replicate (1 - (lg_sl ([.int p0])).length) Slot.unset).toArray = ls at hl ⊢
  simp only [lvA_nil, lvA_i, lvA_l, lvA_a, lvA_r, Nat.zero_add, Nat.reduceAdd] at hl
  have hret : ∀ (v : Int32) (M : hM) (H : Heap) (locs : List Loc) (cells slots : Nat) (ls : Array Slot) (pc : Nat), decode b_Name_isBar pc = .ok (.ireturn, 1) → (b_retN .boolean v).1 M = some Z → hm_I D dA hCl z k1 s M H locs cells slots → W p l e (headSpec w_Name_isBar { frames := 0, cells := Z.2.2.1 - s.heap.size, slots := Z.2.2.2 - k1, locals := 0 }).room s m args below meth c H locs cells slots (MQ below (hm_Q D dA hCl (hTy dA) sT aK aV z (some (.int Z.1)) Z.2) args s (Z.2.2.1 - s.heap.size) (Z.2.2.2 - k1) (fun q => z ≤ q)) (F0 m pc ls [.int v]) := fun v M H locs cells slots ls pc hdg hf hI => x_retn S hK hG hI hr hlocks hdg hf
  have hR : Z.2.2.1 - s.heap.size ≤ (headSpec w_Name_isBar { frames := 0, cells := Z.2.2.1 - s.heap.size, slots := Z.2.2.2 - k1, locals := 0 }).room.cells ∧ Z.2.2.2 - k1 ≤ (headSpec w_Name_isBar { frames := 0, cells := Z.2.2.1 - s.heap.size, slots := Z.2.2.2 - k1, locals := 0 }).room.slots := ⟨Nat.le_refl _, Nat.le_refl _⟩
  have hRf : 0 ≤ (headSpec w_Name_isBar { frames := 0, cells := Z.2.2.1 - s.heap.size, slots := Z.2.2.2 - k1, locals := 0 }).room.frames ∧ 0 ≤ (headSpec w_Name_isBar { frames := 0, cells := Z.2.2.1 - s.heap.size, slots := Z.2.2.2 - k1, locals := 0 }).room.locals := ⟨Nat.le_refl _, Nat.le_refl _⟩
  generalize (headSpec w_Name_isBar { frames := 0, cells := Z.2.2.1 - s.heap.size, slots := Z.2.2.2 - k1, locals := 0 }).room = R at hret hR hRf ⊢
  generalize (MQ below (hm_Q D dA hCl (hTy dA) sT aK aV z (some (.int Z.1)) Z.2) args s (Z.2.2.1 - s.heap.size) (Z.2.2.2 - k1) (fun q => z ≤ q)) = Q at hret ⊢
  rw [e_Name_isBar] at hf
  obtain ⟨J23, eJ23, hf⟩ := b_let_inv hf
  have w23 : ∀ (y0 : Int32) (M : hM) (H : Heap) (locs : List Loc) (ls : Array Slot) (cells slots : Nat), (J23 y0).1 M = some Z → hm_I D dA hCl z k1 s M H locs cells slots → lv_has ls 1 [] → W p l e R s m args below meth c H locs cells slots Q (F0 m 23 ls [.int y0]) := by
    intro y0 M H locs ls cells slots hf hI hl
    rw [eJ23] at hf
    exact hret _ _ _ _ _ _ _ _ d_Name_isBar_23 hf hI
  obtain ⟨J18, eJ18, hf⟩ := b_let_inv hf
  have w18 : ∀  (M : hM) (H : Heap) (locs : List Loc) (ls : Array Slot) (cells slots : Nat), (J18).1 M = some Z → hm_I D dA hCl z k1 s M H locs cells slots → lv_has ls 1 [] → W p l e R s m args below meth c H locs cells slots Q (F0 m 18 ls []) := by
    intro M H locs ls cells slots hf hI hl
    rw [eJ18] at hf
    refine lv_iconst (v := 1) S.1 S.2.1 d_Name_isBar_18 (by decide) ?_
    refine lv_goto (tgt := 23) S.1 S.2.1 d_Name_isBar_19 (by decide) ?_
    exact w23 1 _ _ _ _ _ _ hf hI (lv_sub hl [] rfl)
  refine lv_iload_n S.1 S.2.1 d_Name_isBar_0 rfl (lv_at hl 0 rfl) ?_
  refine lv_bipush (v := 45) S.1 S.2.1 d_Name_isBar_1 (by decide) ?_
  refine lv_icmp_eq (tgt := 18) S.1 S.2.1 d_Name_isBar_3 (by decide) (fun hc => ?_) (fun hc => ?_)
  · have hf := b_if_t hc hf
    exact w18  _ _ _ _ _ _ hf hI (lv_sub hl [] rfl)
  · have hf := b_if_f hc hf
    refine lv_iload_n S.1 S.2.1 d_Name_isBar_6 rfl (lv_at hl 0 rfl) ?_
    refine lv_bipush (v := 95) S.1 S.2.1 d_Name_isBar_7 (by decide) ?_
    refine lv_icmp_eq (tgt := 18) S.1 S.2.1 d_Name_isBar_9 (by decide) (fun hc => ?_) (fun hc => ?_)
    · have hf := b_if_t hc hf
      exact w18  _ _ _ _ _ _ hf hI (lv_sub hl [] rfl)
    · have hf := b_if_f hc hf
      refine lv_iload_n S.1 S.2.1 d_Name_isBar_12 rfl (lv_at hl 0 rfl) ?_
      refine lv_bipush (v := 46) S.1 S.2.1 d_Name_isBar_13 (by decide) ?_
      refine lv_icmp_ne (tgt := 22) S.1 S.2.1 d_Name_isBar_15 (by decide) (fun hc => ?_) (fun hc => ?_)
      · have hf := b_if_f hc hf
        refine lv_iconst (v := 0) S.1 S.2.1 d_Name_isBar_22 (by decide) ?_
        exact w23 0 _ _ _ _ _ _ hf hI (lv_sub hl [] rfl)
      · have hf := b_if_t hc hf
        exact w18  _ _ _ _ _ _ hf hI (lv_sub hl [] rfl)
set_option maxHeartbeats 4000000 in
set_option maxRecDepth 100000 in
theorem c_Scan_signHere (l : Launch) {D : va_G} {dA : Nat → ClassId} {aK aV : Nat → Nat} {z : Nat} {N : Nat} {h0 : Nat} {M : hM} {Z : Int32 × hM} (hf : (f_Scan_signHere N h0 ).1 M = some Z) : Met l y_Scan_signHere w_Scan_signHere ({ frames := 0, cells := Z.2.2.1 - M.2.1, slots := Z.2.2.2 - M.2.2, locals := 0 }) (va_Pc [.ref h0] (hm_B D dA hCl (hTy dA) sT aK aV z M)) (hm_Q D dA hCl (hTy dA) sT aK aV z (some (.int Z.1)) Z.2) (Z.2.2.1 - M.2.1) (Z.2.2.2 - M.2.2) (fun q => z ≤ q) := by
  refine Met.ofW (cc := b_Scan_signHere) (maxL := 1) (ret := (some .char)) (by decide) rfl ?_
  intro p e s m args below meth c s₁ B hml hv
  obtain ⟨hav, hB⟩ := hv
  have S : CallFix p m c b_Scan_signHere 1 s args w_Scan_signHere R_Scan := ⟨B.exec, B.bytes, hml, findClass_of_methodNamed B.named, atoms_spec (ws := w_Scan_signHere) B.pre⟩
  have hr : meth.sig.returnType = (some .char) := B.returns
  have hlocks := B.notSynchronized
  have hK := hB.2.2.1
  have hG := hB.2.2.2.2.2
  have hI := hm_I.start hB
  rw [← hB.2.1]
  generalize M.2.2 = k1 at hI ⊢
  refine W.eq (g2 := F0 m 0 ((lg_sl ([.ref h0]) ++ List.replicate (1 - (lg_sl ([.ref h0])).length) Slot.unset).toArray) []) (by rw [hav]; exact lg_entry_eq m ([.ref h0]) 1) ?_
  have hl := lv_entry ([.ref h0]) (n := 1) (Nat.le_of_ble_eq_true rfl)
  generalize (lg_sl ([.ref h0]) ++ List.replicate (1 - (lg_sl ([.ref h0])).length) Slot.unset).toArray = ls at hl ⊢
  simp only [lvA_nil, lvA_i, lvA_l, lvA_a, lvA_r, Nat.zero_add, Nat.reduceAdd] at hl
  have hret : ∀ (v : Int32) (M : hM) (H : Heap) (locs : List Loc) (cells slots : Nat) (ls : Array Slot) (pc : Nat), decode b_Scan_signHere pc = .ok (.ireturn, 1) → (b_retN .char v).1 M = some Z → hm_I D dA hCl z k1 s M H locs cells slots → W p l e (headSpec w_Scan_signHere { frames := 0, cells := Z.2.2.1 - s.heap.size, slots := Z.2.2.2 - k1, locals := 0 }).room s m args below meth c H locs cells slots (MQ below (hm_Q D dA hCl (hTy dA) sT aK aV z (some (.int Z.1)) Z.2) args s (Z.2.2.1 - s.heap.size) (Z.2.2.2 - k1) (fun q => z ≤ q)) (F0 m pc ls [.int v]) := fun v M H locs cells slots ls pc hdg hf hI => x_retn S hK hG hI hr hlocks hdg hf
  have hR : Z.2.2.1 - s.heap.size ≤ (headSpec w_Scan_signHere { frames := 0, cells := Z.2.2.1 - s.heap.size, slots := Z.2.2.2 - k1, locals := 0 }).room.cells ∧ Z.2.2.2 - k1 ≤ (headSpec w_Scan_signHere { frames := 0, cells := Z.2.2.1 - s.heap.size, slots := Z.2.2.2 - k1, locals := 0 }).room.slots := ⟨Nat.le_refl _, Nat.le_refl _⟩
  have hRf : 0 ≤ (headSpec w_Scan_signHere { frames := 0, cells := Z.2.2.1 - s.heap.size, slots := Z.2.2.2 - k1, locals := 0 }).room.frames ∧ 0 ≤ (headSpec w_Scan_signHere { frames := 0, cells := Z.2.2.1 - s.heap.size, slots := Z.2.2.2 - k1, locals := 0 }).room.locals := ⟨Nat.le_refl _, Nat.le_refl _⟩
  generalize (headSpec w_Scan_signHere { frames := 0, cells := Z.2.2.1 - s.heap.size, slots := Z.2.2.2 - k1, locals := 0 }).room = R at hret hR hRf ⊢
  generalize (MQ below (hm_Q D dA hCl (hTy dA) sT aK aV z (some (.int Z.1)) Z.2) args s (Z.2.2.1 - s.heap.size) (Z.2.2.2 - k1) (fun q => z ≤ q)) = Q at hret ⊢
  rw [e_Scan_signHere] at hf
  obtain ⟨J24, eJ24, hf⟩ := b_let_inv hf
  have w24 : ∀ (y0 : Int32) (M : hM) (H : Heap) (locs : List Loc) (ls : Array Slot) (cells slots : Nat), (J24 y0).1 M = some Z → hm_I D dA hCl z k1 s M H locs cells slots → lv_has ls 1 [] → W p l e R s m args below meth c H locs cells slots Q (F0 m 24 ls [.int y0]) := by
    intro y0 M H locs ls cells slots hf hI hl
    rw [eJ24] at hf
    exact hret _ _ _ _ _ _ _ _ d_Scan_signHere_24 hf hI
  refine lv_aload_n S.1 S.2.1 d_Scan_signHere_0 rfl (lv_at hl 0 rfl) ?_
  refine x_getI (ci := 8) (k := 2) S hK hI (fun w h => List.mem_cons_of_mem _ (i_Scan w h)) rfl (by decide) (List.mem_cons_of_mem _ wd_54) rfl d_Scan_signHere_1 hf (fun v1 hf => ?_)
  refine lv_aload_n S.1 S.2.1 d_Scan_signHere_4 rfl (lv_at hl 0 rfl) ?_
  refine x_getI (ci := 8) (k := 1) S hK hI (fun w h => List.mem_cons_of_mem _ (i_Scan w h)) rfl (by decide) (List.mem_cons_of_mem _ wd_49) rfl d_Scan_signHere_5 hf (fun v2 hf => ?_)
  refine lv_icmp_ge (tgt := 23) S.1 S.2.1 d_Scan_signHere_8 (by decide) (fun hc => ?_) (fun hc => ?_)
  · have hf := b_if_t hc hf
    refine lv_iconst (v := 0) S.1 S.2.1 d_Scan_signHere_23 (by decide) ?_
    exact w24 0 _ _ _ _ _ _ hf hI (lv_sub hl [] rfl)
  · have hf := b_if_f hc hf
    refine lv_aload_n S.1 S.2.1 d_Scan_signHere_11 rfl (lv_at hl 0 rfl) ?_
    refine x_getR (ci := 8) (k := 0) S hK hI (fun w h => List.mem_cons_of_mem _ (i_Scan w h)) rfl (by decide) (List.mem_cons_of_mem _ wd_12) rfl d_Scan_signHere_12 hf (fun r3 hf => ?_)
    refine lv_aload_n S.1 S.2.1 d_Scan_signHere_15 rfl (lv_at hl 0 rfl) ?_
    refine x_getI (ci := 8) (k := 2) S hK hI (fun w h => List.mem_cons_of_mem _ (i_Scan w h)) rfl (by decide) (List.mem_cons_of_mem _ wd_54) rfl d_Scan_signHere_16 hf (fun v4 hf => ?_)
    obtain ⟨a5, ea5, hg⟩ := b_nn_inv hf
    have hI0 := hI
    have hl0 := hl
    clear hf hI hl
    subst ea5
    have hf := hg
    have hI := hI0
    have hl := hl0
    clear hg hI0 hl0
    refine x_cald (t := 0) S hK hI rfl d_Scan_signHere_19 hf (fun v6 hf => ?_)
    refine lv_goto (tgt := 24) S.1 S.2.1 d_Scan_signHere_20 (by decide) ?_
    exact w24 v6 _ _ _ _ _ _ hf hI (lv_sub hl [] rfl)
set_option maxHeartbeats 4000000 in
set_option maxRecDepth 100000 in
theorem c_Scan_takeWord (l : Launch) {D : va_G} {dA : Nat → ClassId} {aK aV : Nat → Nat} {z : Nat} {N : Nat} {h0 : Nat} {M : hM} {Z : Int32 × hM} (hf : (f_Scan_takeWord N h0 ).1 M = some Z) : Met l y_Scan_takeWord w_Scan_takeWord ({ frames := 1, cells := Z.2.2.1 - M.2.1, slots := Z.2.2.2 - M.2.2, locals := 21 }) (va_Pc [.ref h0] (hm_B D dA hCl (hTy dA) sT aK aV z M)) (hm_Q D dA hCl (hTy dA) sT aK aV z (some (.int Z.1)) Z.2) (Z.2.2.1 - M.2.1) (Z.2.2.2 - M.2.2) (fun q => z ≤ q) := by
  refine Met.ofW (cc := b_Scan_takeWord) (maxL := 1) (ret := (some .boolean)) (by decide) rfl ?_
  intro p e s m args below meth c s₁ B hml hv
  obtain ⟨hav, hB⟩ := hv
  have S : CallFix p m c b_Scan_takeWord 1 s args w_Scan_takeWord R_Scan := ⟨B.exec, B.bytes, hml, findClass_of_methodNamed B.named, atoms_spec (ws := w_Scan_takeWord) B.pre⟩
  have hr : meth.sig.returnType = (some .boolean) := B.returns
  have hlocks := B.notSynchronized
  have hK := hB.2.2.1
  have hG := hB.2.2.2.2.2
  have hI := hm_I.start hB
  rw [← hB.2.1]
  generalize M.2.2 = k1 at hI ⊢
  refine W.eq (g2 := F0 m 0 ((lg_sl ([.ref h0]) ++ List.replicate (1 - (lg_sl ([.ref h0])).length) Slot.unset).toArray) []) (by rw [hav]; exact lg_entry_eq m ([.ref h0]) 1) ?_
  have hl := lv_entry ([.ref h0]) (n := 1) (Nat.le_of_ble_eq_true rfl)
  generalize (lg_sl ([.ref h0]) ++ List.replicate (1 - (lg_sl ([.ref h0])).length) Slot.unset).toArray = ls at hl ⊢
  simp only [lvA_nil, lvA_i, lvA_l, lvA_a, lvA_r, Nat.zero_add, Nat.reduceAdd] at hl
  have hret : ∀ (v : Int32) (M : hM) (H : Heap) (locs : List Loc) (cells slots : Nat) (ls : Array Slot) (pc : Nat), decode b_Scan_takeWord pc = .ok (.ireturn, 1) → (b_retN .boolean v).1 M = some Z → hm_I D dA hCl z k1 s M H locs cells slots → W p l e (headSpec w_Scan_takeWord { frames := 1, cells := Z.2.2.1 - s.heap.size, slots := Z.2.2.2 - k1, locals := 21 }).room s m args below meth c H locs cells slots (MQ below (hm_Q D dA hCl (hTy dA) sT aK aV z (some (.int Z.1)) Z.2) args s (Z.2.2.1 - s.heap.size) (Z.2.2.2 - k1) (fun q => z ≤ q)) (F0 m pc ls [.int v]) := fun v M H locs cells slots ls pc hdg hf hI => x_retn S hK hG hI hr hlocks hdg hf
  have hR : Z.2.2.1 - s.heap.size ≤ (headSpec w_Scan_takeWord { frames := 1, cells := Z.2.2.1 - s.heap.size, slots := Z.2.2.2 - k1, locals := 21 }).room.cells ∧ Z.2.2.2 - k1 ≤ (headSpec w_Scan_takeWord { frames := 1, cells := Z.2.2.1 - s.heap.size, slots := Z.2.2.2 - k1, locals := 21 }).room.slots := ⟨Nat.le_refl _, Nat.le_refl _⟩
  have hRf : 1 ≤ (headSpec w_Scan_takeWord { frames := 1, cells := Z.2.2.1 - s.heap.size, slots := Z.2.2.2 - k1, locals := 21 }).room.frames ∧ 21 ≤ (headSpec w_Scan_takeWord { frames := 1, cells := Z.2.2.1 - s.heap.size, slots := Z.2.2.2 - k1, locals := 21 }).room.locals := ⟨Nat.le_refl _, Nat.le_refl _⟩
  generalize (headSpec w_Scan_takeWord { frames := 1, cells := Z.2.2.1 - s.heap.size, slots := Z.2.2.2 - k1, locals := 21 }).room = R at hret hR hRf ⊢
  generalize (MQ below (hm_Q D dA hCl (hTy dA) sT aK aV z (some (.int Z.1)) Z.2) args s (Z.2.2.1 - s.heap.size) (Z.2.2.2 - k1) (fun q => z ≤ q)) = Q at hret ⊢
  rw [e_Scan_takeWord] at hf
  have w31 : ∀ (n : Nat)  (M : hM) (H : Heap) (locs : List Loc) (ls : Array Slot) (cells slots : Nat), (f_Scan_takeWord_31 N h0  n).1 M = some Z → hm_I D dA hCl z k1 s M H locs cells slots → lv_has ls 1 [(0, .ref h0)] → W p l e R s m args below meth c H locs cells slots Q (F0 m 31 ls []) := by
    intro n
    induction n with
    | zero => intro M H locs ls cells slots hf hI hl; cases hf
    | succ n31 ih31 =>
      intro M H locs ls cells slots hf hI hl
      rw [e_Scan_takeWord_31] at hf
      obtain ⟨J87, eJ87, hf⟩ := b_let_inv hf
      have w87 : ∀  (M : hM) (H : Heap) (locs : List Loc) (ls : Array Slot) (cells slots : Nat), (J87).1 M = some Z → hm_I D dA hCl z k1 s M H locs cells slots → lv_has ls 1 [(0, .ref h0)] → W p l e R s m args below meth c H locs cells slots Q (F0 m 87 ls []) := by
        intro M H locs ls cells slots hf hI hl
        rw [eJ87] at hf
        refine lv_aload_n S.1 S.2.1 d_Scan_takeWord_87 rfl (lv_at hl 0 rfl) ?_
        refine lv_dup S.1 S.2.1 d_Scan_takeWord_88 rfl ?_
        refine x_getI (ci := 8) (k := 2) S hK hI (fun w h => List.mem_cons_of_mem _ (i_Scan w h)) rfl (by decide) (List.mem_cons_of_mem _ wd_54) rfl d_Scan_takeWord_89 hf (fun v1 hf => ?_)
        refine lv_iconst (v := 1) S.1 S.2.1 d_Scan_takeWord_92 (by decide) ?_
        refine lv_iadd S.1 S.2.1 d_Scan_takeWord_93 ?_
        refine x_put (ci := 8) (k := 2) S hK hI (fun w h => List.mem_cons_of_mem _ (i_Scan w h)) t_Scan t_Scan_ok n_Scan rfl (by decide) (List.mem_cons_of_mem _ wd_54) rfl (Or.inl rfl) (by rfl) rfl d_Scan_takeWord_94 hf (fun M H locs hf hI => ?_)
        refine lv_goto (tgt := 31) S.1 S.2.1 d_Scan_takeWord_97 (by decide) ?_
        exact ih31  _ _ _ _ _ _ hf hI (lv_sub hl [0] rfl)
      obtain ⟨J100, eJ100, hf⟩ := b_let_inv hf
      have w100 : ∀  (M : hM) (H : Heap) (locs : List Loc) (ls : Array Slot) (cells slots : Nat), (J100).1 M = some Z → hm_I D dA hCl z k1 s M H locs cells slots → lv_has ls 1 [(0, .ref h0)] → W p l e R s m args below meth c H locs cells slots Q (F0 m 100 ls []) := by
        intro M H locs ls cells slots hf hI hl
        rw [eJ100] at hf
        refine lv_aload_n S.1 S.2.1 d_Scan_takeWord_100 rfl (lv_at hl 0 rfl) ?_
        refine lv_aload_n S.1 S.2.1 d_Scan_takeWord_101 rfl (lv_at hl 0 rfl) ?_
        refine x_getI (ci := 8) (k := 2) S hK hI (fun w h => List.mem_cons_of_mem _ (i_Scan w h)) rfl (by decide) (List.mem_cons_of_mem _ wd_54) rfl d_Scan_takeWord_102 hf (fun v2 hf => ?_)
        refine x_put (ci := 8) (k := 5) S hK hI (fun w h => List.mem_cons_of_mem _ (i_Scan w h)) t_Scan t_Scan_ok n_Scan rfl (by decide) (List.mem_cons_of_mem _ wd_57) rfl (Or.inl rfl) (by rfl) rfl d_Scan_takeWord_105 hf (fun M H locs hf hI => ?_)
        refine lv_iconst (v := 1) S.1 S.2.1 d_Scan_takeWord_108 (by decide) ?_
        exact hret _ _ _ _ _ _ _ _ d_Scan_takeWord_109 hf hI
      refine lv_aload_n S.1 S.2.1 d_Scan_takeWord_31 rfl (lv_at hl 0 rfl) ?_
      refine x_getI (ci := 8) (k := 2) S hK hI (fun w h => List.mem_cons_of_mem _ (i_Scan w h)) rfl (by decide) (List.mem_cons_of_mem _ wd_54) rfl d_Scan_takeWord_32 hf (fun v3 hf => ?_)
      refine lv_aload_n S.1 S.2.1 d_Scan_takeWord_35 rfl (lv_at hl 0 rfl) ?_
      refine x_getI (ci := 8) (k := 1) S hK hI (fun w h => List.mem_cons_of_mem _ (i_Scan w h)) rfl (by decide) (List.mem_cons_of_mem _ wd_49) rfl d_Scan_takeWord_36 hf (fun v4 hf => ?_)
      refine lv_icmp_ge (tgt := 100) S.1 S.2.1 d_Scan_takeWord_39 (by decide) (fun hc => ?_) (fun hc => ?_)
      · have hf := b_if_t hc hf
        exact w100  _ _ _ _ _ _ hf hI (lv_sub hl [0] rfl)
      · have hf := b_if_f hc hf
        refine lv_aload_n S.1 S.2.1 d_Scan_takeWord_42 rfl (lv_at hl 0 rfl) ?_
        refine x_getR (ci := 8) (k := 0) S hK hI (fun w h => List.mem_cons_of_mem _ (i_Scan w h)) rfl (by decide) (List.mem_cons_of_mem _ wd_12) rfl d_Scan_takeWord_43 hf (fun r5 hf => ?_)
        refine lv_aload_n S.1 S.2.1 d_Scan_takeWord_46 rfl (lv_at hl 0 rfl) ?_
        refine x_getI (ci := 8) (k := 2) S hK hI (fun w h => List.mem_cons_of_mem _ (i_Scan w h)) rfl (by decide) (List.mem_cons_of_mem _ wd_54) rfl d_Scan_takeWord_47 hf (fun v6 hf => ?_)
        obtain ⟨a7, ea7, hg⟩ := b_nn_inv hf
        have hI0 := hI
        have hl0 := hl
        clear hf hI hl
        subst ea7
        have hf := hg
        have hI := hI0
        have hl := hl0
        clear hg hI0 hl0
        refine x_cald (t := 0) S hK hI rfl d_Scan_takeWord_50 hf (fun v8 hf => ?_)
        obtain ⟨v9, N10, hg11, hf⟩ := b_call_inv hf
        refine x_call hI (hm_mo hg11) (va_runS (As := [.int v8]) (rest := []) S (c_Scan_isLetter l hg11) (va_cwS 1 S.2.2.2.2 (gi_S wd_99 wd_100 wd_9 wd_101) rfl rfl rfl (by decide +kernel) ⟨Nat.le_trans (Nat.le_of_ble_eq_true rfl) hRf.1, Nat.le_trans (Nat.le_of_ble_eq_true rfl) hRf.2⟩) ⟨hm_B.blind, fun U hU hW => ⟨rfl, hm_B.of hK hG hI hU hW⟩⟩ rfl rfl hl.1 rfl (lv_room (Nat.le_of_ble_eq_true rfl)) d_Scan_takeWord_51 (hx_fit hI hR (hm_mo hg11) (hm_mo hf))) (fun H locs cells slots hI => ?_)
        refine W.eq (g2 := F0 m 54 ls [.int v9]) rfl ?_
        refine lv_if_ne (tgt := 87) S.1 S.2.1 d_Scan_takeWord_54 (by decide) (fun hc => ?_) (fun hc => ?_)
        · have hf := b_if_f hc hf
          exact w87  _ _ _ _ _ _ hf hI (lv_sub hl [0] rfl)
        · have hf := b_if_t hc hf
          refine lv_aload_n S.1 S.2.1 d_Scan_takeWord_57 rfl (lv_at hl 0 rfl) ?_
          refine x_getR (ci := 8) (k := 0) S hK hI (fun w h => List.mem_cons_of_mem _ (i_Scan w h)) rfl (by decide) (List.mem_cons_of_mem _ wd_12) rfl d_Scan_takeWord_58 hf (fun r12 hf => ?_)
          refine lv_aload_n S.1 S.2.1 d_Scan_takeWord_61 rfl (lv_at hl 0 rfl) ?_
          refine x_getI (ci := 8) (k := 2) S hK hI (fun w h => List.mem_cons_of_mem _ (i_Scan w h)) rfl (by decide) (List.mem_cons_of_mem _ wd_54) rfl d_Scan_takeWord_62 hf (fun v13 hf => ?_)
          obtain ⟨a14, ea14, hg⟩ := b_nn_inv hf
          have hI0 := hI
          have hl0 := hl
          clear hf hI hl
          subst ea14
          have hf := hg
          have hI := hI0
          have hl := hl0
          clear hg hI0 hl0
          refine x_cald (t := 0) S hK hI rfl d_Scan_takeWord_65 hf (fun v15 hf => ?_)
          obtain ⟨v16, N17, hg18, hf⟩ := b_call_inv hf
          refine x_call hI (hm_mo hg18) (va_runS (As := [.int v15]) (rest := []) S (c_Scan_isDigit l hg18) (va_cwS 1 S.2.2.2.2 (gi_S wd_102 wd_103 wd_9 wd_104) rfl rfl rfl (by decide +kernel) ⟨Nat.le_trans (Nat.le_of_ble_eq_true rfl) hRf.1, Nat.le_trans (Nat.le_of_ble_eq_true rfl) hRf.2⟩) ⟨hm_B.blind, fun U hU hW => ⟨rfl, hm_B.of hK hG hI hU hW⟩⟩ rfl rfl hl.1 rfl (lv_room (Nat.le_of_ble_eq_true rfl)) d_Scan_takeWord_66 (hx_fit hI hR (hm_mo hg18) (hm_mo hf))) (fun H locs cells slots hI => ?_)
          refine W.eq (g2 := F0 m 69 ls [.int v16]) rfl ?_
          refine lv_if_ne (tgt := 87) S.1 S.2.1 d_Scan_takeWord_69 (by decide) (fun hc => ?_) (fun hc => ?_)
          · have hf := b_if_f hc hf
            exact w87  _ _ _ _ _ _ hf hI (lv_sub hl [0] rfl)
          · have hf := b_if_t hc hf
            refine lv_aload_n S.1 S.2.1 d_Scan_takeWord_72 rfl (lv_at hl 0 rfl) ?_
            refine x_getR (ci := 8) (k := 0) S hK hI (fun w h => List.mem_cons_of_mem _ (i_Scan w h)) rfl (by decide) (List.mem_cons_of_mem _ wd_12) rfl d_Scan_takeWord_73 hf (fun r19 hf => ?_)
            refine lv_aload_n S.1 S.2.1 d_Scan_takeWord_76 rfl (lv_at hl 0 rfl) ?_
            refine x_getI (ci := 8) (k := 2) S hK hI (fun w h => List.mem_cons_of_mem _ (i_Scan w h)) rfl (by decide) (List.mem_cons_of_mem _ wd_54) rfl d_Scan_takeWord_77 hf (fun v20 hf => ?_)
            obtain ⟨a21, ea21, hg⟩ := b_nn_inv hf
            have hI0 := hI
            have hl0 := hl
            clear hf hI hl
            subst ea21
            have hf := hg
            have hI := hI0
            have hl := hl0
            clear hg hI0 hl0
            refine x_cald (t := 0) S hK hI rfl d_Scan_takeWord_80 hf (fun v22 hf => ?_)
            obtain ⟨v23, N24, hg25, hf⟩ := b_call_inv hf
            refine x_call hI (hm_mo hg25) (va_runS (As := [.int v22]) (rest := []) S (c_Name_isBar l hg25) (va_cwS 1 S.2.2.2.2 (gi_S wd_105 wd_106 wd_75 wd_107) rfl rfl rfl (by decide +kernel) ⟨Nat.le_trans (Nat.le_of_ble_eq_true rfl) hRf.1, Nat.le_trans (Nat.le_of_ble_eq_true rfl) hRf.2⟩) ⟨hm_B.blind, fun U hU hW => ⟨rfl, hm_B.of hK hG hI hU hW⟩⟩ rfl rfl hl.1 rfl (lv_room (Nat.le_of_ble_eq_true rfl)) d_Scan_takeWord_81 (hx_fit hI hR (hm_mo hg25) (hm_mo hf))) (fun H locs cells slots hI => ?_)
            refine W.eq (g2 := F0 m 84 ls [.int v23]) rfl ?_
            refine lv_if_eq (tgt := 100) S.1 S.2.1 d_Scan_takeWord_84 (by decide) (fun hc => ?_) (fun hc => ?_)
            · have hf := b_if_t hc hf
              exact w100  _ _ _ _ _ _ hf hI (lv_sub hl [0] rfl)
            · have hf := b_if_f hc hf
              exact w87  _ _ _ _ _ _ hf hI (lv_sub hl [0] rfl)
  refine lv_aload_n S.1 S.2.1 d_Scan_takeWord_0 rfl (lv_at hl 0 rfl) ?_
  obtain ⟨⟨fs29, hefs29⟩, hf⟩ := b_is_inv hf
  obtain ⟨r26, N27, hg28, hf⟩ := b_call_inv hf
  refine x_call hI (hm_mo hg28) (va_runV (As := []) (rest := []) S (c_Scan_skipBlanks l hg28) (cwV 0 S.2.2.2.2 (gi_V wd_89 wd_90 wd_91 wd_9 wd_92) rfl rfl rfl (by decide +kernel) ⟨Nat.le_trans (Nat.le_of_ble_eq_true rfl) hRf.1, Nat.le_trans (Nat.le_of_ble_eq_true rfl) hRf.2⟩) ⟨hm_B.blind, va_recv hK (hI.1.one hefs29) (ci := 8) (q0 := 0) rfl rfl, fun U hU hW => ⟨rfl, hm_B.of hK hG hI hU hW⟩⟩ rfl rfl hl.1 rfl (lv_room (Nat.le_of_ble_eq_true rfl)) d_Scan_takeWord_1 (hx_fit hI hR (hm_mo hg28) (hm_mo hf))) (fun H locs cells slots hI => ?_)
  refine W.eq (g2 := F0 m 4 ls []) rfl ?_
  refine lv_aload_n S.1 S.2.1 d_Scan_takeWord_4 rfl (lv_at hl 0 rfl) ?_
  obtain ⟨⟨fs33, hefs33⟩, hf⟩ := b_is_inv hf
  obtain ⟨v30, N31, hg32, hf⟩ := b_call_inv hf
  refine x_call hI (hm_mo hg32) (va_runV (As := []) (rest := []) S (c_Scan_signHere l hg32) (cwV 0 S.2.2.2.2 (gi_V wd_108 wd_109 wd_110 wd_9 wd_111) rfl rfl rfl (by decide +kernel) ⟨Nat.le_trans (Nat.le_of_ble_eq_true rfl) hRf.1, Nat.le_trans (Nat.le_of_ble_eq_true rfl) hRf.2⟩) ⟨hm_B.blind, va_recv hK (hI.1.one hefs33) (ci := 8) (q0 := 0) rfl rfl, fun U hU hW => ⟨rfl, hm_B.of hK hG hI hU hW⟩⟩ rfl rfl hl.1 rfl (lv_room (Nat.le_of_ble_eq_true rfl)) d_Scan_takeWord_5 (hx_fit hI hR (hm_mo hg32) (hm_mo hf))) (fun H locs cells slots hI => ?_)
  refine W.eq (g2 := F0 m 8 ls [.int v30]) rfl ?_
  obtain ⟨v34, N35, hg36, hf⟩ := b_call_inv hf
  refine x_call hI (hm_mo hg36) (va_runS (As := [.int v30]) (rest := []) S (c_Scan_isLetter l hg36) (va_cwS 1 S.2.2.2.2 (gi_S wd_99 wd_100 wd_9 wd_101) rfl rfl rfl (by decide +kernel) ⟨Nat.le_trans (Nat.le_of_ble_eq_true rfl) hRf.1, Nat.le_trans (Nat.le_of_ble_eq_true rfl) hRf.2⟩) ⟨hm_B.blind, fun U hU hW => ⟨rfl, hm_B.of hK hG hI hU hW⟩⟩ rfl rfl hl.1 rfl (lv_room (Nat.le_of_ble_eq_true rfl)) d_Scan_takeWord_8 (hx_fit hI hR (hm_mo hg36) (hm_mo hf))) (fun H locs cells slots hI => ?_)
  refine W.eq (g2 := F0 m 11 ls [.int v34]) rfl ?_
  refine lv_if_ne (tgt := 23) S.1 S.2.1 d_Scan_takeWord_11 (by decide) (fun hc => ?_) (fun hc => ?_)
  · have hf := b_if_f hc hf
    refine lv_aload_n S.1 S.2.1 d_Scan_takeWord_23 rfl (lv_at hl 0 rfl) ?_
    refine lv_aload_n S.1 S.2.1 d_Scan_takeWord_24 rfl (lv_at hl 0 rfl) ?_
    refine x_getI (ci := 8) (k := 2) S hK hI (fun w h => List.mem_cons_of_mem _ (i_Scan w h)) rfl (by decide) (List.mem_cons_of_mem _ wd_54) rfl d_Scan_takeWord_25 hf (fun v37 hf => ?_)
    refine x_put (ci := 8) (k := 4) S hK hI (fun w h => List.mem_cons_of_mem _ (i_Scan w h)) t_Scan t_Scan_ok n_Scan rfl (by decide) (List.mem_cons_of_mem _ wd_56) rfl (Or.inl rfl) (by rfl) rfl d_Scan_takeWord_28 hf (fun M H locs hf hI => ?_)
    exact w31 N  _ _ _ _ _ _ hf hI (lv_sub hl [0] rfl)
  · have hf := b_if_t hc hf
    refine lv_aload_n S.1 S.2.1 d_Scan_takeWord_14 rfl (lv_at hl 0 rfl) ?_
    refine lv_aload_n S.1 S.2.1 d_Scan_takeWord_15 rfl (lv_at hl 0 rfl) ?_
    refine x_getI (ci := 8) (k := 2) S hK hI (fun w h => List.mem_cons_of_mem _ (i_Scan w h)) rfl (by decide) (List.mem_cons_of_mem _ wd_54) rfl d_Scan_takeWord_16 hf (fun v38 hf => ?_)
    obtain ⟨⟨fs42, hefs42⟩, hf⟩ := b_is_inv hf
    obtain ⟨v39, N40, hg41, hf⟩ := b_call_inv hf
    refine x_call hI (hm_mo hg41) (va_runV (As := [.int v38]) (rest := []) S (c_Scan_refuse l hg41) (cwV 1 S.2.2.2.2 (gi_V wd_98 wd_82 wd_83 wd_9 wd_84) rfl rfl rfl (by decide +kernel) ⟨Nat.le_trans (Nat.le_of_ble_eq_true rfl) hRf.1, Nat.le_trans (Nat.le_of_ble_eq_true rfl) hRf.2⟩) ⟨hm_B.blind, va_recv hK (hI.1.one hefs42) (ci := 8) (q0 := 0) rfl rfl, fun U hU hW => ⟨rfl, hm_B.of hK hG hI hU hW⟩⟩ rfl rfl hl.1 rfl (lv_room (Nat.le_of_ble_eq_true rfl)) d_Scan_takeWord_19 (hx_fit hI hR (hm_mo hg41) (hm_mo hf))) (fun H locs cells slots hI => ?_)
    refine W.eq (g2 := F0 m 22 ls [.int v39]) rfl ?_
    exact hret _ _ _ _ _ _ _ _ d_Scan_takeWord_22 hf hI
