set_option maxHeartbeats 4000000 in
set_option maxRecDepth 100000 in
theorem c_Reader_takeProvided (l : Launch) {D : va_G} {dA : Nat → ClassId} {aK aV : Nat → Nat} {z : Nat} {N : Nat} {h0 : Nat} {M : hM} {Z : Int32 × hM} (hf : (f_Reader_takeProvided N h0 ).1 M = some Z) : Met l y_Reader_takeProvided w_Reader_takeProvided ({ frames := 3, cells := Z.2.2.1 - M.2.1, slots := Z.2.2.2 - M.2.2, locals := 75 }) (va_Pc [.ref h0] (hm_B D dA hCl (hTy dA) sT aK aV z M)) (hm_Q D dA hCl (hTy dA) sT aK aV z (some (.int Z.1)) Z.2) (Z.2.2.1 - M.2.1) (Z.2.2.2 - M.2.2) (fun q => z ≤ q) := by
  refine Met.ofW (cc := b_Reader_takeProvided) (maxL := 2) (ret := (some .boolean)) (by decide) rfl ?_
  intro p e s m args below meth c s₁ B hml hv
  obtain ⟨hav, hB⟩ := hv
  have S : CallFix p m c b_Reader_takeProvided 2 s args w_Reader_takeProvided R_Reader := ⟨B.exec, B.bytes, hml, findClass_of_methodNamed B.named, atoms_spec (ws := w_Reader_takeProvided) B.pre⟩
  have hr : meth.sig.returnType = (some .boolean) := B.returns
  have hlocks := B.notSynchronized
  have hK := hB.2.2.1
  have hG := hB.2.2.2.2.2
  have hI := hm_I.start hB
  rw [← hB.2.1]
  generalize M.2.2 = k1 at hI ⊢
  refine W.eq (g2 := F0 m 0 ((lg_sl ([.ref h0]) ++ List.replicate (2 - (lg_sl ([.ref h0])).length) Slot.unset).toArray) []) (by rw [hav]; exact lg_entry_eq m ([.ref h0]) 2) ?_
  have hl := lv_entry ([.ref h0]) (n := 2) (Nat.le_of_ble_eq_true rfl)
  generalize (lg_sl ([.ref h0]) ++ List.replicate (2 - (lg_sl ([.ref h0])).length) Slot.unset).toArray = ls at hl ⊢
  simp only [lvA_nil, lvA_i, lvA_l, lvA_a, lvA_r, Nat.zero_add, Nat.reduceAdd] at hl
  have hret : ∀ (v : Int32) (M : hM) (H : Heap) (locs : List Loc) (cells slots : Nat) (ls : Array Slot) (pc : Nat), decode b_Reader_takeProvided pc = .ok (.ireturn, 1) → (b_retN .boolean v).1 M = some Z → hm_I D dA hCl z k1 s M H locs cells slots → W p l e (headSpec w_Reader_takeProvided { frames := 3, cells := Z.2.2.1 - s.heap.size, slots := Z.2.2.2 - k1, locals := 75 }).room s m args below meth c H locs cells slots (MQ below (hm_Q D dA hCl (hTy dA) sT aK aV z (some (.int Z.1)) Z.2) args s (Z.2.2.1 - s.heap.size) (Z.2.2.2 - k1) (fun q => z ≤ q)) (F0 m pc ls [.int v]) := fun v M H locs cells slots ls pc hdg hf hI => x_retn S hK hG hI hr hlocks hdg hf
  have hR : Z.2.2.1 - s.heap.size ≤ (headSpec w_Reader_takeProvided { frames := 3, cells := Z.2.2.1 - s.heap.size, slots := Z.2.2.2 - k1, locals := 75 }).room.cells ∧ Z.2.2.2 - k1 ≤ (headSpec w_Reader_takeProvided { frames := 3, cells := Z.2.2.1 - s.heap.size, slots := Z.2.2.2 - k1, locals := 75 }).room.slots := ⟨Nat.le_refl _, Nat.le_refl _⟩
  have hRf : 3 ≤ (headSpec w_Reader_takeProvided { frames := 3, cells := Z.2.2.1 - s.heap.size, slots := Z.2.2.2 - k1, locals := 75 }).room.frames ∧ 75 ≤ (headSpec w_Reader_takeProvided { frames := 3, cells := Z.2.2.1 - s.heap.size, slots := Z.2.2.2 - k1, locals := 75 }).room.locals := ⟨Nat.le_refl _, Nat.le_refl _⟩
  generalize (headSpec w_Reader_takeProvided { frames := 3, cells := Z.2.2.1 - s.heap.size, slots := Z.2.2.2 - k1, locals := 75 }).room = R at hret hR hRf ⊢
  generalize (MQ below (hm_Q D dA hCl (hTy dA) sT aK aV z (some (.int Z.1)) Z.2) args s (Z.2.2.1 - s.heap.size) (Z.2.2.2 - k1) (fun q => z ≤ q)) = Q at hret ⊢
  rw [e_Reader_takeProvided] at hf
  obtain ⟨J62, eJ62, hf⟩ := b_let_inv hf
  have w62 : ∀ (y0 : Int32) (M : hM) (H : Heap) (locs : List Loc) (ls : Array Slot) (cells slots : Nat), (J62 y0).1 M = some Z → hm_I D dA hCl z k1 s M H locs cells slots → lv_has ls 2 [] → W p l e R s m args below meth c H locs cells slots Q (F0 m 62 ls [.int y0]) := by
    intro y0 M H locs ls cells slots hf hI hl
    rw [eJ62] at hf
    exact hret _ _ _ _ _ _ _ _ d_Reader_takeProvided_62 hf hI
  obtain ⟨J61, eJ61, hf⟩ := b_let_inv hf
  have w61 : ∀  (M : hM) (H : Heap) (locs : List Loc) (ls : Array Slot) (cells slots : Nat), (J61).1 M = some Z → hm_I D dA hCl z k1 s M H locs cells slots → lv_has ls 2 [] → W p l e R s m args below meth c H locs cells slots Q (F0 m 61 ls []) := by
    intro M H locs ls cells slots hf hI hl
    rw [eJ61] at hf
    refine lv_iconst (v := 0) S.1 S.2.1 d_Reader_takeProvided_61 (by decide) ?_
    exact w62 0 _ _ _ _ _ _ hf hI (lv_sub hl [] rfl)
  refine lv_aload_n S.1 S.2.1 d_Reader_takeProvided_0 rfl (lv_at hl 0 rfl) ?_
  refine x_getR (ci := 6) (k := 0) S hK hI (fun w h => List.mem_cons_of_mem _ (i_Reader w h)) rfl (by decide) (List.mem_cons_of_mem _ wd_15) rfl d_Reader_takeProvided_1 hf (fun r1 hf => ?_)
  obtain ⟨a2, ea2, hg⟩ := b_nn_inv hf
  have hI0 := hI
  have hl0 := hl
  clear hf hI hl
  subst ea2
  have hf := hg
  have hI := hI0
  have hl := hl0
  clear hg hI0 hl0
  obtain ⟨⟨fs6, hefs6⟩, hf⟩ := b_is_inv hf
  obtain ⟨v3, N4, hg5, hf⟩ := b_call_inv hf
  refine x_call hI (hm_mo hg5) (va_runV (As := []) (rest := []) S (c_Scan_takeName l hg5) (cwV 0 S.2.2.2.2 (gi_V wd_116 wd_117 wd_118 wd_9 wd_119) rfl rfl rfl (by decide +kernel) ⟨Nat.le_trans (Nat.le_of_ble_eq_true rfl) hRf.1, Nat.le_trans (Nat.le_of_ble_eq_true rfl) hRf.2⟩) ⟨hm_B.blind, va_recv hK (hI.1.one hefs6) (ci := 8) (q0 := 0) rfl rfl, fun U hU hW => ⟨rfl, hm_B.of hK hG hI hU hW⟩⟩ rfl rfl hl.1 rfl (lv_room (Nat.le_of_ble_eq_true rfl)) d_Reader_takeProvided_4 (hx_fit hI hR (hm_mo hg5) (hm_mo hf))) (fun H locs cells slots hI => ?_)
  refine W.eq (g2 := F0 m 7 ls [.int v3]) rfl ?_
  refine lv_if_ne (tgt := 12) S.1 S.2.1 d_Reader_takeProvided_7 (by decide) (fun hc => ?_) (fun hc => ?_)
  · have hf := b_if_f hc hf
    refine lv_aload_n S.1 S.2.1 d_Reader_takeProvided_12 rfl (lv_at hl 0 rfl) ?_
    refine x_getR (ci := 6) (k := 0) S hK hI (fun w h => List.mem_cons_of_mem _ (i_Reader w h)) rfl (by decide) (List.mem_cons_of_mem _ wd_15) rfl d_Reader_takeProvided_13 hf (fun r7 hf => ?_)
    obtain ⟨a8, ea8, hg⟩ := b_nn_inv hf
    have hI0 := hI
    have hl0 := hl
    clear hf hI hl
    subst ea8
    have hf := hg
    have hI := hI0
    have hl := hl0
    clear hg hI0 hl0
    obtain ⟨⟨fs12, hefs12⟩, hf⟩ := b_is_inv hf
    obtain ⟨r9, N10, hg11, hf⟩ := b_call_inv hf
    refine x_call hI (hm_mo hg11) (va_runV (As := []) (rest := []) S (c_Scan_takenName l hg11) (cwV 0 S.2.2.2.2 (gi_V wd_131 wd_132 wd_133 wd_9 wd_134) rfl rfl rfl (by decide +kernel) ⟨Nat.le_trans (Nat.le_of_ble_eq_true rfl) hRf.1, Nat.le_trans (Nat.le_of_ble_eq_true rfl) hRf.2⟩) ⟨hm_B.blind, va_recv hK (hI.1.one hefs12) (ci := 8) (q0 := 0) rfl rfl, fun U hU hW => ⟨rfl, hm_B.of hK hG hI hU hW⟩⟩ rfl rfl hl.1 rfl (lv_room (Nat.le_of_ble_eq_true rfl)) d_Reader_takeProvided_16 (hx_fit hI hR (hm_mo hg11) (hm_mo hf))) (fun H locs cells slots hI => ?_)
    refine W.eq (g2 := F0 m 19 ls [va_rf r9]) rfl ?_
    refine x_astore_n (r := r9) (lv2 := [(0, .ref h0)]) S d_Reader_takeProvided_19 rfl hl (by decide) [0] rfl ⟨⟨(by decide : (0 : Nat) ≠ 1), fun _ => rfl⟩, trivial⟩ (fun ls hl => ?_)
    refine lv_aload_n S.1 S.2.1 d_Reader_takeProvided_20 rfl (lv_at hl 1 rfl) ?_
    refine x_getR (ci := 6) (k := 0) S hK hI (fun w h => List.mem_cons_of_mem _ (i_Reader w h)) rfl (by decide) (List.mem_cons_of_mem _ wd_15) rfl d_Reader_takeProvided_21 hf (fun r13 hf => ?_)
    obtain ⟨a14, ea14, hg⟩ := b_nn_inv hf
    have hI0 := hI
    have hl0 := hl
    clear hf hI hl
    subst ea14
    have hf := hg
    have hI := hI0
    have hl := hl0
    clear hg hI0 hl0
    obtain ⟨⟨fs18, hefs18⟩, hf⟩ := b_is_inv hf
    obtain ⟨v15, N16, hg17, hf⟩ := b_call_inv hf
    refine x_call hI (hm_mo hg17) (va_runV (As := []) (rest := []) S (c_Scan_takeVersion l hg17) (cwV 0 S.2.2.2.2 (gi_V wd_143 wd_144 wd_145 wd_9 wd_146) rfl rfl rfl (by decide +kernel) ⟨Nat.le_trans (Nat.le_of_ble_eq_true rfl) hRf.1, Nat.le_trans (Nat.le_of_ble_eq_true rfl) hRf.2⟩) ⟨hm_B.blind, va_recv hK (hI.1.one hefs18) (ci := 8) (q0 := 0) rfl rfl, fun U hU hW => ⟨rfl, hm_B.of hK hG hI hU hW⟩⟩ rfl rfl hl.1 rfl (lv_room (Nat.le_of_ble_eq_true rfl)) d_Reader_takeProvided_24 (hx_fit hI hR (hm_mo hg17) (hm_mo hf))) (fun H locs cells slots hI => ?_)
    refine W.eq (g2 := F0 m 27 ls [.int v15]) rfl ?_
    refine lv_if_eq (tgt := 61) S.1 S.2.1 d_Reader_takeProvided_27 (by decide) (fun hc => ?_) (fun hc => ?_)
    · have hf := b_if_t hc hf
      exact w61  _ _ _ _ _ _ hf hI (lv_sub hl [] rfl)
    · have hf := b_if_f hc hf
      refine lv_aload_n S.1 S.2.1 d_Reader_takeProvided_30 rfl (lv_at hl 1 rfl) ?_
      refine lv_bipush (v := 7) S.1 S.2.1 d_Reader_takeProvided_31 (by decide) ?_
      refine x_aload_n (r := r9) S d_Reader_takeProvided_33 rfl (lv_at hl 0 rfl) ?_
      refine lv_null S.1 S.2.1 d_Reader_takeProvided_34 ?_
      refine lv_aload_n S.1 S.2.1 d_Reader_takeProvided_35 rfl (lv_at hl 1 rfl) ?_
      refine x_getR (ci := 6) (k := 0) S hK hI (fun w h => List.mem_cons_of_mem _ (i_Reader w h)) rfl (by decide) (List.mem_cons_of_mem _ wd_15) rfl d_Reader_takeProvided_36 hf (fun r19 hf => ?_)
      obtain ⟨a20, ea20, hg⟩ := b_nn_inv hf
      have hI0 := hI
      have hl0 := hl
      clear hf hI hl
      subst ea20
      have hf := hg
      have hI := hI0
      have hl := hl0
      clear hg hI0 hl0
      refine x_getL (ci := 8) (k := 6) S hK hI (fun w h => List.mem_cons_of_mem _ (i_Scan w h)) rfl (by decide) (List.mem_cons_of_mem _ wd_147) rfl d_Reader_takeProvided_39 hf (fun v21 hf => ?_)
      refine lv_aload_n S.1 S.2.1 d_Reader_takeProvided_42 rfl (lv_at hl 1 rfl) ?_
      refine x_getR (ci := 6) (k := 0) S hK hI (fun w h => List.mem_cons_of_mem _ (i_Reader w h)) rfl (by decide) (List.mem_cons_of_mem _ wd_15) rfl d_Reader_takeProvided_43 hf (fun r22 hf => ?_)
      obtain ⟨a23, ea23, hg⟩ := b_nn_inv hf
      have hI0 := hI
      have hl0 := hl
      clear hf hI hl
      subst ea23
      have hf := hg
      have hI := hI0
      have hl := hl0
      clear hg hI0 hl0
      refine x_getL (ci := 8) (k := 6) S hK hI (fun w h => List.mem_cons_of_mem _ (i_Scan w h)) rfl (by decide) (List.mem_cons_of_mem _ wd_147) rfl d_Reader_takeProvided_46 hf (fun v24 hf => ?_)
      refine lv_lconst (v := 1) S.1 S.2.1 d_Reader_takeProvided_49 (by decide) ?_
      refine lv_ladd S.1 S.2.1 d_Reader_takeProvided_50 ?_
      obtain ⟨⟨fs28, hefs28⟩, hf⟩ := b_is_inv hf
      obtain ⟨v25, N26, hg27, hf⟩ := b_call_inv hf
      refine x_call hI (hm_mo hg27) (va_runV (As := [.int 7, va_rf r9, .null, .long v21, .long (v24 + 1)]) (rest := []) S (c_Reader_addRow l hg27) (cwV 5 S.2.2.2.2 (gi_V wd_162 wd_163 wd_164 wd_5 wd_165) rfl rfl rfl (by decide +kernel) ⟨Nat.le_trans (Nat.le_of_ble_eq_true rfl) hRf.1, Nat.le_trans (Nat.le_of_ble_eq_true rfl) hRf.2⟩) ⟨hm_B.blind, va_recv hK (hI.1.one hefs28) (ci := 6) (q0 := 0) rfl rfl, fun U hU hW => ⟨rfl, hm_B.of hK hG hI hU hW⟩⟩ rfl rfl hl.1 rfl (lv_room (Nat.le_of_ble_eq_true rfl)) d_Reader_takeProvided_51 (hx_fit hI hR (hm_mo hg27) (hm_mo hf))) (fun H locs cells slots hI => ?_)
      refine W.eq (g2 := F0 m 54 ls [.int v25]) rfl ?_
      refine lv_if_eq (tgt := 61) S.1 S.2.1 d_Reader_takeProvided_54 (by decide) (fun hc => ?_) (fun hc => ?_)
      · have hf := b_if_t hc hf
        exact w61  _ _ _ _ _ _ hf hI (lv_sub hl [] rfl)
      · have hf := b_if_f hc hf
        refine lv_iconst (v := 1) S.1 S.2.1 d_Reader_takeProvided_57 (by decide) ?_
        refine lv_goto (tgt := 62) S.1 S.2.1 d_Reader_takeProvided_58 (by decide) ?_
        exact w62 1 _ _ _ _ _ _ hf hI (lv_sub hl [] rfl)
  · have hf := b_if_t hc hf
    refine lv_iconst (v := 0) S.1 S.2.1 d_Reader_takeProvided_10 (by decide) ?_
    exact hret _ _ _ _ _ _ _ _ d_Reader_takeProvided_11 hf hI
set_option maxHeartbeats 4000000 in
set_option maxRecDepth 100000 in
theorem c_Scan_takeIfNext (l : Launch) {D : va_G} {dA : Nat → ClassId} {aK aV : Nat → Nat} {z : Nat} {N : Nat} {h0 : Nat} {p0 : Int32} {M : hM} {Z : Int32 × hM} (hf : (f_Scan_takeIfNext N h0 p0).1 M = some Z) : Met l y_Scan_takeIfNext w_Scan_takeIfNext ({ frames := 1, cells := Z.2.2.1 - M.2.1, slots := Z.2.2.2 - M.2.2, locals := 20 }) (va_Pc [.ref h0, .int p0] (hm_B D dA hCl (hTy dA) sT aK aV z M)) (hm_Q D dA hCl (hTy dA) sT aK aV z (some (.int Z.1)) Z.2) (Z.2.2.1 - M.2.1) (Z.2.2.2 - M.2.2) (fun q => z ≤ q) := by
  refine Met.ofW (cc := b_Scan_takeIfNext) (maxL := 2) (ret := (some .boolean)) (by decide) rfl ?_
  intro p e s m args below meth c s₁ B hml hv
  obtain ⟨hav, hB⟩ := hv
  have S : CallFix p m c b_Scan_takeIfNext 2 s args w_Scan_takeIfNext R_Scan := ⟨B.exec, B.bytes, hml, findClass_of_methodNamed B.named, atoms_spec (ws := w_Scan_takeIfNext) B.pre⟩
  have hr : meth.sig.returnType = (some .boolean) := B.returns
  have hlocks := B.notSynchronized
  have hK := hB.2.2.1
  have hG := hB.2.2.2.2.2
  have hI := hm_I.start hB
  rw [← hB.2.1]
  generalize M.2.2 = k1 at hI ⊢
  refine W.eq (g2 := F0 m 0 ((lg_sl ([.ref h0, .int p0]) ++ List.replicate (2 - (lg_sl ([.ref h0, .int p0])).length) Slot.unset).toArray) []) (by rw [hav]; exact lg_entry_eq m ([.ref h0, .int p0]) 2) ?_
  have hl := lv_entry ([.ref h0, .int p0]) (n := 2) (Nat.le_of_ble_eq_true rfl)
  generalize (lg_sl ([.ref h0, .int p0]) ++ List.replicate (2 - (lg_sl ([.ref h0, .int p0])).length) Slot.unset).toArray = ls at hl ⊢
  simp only [lvA_nil, lvA_i, lvA_l, lvA_a, lvA_r, Nat.zero_add, Nat.reduceAdd] at hl
  have hret : ∀ (v : Int32) (M : hM) (H : Heap) (locs : List Loc) (cells slots : Nat) (ls : Array Slot) (pc : Nat), decode b_Scan_takeIfNext pc = .ok (.ireturn, 1) → (b_retN .boolean v).1 M = some Z → hm_I D dA hCl z k1 s M H locs cells slots → W p l e (headSpec w_Scan_takeIfNext { frames := 1, cells := Z.2.2.1 - s.heap.size, slots := Z.2.2.2 - k1, locals := 20 }).room s m args below meth c H locs cells slots (MQ below (hm_Q D dA hCl (hTy dA) sT aK aV z (some (.int Z.1)) Z.2) args s (Z.2.2.1 - s.heap.size) (Z.2.2.2 - k1) (fun q => z ≤ q)) (F0 m pc ls [.int v]) := fun v M H locs cells slots ls pc hdg hf hI => x_retn S hK hG hI hr hlocks hdg hf
  have hR : Z.2.2.1 - s.heap.size ≤ (headSpec w_Scan_takeIfNext { frames := 1, cells := Z.2.2.1 - s.heap.size, slots := Z.2.2.2 - k1, locals := 20 }).room.cells ∧ Z.2.2.2 - k1 ≤ (headSpec w_Scan_takeIfNext { frames := 1, cells := Z.2.2.1 - s.heap.size, slots := Z.2.2.2 - k1, locals := 20 }).room.slots := ⟨Nat.le_refl _, Nat.le_refl _⟩
  have hRf : 1 ≤ (headSpec w_Scan_takeIfNext { frames := 1, cells := Z.2.2.1 - s.heap.size, slots := Z.2.2.2 - k1, locals := 20 }).room.frames ∧ 20 ≤ (headSpec w_Scan_takeIfNext { frames := 1, cells := Z.2.2.1 - s.heap.size, slots := Z.2.2.2 - k1, locals := 20 }).room.locals := ⟨Nat.le_refl _, Nat.le_refl _⟩
  generalize (headSpec w_Scan_takeIfNext { frames := 1, cells := Z.2.2.1 - s.heap.size, slots := Z.2.2.2 - k1, locals := 20 }).room = R at hret hR hRf ⊢
  generalize (MQ below (hm_Q D dA hCl (hTy dA) sT aK aV z (some (.int Z.1)) Z.2) args s (Z.2.2.1 - s.heap.size) (Z.2.2.2 - k1) (fun q => z ≤ q)) = Q at hret ⊢
  rw [e_Scan_takeIfNext] at hf
  refine lv_aload_n S.1 S.2.1 d_Scan_takeIfNext_0 rfl (lv_at hl 0 rfl) ?_
  obtain ⟨⟨fs4, hefs4⟩, hf⟩ := b_is_inv hf
  obtain ⟨r1, N2, hg3, hf⟩ := b_call_inv hf
  refine x_call hI (hm_mo hg3) (va_runV (As := []) (rest := []) S (c_Scan_skipBlanks l hg3) (cwV 0 S.2.2.2.2 (gi_V wd_89 wd_90 wd_91 wd_9 wd_92) rfl rfl rfl (by decide +kernel) ⟨Nat.le_trans (Nat.le_of_ble_eq_true rfl) hRf.1, Nat.le_trans (Nat.le_of_ble_eq_true rfl) hRf.2⟩) ⟨hm_B.blind, va_recv hK (hI.1.one hefs4) (ci := 8) (q0 := 0) rfl rfl, fun U hU hW => ⟨rfl, hm_B.of hK hG hI hU hW⟩⟩ rfl rfl hl.1 rfl (lv_room (Nat.le_of_ble_eq_true rfl)) d_Scan_takeIfNext_1 (hx_fit hI hR (hm_mo hg3) (hm_mo hf))) (fun H locs cells slots hI => ?_)
  refine W.eq (g2 := F0 m 4 ls []) rfl ?_
  refine lv_aload_n S.1 S.2.1 d_Scan_takeIfNext_4 rfl (lv_at hl 0 rfl) ?_
  obtain ⟨⟨fs8, hefs8⟩, hf⟩ := b_is_inv hf
  obtain ⟨v5, N6, hg7, hf⟩ := b_call_inv hf
  refine x_call hI (hm_mo hg7) (va_runV (As := []) (rest := []) S (c_Scan_signHere l hg7) (cwV 0 S.2.2.2.2 (gi_V wd_108 wd_109 wd_110 wd_9 wd_111) rfl rfl rfl (by decide +kernel) ⟨Nat.le_trans (Nat.le_of_ble_eq_true rfl) hRf.1, Nat.le_trans (Nat.le_of_ble_eq_true rfl) hRf.2⟩) ⟨hm_B.blind, va_recv hK (hI.1.one hefs8) (ci := 8) (q0 := 0) rfl rfl, fun U hU hW => ⟨rfl, hm_B.of hK hG hI hU hW⟩⟩ rfl rfl hl.1 rfl (lv_room (Nat.le_of_ble_eq_true rfl)) d_Scan_takeIfNext_5 (hx_fit hI hR (hm_mo hg7) (hm_mo hf))) (fun H locs cells slots hI => ?_)
  refine W.eq (g2 := F0 m 8 ls [.int v5]) rfl ?_
  refine lv_iload_n S.1 S.2.1 d_Scan_takeIfNext_8 rfl (lv_at hl 1 rfl) ?_
  refine lv_icmp_eq (tgt := 14) S.1 S.2.1 d_Scan_takeIfNext_9 (by decide) (fun hc => ?_) (fun hc => ?_)
  · have hf := b_if_t hc hf
    refine lv_aload_n S.1 S.2.1 d_Scan_takeIfNext_14 rfl (lv_at hl 0 rfl) ?_
    refine lv_dup S.1 S.2.1 d_Scan_takeIfNext_15 rfl ?_
    refine x_getI (ci := 8) (k := 2) S hK hI (fun w h => List.mem_cons_of_mem _ (i_Scan w h)) rfl (by decide) (List.mem_cons_of_mem _ wd_54) rfl d_Scan_takeIfNext_16 hf (fun v9 hf => ?_)
    refine lv_iconst (v := 1) S.1 S.2.1 d_Scan_takeIfNext_19 (by decide) ?_
    refine lv_iadd S.1 S.2.1 d_Scan_takeIfNext_20 ?_
    refine x_put (ci := 8) (k := 2) S hK hI (fun w h => List.mem_cons_of_mem _ (i_Scan w h)) t_Scan t_Scan_ok n_Scan rfl (by decide) (List.mem_cons_of_mem _ wd_54) rfl (Or.inl rfl) (by rfl) rfl d_Scan_takeIfNext_21 hf (fun M H locs hf hI => ?_)
    refine lv_iconst (v := 1) S.1 S.2.1 d_Scan_takeIfNext_24 (by decide) ?_
    exact hret _ _ _ _ _ _ _ _ d_Scan_takeIfNext_25 hf hI
  · have hf := b_if_f hc hf
    refine lv_iconst (v := 0) S.1 S.2.1 d_Scan_takeIfNext_12 (by decide) ?_
    exact hret _ _ _ _ _ _ _ _ d_Scan_takeIfNext_13 hf hI
set_option maxHeartbeats 4000000 in
set_option maxRecDepth 100000 in
theorem c_Scan_takeSign (l : Launch) {D : va_G} {dA : Nat → ClassId} {aK aV : Nat → Nat} {z : Nat} {N : Nat} {h0 : Nat} {p0 : Int32} {M : hM} {Z : Int32 × hM} (hf : (f_Scan_takeSign N h0 p0).1 M = some Z) : Met l y_Scan_takeSign w_Scan_takeSign ({ frames := 2, cells := Z.2.2.1 - M.2.1, slots := Z.2.2.2 - M.2.2, locals := 41 }) (va_Pc [.ref h0, .int p0] (hm_B D dA hCl (hTy dA) sT aK aV z M)) (hm_Q D dA hCl (hTy dA) sT aK aV z (some (.int Z.1)) Z.2) (Z.2.2.1 - M.2.1) (Z.2.2.2 - M.2.2) (fun q => z ≤ q) := by
  refine Met.ofW (cc := b_Scan_takeSign) (maxL := 2) (ret := (some .boolean)) (by decide) rfl ?_
  intro p e s m args below meth c s₁ B hml hv
  obtain ⟨hav, hB⟩ := hv
  have S : CallFix p m c b_Scan_takeSign 2 s args w_Scan_takeSign R_Scan := ⟨B.exec, B.bytes, hml, findClass_of_methodNamed B.named, atoms_spec (ws := w_Scan_takeSign) B.pre⟩
  have hr : meth.sig.returnType = (some .boolean) := B.returns
  have hlocks := B.notSynchronized
  have hK := hB.2.2.1
  have hG := hB.2.2.2.2.2
  have hI := hm_I.start hB
  rw [← hB.2.1]
  generalize M.2.2 = k1 at hI ⊢
  refine W.eq (g2 := F0 m 0 ((lg_sl ([.ref h0, .int p0]) ++ List.replicate (2 - (lg_sl ([.ref h0, .int p0])).length) Slot.unset).toArray) []) (by rw [hav]; exact lg_entry_eq m ([.ref h0, .int p0]) 2) ?_
  have hl := lv_entry ([.ref h0, .int p0]) (n := 2) (Nat.le_of_ble_eq_true rfl)
  generalize (lg_sl ([.ref h0, .int p0]) ++ List.replicate (2 - (lg_sl ([.ref h0, .int p0])).length) Slot.unset).toArray = ls at hl ⊢
  simp only [lvA_nil, lvA_i, lvA_l, lvA_a, lvA_r, Nat.zero_add, Nat.reduceAdd] at hl
  have hret : ∀ (v : Int32) (M : hM) (H : Heap) (locs : List Loc) (cells slots : Nat) (ls : Array Slot) (pc : Nat), decode b_Scan_takeSign pc = .ok (.ireturn, 1) → (b_retN .boolean v).1 M = some Z → hm_I D dA hCl z k1 s M H locs cells slots → W p l e (headSpec w_Scan_takeSign { frames := 2, cells := Z.2.2.1 - s.heap.size, slots := Z.2.2.2 - k1, locals := 41 }).room s m args below meth c H locs cells slots (MQ below (hm_Q D dA hCl (hTy dA) sT aK aV z (some (.int Z.1)) Z.2) args s (Z.2.2.1 - s.heap.size) (Z.2.2.2 - k1) (fun q => z ≤ q)) (F0 m pc ls [.int v]) := fun v M H locs cells slots ls pc hdg hf hI => x_retn S hK hG hI hr hlocks hdg hf
  have hR : Z.2.2.1 - s.heap.size ≤ (headSpec w_Scan_takeSign { frames := 2, cells := Z.2.2.1 - s.heap.size, slots := Z.2.2.2 - k1, locals := 41 }).room.cells ∧ Z.2.2.2 - k1 ≤ (headSpec w_Scan_takeSign { frames := 2, cells := Z.2.2.1 - s.heap.size, slots := Z.2.2.2 - k1, locals := 41 }).room.slots := ⟨Nat.le_refl _, Nat.le_refl _⟩
  have hRf : 2 ≤ (headSpec w_Scan_takeSign { frames := 2, cells := Z.2.2.1 - s.heap.size, slots := Z.2.2.2 - k1, locals := 41 }).room.frames ∧ 41 ≤ (headSpec w_Scan_takeSign { frames := 2, cells := Z.2.2.1 - s.heap.size, slots := Z.2.2.2 - k1, locals := 41 }).room.locals := ⟨Nat.le_refl _, Nat.le_refl _⟩
  generalize (headSpec w_Scan_takeSign { frames := 2, cells := Z.2.2.1 - s.heap.size, slots := Z.2.2.2 - k1, locals := 41 }).room = R at hret hR hRf ⊢
  generalize (MQ below (hm_Q D dA hCl (hTy dA) sT aK aV z (some (.int Z.1)) Z.2) args s (Z.2.2.1 - s.heap.size) (Z.2.2.2 - k1) (fun q => z ≤ q)) = Q at hret ⊢
  rw [e_Scan_takeSign] at hf
  obtain ⟨J24, eJ24, hf⟩ := b_let_inv hf
  have w24 : ∀ (y0 : Int32) (M : hM) (H : Heap) (locs : List Loc) (ls : Array Slot) (cells slots : Nat), (J24 y0).1 M = some Z → hm_I D dA hCl z k1 s M H locs cells slots → lv_has ls 2 [] → W p l e R s m args below meth c H locs cells slots Q (F0 m 24 ls [.int y0]) := by
    intro y0 M H locs ls cells slots hf hI hl
    rw [eJ24] at hf
    exact hret _ _ _ _ _ _ _ _ d_Scan_takeSign_24 hf hI
  obtain ⟨J19, eJ19, hf⟩ := b_let_inv hf
  have w19 : ∀  (M : hM) (H : Heap) (locs : List Loc) (ls : Array Slot) (cells slots : Nat), (J19).1 M = some Z → hm_I D dA hCl z k1 s M H locs cells slots → lv_has ls 2 [] → W p l e R s m args below meth c H locs cells slots Q (F0 m 19 ls []) := by
    intro M H locs ls cells slots hf hI hl
    rw [eJ19] at hf
    refine lv_iconst (v := 1) S.1 S.2.1 d_Scan_takeSign_19 (by decide) ?_
    refine lv_goto (tgt := 24) S.1 S.2.1 d_Scan_takeSign_20 (by decide) ?_
    exact w24 1 _ _ _ _ _ _ hf hI (lv_sub hl [] rfl)
  refine lv_aload_n S.1 S.2.1 d_Scan_takeSign_0 rfl (lv_at hl 0 rfl) ?_
  refine lv_iload_n S.1 S.2.1 d_Scan_takeSign_1 rfl (lv_at hl 1 rfl) ?_
  obtain ⟨⟨fs4, hefs4⟩, hf⟩ := b_is_inv hf
  obtain ⟨v1, N2, hg3, hf⟩ := b_call_inv hf
  refine x_call hI (hm_mo hg3) (va_runV (As := [.int p0]) (rest := []) S (c_Scan_takeIfNext l hg3) (cwV 1 S.2.2.2.2 (gi_V wd_170 wd_171 wd_172 wd_9 wd_173) rfl rfl rfl (by decide +kernel) ⟨Nat.le_trans (Nat.le_of_ble_eq_true rfl) hRf.1, Nat.le_trans (Nat.le_of_ble_eq_true rfl) hRf.2⟩) ⟨hm_B.blind, va_recv hK (hI.1.one hefs4) (ci := 8) (q0 := 0) rfl rfl, fun U hU hW => ⟨rfl, hm_B.of hK hG hI hU hW⟩⟩ rfl rfl hl.1 rfl (lv_room (Nat.le_of_ble_eq_true rfl)) d_Scan_takeSign_2 (hx_fit hI hR (hm_mo hg3) (hm_mo hf))) (fun H locs cells slots hI => ?_)
  refine W.eq (g2 := F0 m 5 ls [.int v1]) rfl ?_
  refine lv_if_ne (tgt := 19) S.1 S.2.1 d_Scan_takeSign_5 (by decide) (fun hc => ?_) (fun hc => ?_)
  · have hf := b_if_f hc hf
    exact w19  _ _ _ _ _ _ hf hI (lv_sub hl [] rfl)
  · have hf := b_if_t hc hf
    refine lv_aload_n S.1 S.2.1 d_Scan_takeSign_8 rfl (lv_at hl 0 rfl) ?_
    refine lv_aload_n S.1 S.2.1 d_Scan_takeSign_9 rfl (lv_at hl 0 rfl) ?_
    refine x_getI (ci := 8) (k := 2) S hK hI (fun w h => List.mem_cons_of_mem _ (i_Scan w h)) rfl (by decide) (List.mem_cons_of_mem _ wd_54) rfl d_Scan_takeSign_10 hf (fun v5 hf => ?_)
    obtain ⟨⟨fs9, hefs9⟩, hf⟩ := b_is_inv hf
    obtain ⟨v6, N7, hg8, hf⟩ := b_call_inv hf
    refine x_call hI (hm_mo hg8) (va_runV (As := [.int v5]) (rest := []) S (c_Scan_refuse l hg8) (cwV 1 S.2.2.2.2 (gi_V wd_98 wd_82 wd_83 wd_9 wd_84) rfl rfl rfl (by decide +kernel) ⟨Nat.le_trans (Nat.le_of_ble_eq_true rfl) hRf.1, Nat.le_trans (Nat.le_of_ble_eq_true rfl) hRf.2⟩) ⟨hm_B.blind, va_recv hK (hI.1.one hefs9) (ci := 8) (q0 := 0) rfl rfl, fun U hU hW => ⟨rfl, hm_B.of hK hG hI hU hW⟩⟩ rfl rfl hl.1 rfl (lv_room (Nat.le_of_ble_eq_true rfl)) d_Scan_takeSign_13 (hx_fit hI hR (hm_mo hg8) (hm_mo hf))) (fun H locs cells slots hI => ?_)
    refine W.eq (g2 := F0 m 16 ls [.int v6]) rfl ?_
    refine lv_if_eq (tgt := 23) S.1 S.2.1 d_Scan_takeSign_16 (by decide) (fun hc => ?_) (fun hc => ?_)
    · have hf := b_if_t hc hf
      refine lv_iconst (v := 0) S.1 S.2.1 d_Scan_takeSign_23 (by decide) ?_
      exact w24 0 _ _ _ _ _ _ hf hI (lv_sub hl [] rfl)
    · have hf := b_if_f hc hf
      exact w19  _ _ _ _ _ _ hf hI (lv_sub hl [] rfl)
set_option maxHeartbeats 4000000 in
set_option maxRecDepth 100000 in
theorem c_Scan_isNext (l : Launch) {D : va_G} {dA : Nat → ClassId} {aK aV : Nat → Nat} {z : Nat} {N : Nat} {h0 : Nat} {p0 : Int32} {M : hM} {Z : Int32 × hM} (hf : (f_Scan_isNext N h0 p0).1 M = some Z) : Met l y_Scan_isNext w_Scan_isNext ({ frames := 1, cells := Z.2.2.1 - M.2.1, slots := Z.2.2.2 - M.2.2, locals := 20 }) (va_Pc [.ref h0, .int p0] (hm_B D dA hCl (hTy dA) sT aK aV z M)) (hm_Q D dA hCl (hTy dA) sT aK aV z (some (.int Z.1)) Z.2) (Z.2.2.1 - M.2.1) (Z.2.2.2 - M.2.2) (fun q => z ≤ q) := by
  refine Met.ofW (cc := b_Scan_isNext) (maxL := 2) (ret := (some .boolean)) (by decide) rfl ?_
  intro p e s m args below meth c s₁ B hml hv
  obtain ⟨hav, hB⟩ := hv
  have S : CallFix p m c b_Scan_isNext 2 s args w_Scan_isNext R_Scan := ⟨B.exec, B.bytes, hml, findClass_of_methodNamed B.named, atoms_spec (ws := w_Scan_isNext) B.pre⟩
  have hr : meth.sig.returnType = (some .boolean) := B.returns
  have hlocks := B.notSynchronized
  have hK := hB.2.2.1
  have hG := hB.2.2.2.2.2
  have hI := hm_I.start hB
  rw [← hB.2.1]
  generalize M.2.2 = k1 at hI ⊢
  refine W.eq (g2 := F0 m 0 ((lg_sl ([.ref h0, .int p0]) ++ List.replicate (2 - (lg_sl ([.ref h0, .int p0])).length) Slot.unset).toArray) []) (by rw [hav]; exact lg_entry_eq m ([.ref h0, .int p0]) 2) ?_
  have hl := lv_entry ([.ref h0, .int p0]) (n := 2) (Nat.le_of_ble_eq_true rfl)
  generalize (lg_sl ([.ref h0, .int p0]) ++ List.replicate (2 - (lg_sl ([.ref h0, .int p0])).length) Slot.unset).toArray = ls at hl ⊢
  simp only [lvA_nil, lvA_i, lvA_l, lvA_a, lvA_r, Nat.zero_add, Nat.reduceAdd] at hl
  have hret : ∀ (v : Int32) (M : hM) (H : Heap) (locs : List Loc) (cells slots : Nat) (ls : Array Slot) (pc : Nat), decode b_Scan_isNext pc = .ok (.ireturn, 1) → (b_retN .boolean v).1 M = some Z → hm_I D dA hCl z k1 s M H locs cells slots → W p l e (headSpec w_Scan_isNext { frames := 1, cells := Z.2.2.1 - s.heap.size, slots := Z.2.2.2 - k1, locals := 20 }).room s m args below meth c H locs cells slots (MQ below (hm_Q D dA hCl (hTy dA) sT aK aV z (some (.int Z.1)) Z.2) args s (Z.2.2.1 - s.heap.size) (Z.2.2.2 - k1) (fun q => z ≤ q)) (F0 m pc ls [.int v]) := fun v M H locs cells slots ls pc hdg hf hI => x_retn S hK hG hI hr hlocks hdg hf
  have hR : Z.2.2.1 - s.heap.size ≤ (headSpec w_Scan_isNext { frames := 1, cells := Z.2.2.1 - s.heap.size, slots := Z.2.2.2 - k1, locals := 20 }).room.cells ∧ Z.2.2.2 - k1 ≤ (headSpec w_Scan_isNext { frames := 1, cells := Z.2.2.1 - s.heap.size, slots := Z.2.2.2 - k1, locals := 20 }).room.slots := ⟨Nat.le_refl _, Nat.le_refl _⟩
  have hRf : 1 ≤ (headSpec w_Scan_isNext { frames := 1, cells := Z.2.2.1 - s.heap.size, slots := Z.2.2.2 - k1, locals := 20 }).room.frames ∧ 20 ≤ (headSpec w_Scan_isNext { frames := 1, cells := Z.2.2.1 - s.heap.size, slots := Z.2.2.2 - k1, locals := 20 }).room.locals := ⟨Nat.le_refl _, Nat.le_refl _⟩
  generalize (headSpec w_Scan_isNext { frames := 1, cells := Z.2.2.1 - s.heap.size, slots := Z.2.2.2 - k1, locals := 20 }).room = R at hret hR hRf ⊢
  generalize (MQ below (hm_Q D dA hCl (hTy dA) sT aK aV z (some (.int Z.1)) Z.2) args s (Z.2.2.1 - s.heap.size) (Z.2.2.2 - k1) (fun q => z ≤ q)) = Q at hret ⊢
  rw [e_Scan_isNext] at hf
  obtain ⟨J17, eJ17, hf⟩ := b_let_inv hf
  have w17 : ∀ (y0 : Int32) (M : hM) (H : Heap) (locs : List Loc) (ls : Array Slot) (cells slots : Nat), (J17 y0).1 M = some Z → hm_I D dA hCl z k1 s M H locs cells slots → lv_has ls 2 [] → W p l e R s m args below meth c H locs cells slots Q (F0 m 17 ls [.int y0]) := by
    intro y0 M H locs ls cells slots hf hI hl
    rw [eJ17] at hf
    exact hret _ _ _ _ _ _ _ _ d_Scan_isNext_17 hf hI
  refine lv_aload_n S.1 S.2.1 d_Scan_isNext_0 rfl (lv_at hl 0 rfl) ?_
  obtain ⟨⟨fs4, hefs4⟩, hf⟩ := b_is_inv hf
  obtain ⟨r1, N2, hg3, hf⟩ := b_call_inv hf
  refine x_call hI (hm_mo hg3) (va_runV (As := []) (rest := []) S (c_Scan_skipBlanks l hg3) (cwV 0 S.2.2.2.2 (gi_V wd_89 wd_90 wd_91 wd_9 wd_92) rfl rfl rfl (by decide +kernel) ⟨Nat.le_trans (Nat.le_of_ble_eq_true rfl) hRf.1, Nat.le_trans (Nat.le_of_ble_eq_true rfl) hRf.2⟩) ⟨hm_B.blind, va_recv hK (hI.1.one hefs4) (ci := 8) (q0 := 0) rfl rfl, fun U hU hW => ⟨rfl, hm_B.of hK hG hI hU hW⟩⟩ rfl rfl hl.1 rfl (lv_room (Nat.le_of_ble_eq_true rfl)) d_Scan_isNext_1 (hx_fit hI hR (hm_mo hg3) (hm_mo hf))) (fun H locs cells slots hI => ?_)
  refine W.eq (g2 := F0 m 4 ls []) rfl ?_
  refine lv_aload_n S.1 S.2.1 d_Scan_isNext_4 rfl (lv_at hl 0 rfl) ?_
  obtain ⟨⟨fs8, hefs8⟩, hf⟩ := b_is_inv hf
  obtain ⟨v5, N6, hg7, hf⟩ := b_call_inv hf
  refine x_call hI (hm_mo hg7) (va_runV (As := []) (rest := []) S (c_Scan_signHere l hg7) (cwV 0 S.2.2.2.2 (gi_V wd_108 wd_109 wd_110 wd_9 wd_111) rfl rfl rfl (by decide +kernel) ⟨Nat.le_trans (Nat.le_of_ble_eq_true rfl) hRf.1, Nat.le_trans (Nat.le_of_ble_eq_true rfl) hRf.2⟩) ⟨hm_B.blind, va_recv hK (hI.1.one hefs8) (ci := 8) (q0 := 0) rfl rfl, fun U hU hW => ⟨rfl, hm_B.of hK hG hI hU hW⟩⟩ rfl rfl hl.1 rfl (lv_room (Nat.le_of_ble_eq_true rfl)) d_Scan_isNext_5 (hx_fit hI hR (hm_mo hg7) (hm_mo hf))) (fun H locs cells slots hI => ?_)
  refine W.eq (g2 := F0 m 8 ls [.int v5]) rfl ?_
  refine lv_iload_n S.1 S.2.1 d_Scan_isNext_8 rfl (lv_at hl 1 rfl) ?_
  refine lv_icmp_ne (tgt := 16) S.1 S.2.1 d_Scan_isNext_9 (by decide) (fun hc => ?_) (fun hc => ?_)
  · have hf := b_if_f hc hf
    refine lv_iconst (v := 0) S.1 S.2.1 d_Scan_isNext_16 (by decide) ?_
    exact w17 0 _ _ _ _ _ _ hf hI (lv_sub hl [] rfl)
  · have hf := b_if_t hc hf
    refine lv_iconst (v := 1) S.1 S.2.1 d_Scan_isNext_12 (by decide) ?_
    refine lv_goto (tgt := 17) S.1 S.2.1 d_Scan_isNext_13 (by decide) ?_
    exact w17 1 _ _ _ _ _ _ hf hI (lv_sub hl [] rfl)
set_option maxHeartbeats 4000000 in
set_option maxRecDepth 100000 in
theorem c_Reader_takeNames (l : Launch) {D : va_G} {dA : Nat → ClassId} {aK aV : Nat → Nat} {z : Nat} {N : Nat} {h0 : Nat} {p0 : Int32} {p1 : Option Nat} {M : hM} {Z : Int32 × hM} (hf : (f_Reader_takeNames N h0 p0 p1).1 M = some Z) : Met l y_Reader_takeNames w_Reader_takeNames ({ frames := 3, cells := Z.2.2.1 - M.2.1, slots := Z.2.2.2 - M.2.2, locals := 75 }) (va_Pc [.ref h0, .int p0, va_rf p1] (hm_B D dA hCl (hTy dA) sT aK aV z M)) (hm_Q D dA hCl (hTy dA) sT aK aV z (some (.int Z.1)) Z.2) (Z.2.2.1 - M.2.1) (Z.2.2.2 - M.2.2) (fun q => z ≤ q) := by
  refine Met.ofW (cc := b_Reader_takeNames) (maxL := 4) (ret := (some .boolean)) (by decide) rfl ?_
  intro p e s m args below meth c s₁ B hml hv
  obtain ⟨hav, hB⟩ := hv
  have S : CallFix p m c b_Reader_takeNames 4 s args w_Reader_takeNames R_Reader := ⟨B.exec, B.bytes, hml, findClass_of_methodNamed B.named, atoms_spec (ws := w_Reader_takeNames) B.pre⟩
  have hr : meth.sig.returnType = (some .boolean) := B.returns
  have hlocks := B.notSynchronized
  have hK := hB.2.2.1
  have hG := hB.2.2.2.2.2
  have hI := hm_I.start hB
  rw [← hB.2.1]
  generalize M.2.2 = k1 at hI ⊢
  refine W.eq (g2 := F0 m 0 ((lg_sl ([.ref h0, .int p0, va_rf p1]) ++ List.replicate (4 - (lg_sl ([.ref h0, .int p0, va_rf p1])).length) Slot.unset).toArray) []) (by rw [hav]; exact lg_entry_eq m ([.ref h0, .int p0, va_rf p1]) 4) ?_
  have hl := lv_entry ([.ref h0, .int p0, va_rf p1]) (n := 4) (by cases p1 <;> exact Nat.le_of_ble_eq_true rfl)
  generalize (lg_sl ([.ref h0, .int p0, va_rf p1]) ++ List.replicate (4 - (lg_sl ([.ref h0, .int p0, va_rf p1])).length) Slot.unset).toArray = ls at hl ⊢
  simp only [lvA_nil, lvA_i, lvA_l, lvA_a, lvA_r, Nat.zero_add, Nat.reduceAdd] at hl
  have hret : ∀ (v : Int32) (M : hM) (H : Heap) (locs : List Loc) (cells slots : Nat) (ls : Array Slot) (pc : Nat), decode b_Reader_takeNames pc = .ok (.ireturn, 1) → (b_retN .boolean v).1 M = some Z → hm_I D dA hCl z k1 s M H locs cells slots → W p l e (headSpec w_Reader_takeNames { frames := 3, cells := Z.2.2.1 - s.heap.size, slots := Z.2.2.2 - k1, locals := 75 }).room s m args below meth c H locs cells slots (MQ below (hm_Q D dA hCl (hTy dA) sT aK aV z (some (.int Z.1)) Z.2) args s (Z.2.2.1 - s.heap.size) (Z.2.2.2 - k1) (fun q => z ≤ q)) (F0 m pc ls [.int v]) := fun v M H locs cells slots ls pc hdg hf hI => x_retn S hK hG hI hr hlocks hdg hf
  have hR : Z.2.2.1 - s.heap.size ≤ (headSpec w_Reader_takeNames { frames := 3, cells := Z.2.2.1 - s.heap.size, slots := Z.2.2.2 - k1, locals := 75 }).room.cells ∧ Z.2.2.2 - k1 ≤ (headSpec w_Reader_takeNames { frames := 3, cells := Z.2.2.1 - s.heap.size, slots := Z.2.2.2 - k1, locals := 75 }).room.slots := ⟨Nat.le_refl _, Nat.le_refl _⟩
  have hRf : 3 ≤ (headSpec w_Reader_takeNames { frames := 3, cells := Z.2.2.1 - s.heap.size, slots := Z.2.2.2 - k1, locals := 75 }).room.frames ∧ 75 ≤ (headSpec w_Reader_takeNames { frames := 3, cells := Z.2.2.1 - s.heap.size, slots := Z.2.2.2 - k1, locals := 75 }).room.locals := ⟨Nat.le_refl _, Nat.le_refl _⟩
  generalize (headSpec w_Reader_takeNames { frames := 3, cells := Z.2.2.1 - s.heap.size, slots := Z.2.2.2 - k1, locals := 75 }).room = R at hret hR hRf ⊢
  generalize (MQ below (hm_Q D dA hCl (hTy dA) sT aK aV z (some (.int Z.1)) Z.2) args s (Z.2.2.1 - s.heap.size) (Z.2.2.2 - k1) (fun q => z ≤ q)) = Q at hret ⊢
  rw [e_Reader_takeNames] at hf
  have w2 : ∀ (n : Nat) (x3 : Int32) (M : hM) (H : Heap) (locs : List Loc) (ls : Array Slot) (cells slots : Nat), (f_Reader_takeNames_2 N h0 p0 p1  n x3).1 M = some Z → hm_I D dA hCl z k1 s M H locs cells slots → lv_has ls 4 [(0, .ref h0), (1, .int p0), (2, va_rf p1), (3, .int x3)] → W p l e R s m args below meth c H locs cells slots Q (F0 m 2 ls []) := by
    intro n
    induction n with
    | zero => intro x3 M H locs ls cells slots hf hI hl; cases hf
    | succ n2 ih2 =>
      intro x3 M H locs ls cells slots hf hI hl
      rw [e_Reader_takeNames_2] at hf
      refine lv_iload_n S.1 S.2.1 d_Reader_takeNames_2 rfl (lv_at hl 3 rfl) ?_
      refine lv_sipush (v := 200) S.1 S.2.1 d_Reader_takeNames_3 (by decide) ?_
      refine lv_icmp_gt (tgt := 63) S.1 S.2.1 d_Reader_takeNames_6 (by decide) (fun hc => ?_) (fun hc => ?_)
      · have hf := b_if_t hc hf
        refine lv_iconst (v := 0) S.1 S.2.1 d_Reader_takeNames_63 (by decide) ?_
        exact hret _ _ _ _ _ _ _ _ d_Reader_takeNames_64 hf hI
      · have hf := b_if_f hc hf
        refine lv_aload_n S.1 S.2.1 d_Reader_takeNames_9 rfl (lv_at hl 0 rfl) ?_
        refine x_getR (ci := 6) (k := 0) S hK hI (fun w h => List.mem_cons_of_mem _ (i_Reader w h)) rfl (by decide) (List.mem_cons_of_mem _ wd_15) rfl d_Reader_takeNames_10 hf (fun r1 hf => ?_)
        obtain ⟨a2, ea2, hg⟩ := b_nn_inv hf
        have hI0 := hI
        have hl0 := hl
        clear hf hI hl
        subst ea2
        have hf := hg
        have hI := hI0
        have hl := hl0
        clear hg hI0 hl0
        obtain ⟨⟨fs6, hefs6⟩, hf⟩ := b_is_inv hf
        obtain ⟨v3, N4, hg5, hf⟩ := b_call_inv hf
        refine x_call hI (hm_mo hg5) (va_runV (As := []) (rest := []) S (c_Scan_takeName l hg5) (cwV 0 S.2.2.2.2 (gi_V wd_116 wd_117 wd_118 wd_9 wd_119) rfl rfl rfl (by decide +kernel) ⟨Nat.le_trans (Nat.le_of_ble_eq_true rfl) hRf.1, Nat.le_trans (Nat.le_of_ble_eq_true rfl) hRf.2⟩) ⟨hm_B.blind, va_recv hK (hI.1.one hefs6) (ci := 8) (q0 := 0) rfl rfl, fun U hU hW => ⟨rfl, hm_B.of hK hG hI hU hW⟩⟩ rfl rfl hl.1 rfl (lv_room (Nat.le_of_ble_eq_true rfl)) d_Reader_takeNames_13 (hx_fit hI hR (hm_mo hg5) (hm_mo hf))) (fun H locs cells slots hI => ?_)
        refine W.eq (g2 := F0 m 16 ls [.int v3]) rfl ?_
        refine lv_if_eq (tgt := 41) S.1 S.2.1 d_Reader_takeNames_16 (by decide) (fun hc => ?_) (fun hc => ?_)
        · have hf := b_if_t hc hf
          refine lv_iconst (v := 0) S.1 S.2.1 d_Reader_takeNames_41 (by decide) ?_
          exact hret _ _ _ _ _ _ _ _ d_Reader_takeNames_42 hf hI
        · have hf := b_if_f hc hf
          refine lv_aload_n S.1 S.2.1 d_Reader_takeNames_19 rfl (lv_at hl 0 rfl) ?_
          refine lv_iload_n S.1 S.2.1 d_Reader_takeNames_20 rfl (lv_at hl 1 rfl) ?_
          refine lv_aload_n S.1 S.2.1 d_Reader_takeNames_21 rfl (lv_at hl 0 rfl) ?_
          refine x_getR (ci := 6) (k := 0) S hK hI (fun w h => List.mem_cons_of_mem _ (i_Reader w h)) rfl (by decide) (List.mem_cons_of_mem _ wd_15) rfl d_Reader_takeNames_22 hf (fun r7 hf => ?_)
          obtain ⟨a8, ea8, hg⟩ := b_nn_inv hf
          have hI0 := hI
          have hl0 := hl
          clear hf hI hl
          subst ea8
          have hf := hg
          have hI := hI0
          have hl := hl0
          clear hg hI0 hl0
          obtain ⟨⟨fs12, hefs12⟩, hf⟩ := b_is_inv hf
          obtain ⟨r9, N10, hg11, hf⟩ := b_call_inv hf
          refine x_call hI (hm_mo hg11) (va_runV (As := []) (rest := [.int p0, .ref h0]) S (c_Scan_takenName l hg11) (cwV 0 S.2.2.2.2 (gi_V wd_131 wd_132 wd_133 wd_9 wd_134) rfl rfl rfl (by decide +kernel) ⟨Nat.le_trans (Nat.le_of_ble_eq_true rfl) hRf.1, Nat.le_trans (Nat.le_of_ble_eq_true rfl) hRf.2⟩) ⟨hm_B.blind, va_recv hK (hI.1.one hefs12) (ci := 8) (q0 := 0) rfl rfl, fun U hU hW => ⟨rfl, hm_B.of hK hG hI hU hW⟩⟩ rfl rfl hl.1 rfl (lv_room (Nat.le_of_ble_eq_true rfl)) d_Reader_takeNames_25 (hx_fit hI hR (hm_mo hg11) (hm_mo hf))) (fun H locs cells slots hI => ?_)
          refine W.eq (g2 := F0 m 28 ls [va_rf r9, .int p0, .ref h0]) rfl ?_
          refine x_aload_n (r := p1) S d_Reader_takeNames_28 rfl (lv_at hl 2 rfl) ?_
          refine lv_ldc2 (v := (-1)) S.1 S.2.1 S.2.2.2.1 (S.2.2.2.2 _ (List.mem_cons_of_mem _ wd_182)) d_Reader_takeNames_29 ?_
          refine lv_ldc2 (v := (-1)) S.1 S.2.1 S.2.2.2.1 (S.2.2.2.2 _ (List.mem_cons_of_mem _ wd_182)) d_Reader_takeNames_32 ?_
          obtain ⟨⟨fs16, hefs16⟩, hf⟩ := b_is_inv hf
          obtain ⟨v13, N14, hg15, hf⟩ := b_call_inv hf
          refine x_call hI (hm_mo hg15) (va_runV (As := [.int p0, va_rf r9, va_rf p1, .long (-1), .long (-1)]) (rest := []) S (c_Reader_addRow l hg15) (cwV 5 S.2.2.2.2 (gi_V wd_162 wd_163 wd_164 wd_5 wd_165) rfl rfl rfl (by decide +kernel) ⟨Nat.le_trans (Nat.le_of_ble_eq_true rfl) hRf.1, Nat.le_trans (Nat.le_of_ble_eq_true rfl) hRf.2⟩) ⟨hm_B.blind, va_recv hK (hI.1.one hefs16) (ci := 6) (q0 := 0) rfl rfl, fun U hU hW => ⟨rfl, hm_B.of hK hG hI hU hW⟩⟩ rfl rfl hl.1 rfl (lv_room (Nat.le_of_ble_eq_true rfl)) d_Reader_takeNames_35 (hx_fit hI hR (hm_mo hg15) (hm_mo hf))) (fun H locs cells slots hI => ?_)
          refine W.eq (g2 := F0 m 38 ls [.int v13]) rfl ?_
          refine lv_if_ne (tgt := 43) S.1 S.2.1 d_Reader_takeNames_38 (by decide) (fun hc => ?_) (fun hc => ?_)
          · have hf := b_if_f hc hf
            refine lv_aload_n S.1 S.2.1 d_Reader_takeNames_43 rfl (lv_at hl 0 rfl) ?_
            refine x_getR (ci := 6) (k := 0) S hK hI (fun w h => List.mem_cons_of_mem _ (i_Reader w h)) rfl (by decide) (List.mem_cons_of_mem _ wd_15) rfl d_Reader_takeNames_44 hf (fun r17 hf => ?_)
            refine lv_bipush (v := 44) S.1 S.2.1 d_Reader_takeNames_47 (by decide) ?_
            obtain ⟨a18, ea18, hg⟩ := b_nn_inv hf
            have hI0 := hI
            have hl0 := hl
            clear hf hI hl
            subst ea18
            have hf := hg
            have hI := hI0
            have hl := hl0
            clear hg hI0 hl0
            obtain ⟨⟨fs22, hefs22⟩, hf⟩ := b_is_inv hf
            obtain ⟨v19, N20, hg21, hf⟩ := b_call_inv hf
            refine x_call hI (hm_mo hg21) (va_runV (As := [.int 44]) (rest := []) S (c_Scan_takeIfNext l hg21) (cwV 1 S.2.2.2.2 (gi_V wd_183 wd_171 wd_172 wd_9 wd_173) rfl rfl rfl (by decide +kernel) ⟨Nat.le_trans (Nat.le_of_ble_eq_true rfl) hRf.1, Nat.le_trans (Nat.le_of_ble_eq_true rfl) hRf.2⟩) ⟨hm_B.blind, va_recv hK (hI.1.one hefs22) (ci := 8) (q0 := 0) rfl rfl, fun U hU hW => ⟨rfl, hm_B.of hK hG hI hU hW⟩⟩ rfl rfl hl.1 rfl (lv_room (Nat.le_of_ble_eq_true rfl)) d_Reader_takeNames_49 (hx_fit hI hR (hm_mo hg21) (hm_mo hf))) (fun H locs cells slots hI => ?_)
            refine W.eq (g2 := F0 m 52 ls [.int v19]) rfl ?_
            refine lv_if_ne (tgt := 57) S.1 S.2.1 d_Reader_takeNames_52 (by decide) (fun hc => ?_) (fun hc => ?_)
            · have hf := b_if_f hc hf
              refine x_iinc (v := 1) (lv2 := [(0, .ref h0), (1, .int p0), (2, va_rf p1)]) S d_Reader_takeNames_57 hl 3 rfl (by decide) (by decide) [0, 1, 2] rfl ⟨⟨(by decide : (0 : Nat) ≠ 3), fun h => absurd (show (0 : Nat) + 1 = 3 from h) (by decide)⟩, ⟨⟨(by decide : (1 : Nat) ≠ 3), fun h => absurd (show (1 : Nat) + 1 = 3 from h) (by decide)⟩, ⟨⟨(by decide : (2 : Nat) ≠ 3), fun _ => rf_cat _⟩, trivial⟩⟩⟩ (fun ls hl => ?_)
              refine lv_goto (tgt := 2) S.1 S.2.1 d_Reader_takeNames_60 (by decide) ?_
              exact ih2 (x3 + 1) _ _ _ _ _ _ hf hI (lv_sub hl [1, 2, 3, 0] rfl)
            · have hf := b_if_t hc hf
              refine lv_iconst (v := 1) S.1 S.2.1 d_Reader_takeNames_55 (by decide) ?_
              exact hret _ _ _ _ _ _ _ _ d_Reader_takeNames_56 hf hI
          · have hf := b_if_t hc hf
            refine lv_iconst (v := 0) S.1 S.2.1 d_Reader_takeNames_41 (by decide) ?_
            exact hret _ _ _ _ _ _ _ _ d_Reader_takeNames_42 hf hI
  refine lv_iconst (v := 0) S.1 S.2.1 d_Reader_takeNames_0 (by decide) ?_
  refine x_istore_n (lv2 := [(0, .ref h0), (1, .int p0), (2, va_rf p1)]) S d_Reader_takeNames_1 rfl hl (by decide) [0, 1, 2] rfl ⟨⟨(by decide : (0 : Nat) ≠ 3), fun h => absurd (show (0 : Nat) + 1 = 3 from h) (by decide)⟩, ⟨⟨(by decide : (1 : Nat) ≠ 3), fun h => absurd (show (1 : Nat) + 1 = 3 from h) (by decide)⟩, ⟨⟨(by decide : (2 : Nat) ≠ 3), fun _ => rf_cat _⟩, trivial⟩⟩⟩ (fun ls hl => ?_)
  exact w2 N 0 _ _ _ _ _ _ hf hI (lv_sub hl [1, 2, 3, 0] rfl)
set_option maxHeartbeats 4000000 in
set_option maxRecDepth 100000 in
theorem c_Reader_takeFeature (l : Launch) {D : va_G} {dA : Nat → ClassId} {aK aV : Nat → Nat} {z : Nat} {N : Nat} {h0 : Nat} {M : hM} {Z : Int32 × hM} (hf : (f_Reader_takeFeature N h0 ).1 M = some Z) : Met l y_Reader_takeFeature w_Reader_takeFeature ({ frames := 4, cells := Z.2.2.1 - M.2.1, slots := Z.2.2.2 - M.2.2, locals := 98 }) (va_Pc [.ref h0] (hm_B D dA hCl (hTy dA) sT aK aV z M)) (hm_Q D dA hCl (hTy dA) sT aK aV z (some (.int Z.1)) Z.2) (Z.2.2.1 - M.2.1) (Z.2.2.2 - M.2.2) (fun q => z ≤ q) := by
  refine Met.ofW (cc := b_Reader_takeFeature) (maxL := 2) (ret := (some .boolean)) (by decide) rfl ?_
  intro p e s m args below meth c s₁ B hml hv
  obtain ⟨hav, hB⟩ := hv
  have S : CallFix p m c b_Reader_takeFeature 2 s args w_Reader_takeFeature R_Reader := ⟨B.exec, B.bytes, hml, findClass_of_methodNamed B.named, atoms_spec (ws := w_Reader_takeFeature) B.pre⟩
  have hr : meth.sig.returnType = (some .boolean) := B.returns
  have hlocks := B.notSynchronized
  have hK := hB.2.2.1
  have hG := hB.2.2.2.2.2
  have hI := hm_I.start hB
  rw [← hB.2.1]
  generalize M.2.2 = k1 at hI ⊢
  refine W.eq (g2 := F0 m 0 ((lg_sl ([.ref h0]) ++ List.replicate (2 - (lg_sl ([.ref h0])).length) Slot.unset).toArray) []) (by rw [hav]; exact lg_entry_eq m ([.ref h0]) 2) ?_
  have hl := lv_entry ([.ref h0]) (n := 2) (Nat.le_of_ble_eq_true rfl)
  generalize (lg_sl ([.ref h0]) ++ List.replicate (2 - (lg_sl ([.ref h0])).length) Slot.unset).toArray = ls at hl ⊢
  simp only [lvA_nil, lvA_i, lvA_l, lvA_a, lvA_r, Nat.zero_add, Nat.reduceAdd] at hl
  have hret : ∀ (v : Int32) (M : hM) (H : Heap) (locs : List Loc) (cells slots : Nat) (ls : Array Slot) (pc : Nat), decode b_Reader_takeFeature pc = .ok (.ireturn, 1) → (b_retN .boolean v).1 M = some Z → hm_I D dA hCl z k1 s M H locs cells slots → W p l e (headSpec w_Reader_takeFeature { frames := 4, cells := Z.2.2.1 - s.heap.size, slots := Z.2.2.2 - k1, locals := 98 }).room s m args below meth c H locs cells slots (MQ below (hm_Q D dA hCl (hTy dA) sT aK aV z (some (.int Z.1)) Z.2) args s (Z.2.2.1 - s.heap.size) (Z.2.2.2 - k1) (fun q => z ≤ q)) (F0 m pc ls [.int v]) := fun v M H locs cells slots ls pc hdg hf hI => x_retn S hK hG hI hr hlocks hdg hf
  have hR : Z.2.2.1 - s.heap.size ≤ (headSpec w_Reader_takeFeature { frames := 4, cells := Z.2.2.1 - s.heap.size, slots := Z.2.2.2 - k1, locals := 98 }).room.cells ∧ Z.2.2.2 - k1 ≤ (headSpec w_Reader_takeFeature { frames := 4, cells := Z.2.2.1 - s.heap.size, slots := Z.2.2.2 - k1, locals := 98 }).room.slots := ⟨Nat.le_refl _, Nat.le_refl _⟩
  have hRf : 4 ≤ (headSpec w_Reader_takeFeature { frames := 4, cells := Z.2.2.1 - s.heap.size, slots := Z.2.2.2 - k1, locals := 98 }).room.frames ∧ 98 ≤ (headSpec w_Reader_takeFeature { frames := 4, cells := Z.2.2.1 - s.heap.size, slots := Z.2.2.2 - k1, locals := 98 }).room.locals := ⟨Nat.le_refl _, Nat.le_refl _⟩
  generalize (headSpec w_Reader_takeFeature { frames := 4, cells := Z.2.2.1 - s.heap.size, slots := Z.2.2.2 - k1, locals := 98 }).room = R at hret hR hRf ⊢
  generalize (MQ below (hm_Q D dA hCl (hTy dA) sT aK aV z (some (.int Z.1)) Z.2) args s (Z.2.2.1 - s.heap.size) (Z.2.2.2 - k1) (fun q => z ≤ q)) = Q at hret ⊢
  rw [e_Reader_takeFeature] at hf
  obtain ⟨J67, eJ67, hf⟩ := b_let_inv hf
  have w67 : ∀ (x1 : Option Nat) (M : hM) (H : Heap) (locs : List Loc) (ls : Array Slot) (cells slots : Nat), (J67 x1).1 M = some Z → hm_I D dA hCl z k1 s M H locs cells slots → lv_has ls 2 [(0, .ref h0), (1, va_rf x1)] → W p l e R s m args below meth c H locs cells slots Q (F0 m 67 ls []) := by
    intro x1 M H locs ls cells slots hf hI hl
    rw [eJ67] at hf
    obtain ⟨J108, eJ108, hf⟩ := b_let_inv hf
    have w108 : ∀ (y0 : Int32) (M : hM) (H : Heap) (locs : List Loc) (ls : Array Slot) (cells slots : Nat), (J108 y0).1 M = some Z → hm_I D dA hCl z k1 s M H locs cells slots → lv_has ls 2 [] → W p l e R s m args below meth c H locs cells slots Q (F0 m 108 ls [.int y0]) := by
      intro y0 M H locs ls cells slots hf hI hl
      rw [eJ108] at hf
      exact hret _ _ _ _ _ _ _ _ d_Reader_takeFeature_108 hf hI
    obtain ⟨J103, eJ103, hf⟩ := b_let_inv hf
    have w103 : ∀  (M : hM) (H : Heap) (locs : List Loc) (ls : Array Slot) (cells slots : Nat), (J103).1 M = some Z → hm_I D dA hCl z k1 s M H locs cells slots → lv_has ls 2 [] → W p l e R s m args below meth c H locs cells slots Q (F0 m 103 ls []) := by
      intro M H locs ls cells slots hf hI hl
      rw [eJ103] at hf
      refine lv_iconst (v := 1) S.1 S.2.1 d_Reader_takeFeature_103 (by decide) ?_
      refine lv_goto (tgt := 108) S.1 S.2.1 d_Reader_takeFeature_104 (by decide) ?_
      exact w108 1 _ _ _ _ _ _ hf hI (lv_sub hl [] rfl)
    refine lv_aload_n S.1 S.2.1 d_Reader_takeFeature_67 rfl (lv_at hl 0 rfl) ?_
    refine x_getR (ci := 6) (k := 0) S hK hI (fun w h => List.mem_cons_of_mem _ (i_Reader w h)) rfl (by decide) (List.mem_cons_of_mem _ wd_15) rfl d_Reader_takeFeature_68 hf (fun r1 hf => ?_)
    refine lv_bipush (v := 58) S.1 S.2.1 d_Reader_takeFeature_71 (by decide) ?_
    obtain ⟨a2, ea2, hg⟩ := b_nn_inv hf
    have hI0 := hI
    have hl0 := hl
    clear hf hI hl
    subst ea2
    have hf := hg
    have hI := hI0
    have hl := hl0
    clear hg hI0 hl0
    obtain ⟨⟨fs6, hefs6⟩, hf⟩ := b_is_inv hf
    obtain ⟨v3, N4, hg5, hf⟩ := b_call_inv hf
    refine x_call hI (hm_mo hg5) (va_runV (As := [.int 58]) (rest := []) S (c_Scan_takeSign l hg5) (cwV 1 S.2.2.2.2 (gi_V wd_174 wd_175 wd_176 wd_9 wd_177) rfl rfl rfl (by decide +kernel) ⟨Nat.le_trans (Nat.le_of_ble_eq_true rfl) hRf.1, Nat.le_trans (Nat.le_of_ble_eq_true rfl) hRf.2⟩) ⟨hm_B.blind, va_recv hK (hI.1.one hefs6) (ci := 8) (q0 := 0) rfl rfl, fun U hU hW => ⟨rfl, hm_B.of hK hG hI hU hW⟩⟩ rfl rfl hl.1 rfl (lv_room (Nat.le_of_ble_eq_true rfl)) d_Reader_takeFeature_73 (hx_fit hI hR (hm_mo hg5) (hm_mo hf))) (fun H locs cells slots hI => ?_)
    refine W.eq (g2 := F0 m 76 ls [.int v3]) rfl ?_
    refine lv_if_ne (tgt := 81) S.1 S.2.1 d_Reader_takeFeature_76 (by decide) (fun hc => ?_) (fun hc => ?_)
    · have hf := b_if_f hc hf
      refine lv_aload_n S.1 S.2.1 d_Reader_takeFeature_81 rfl (lv_at hl 0 rfl) ?_
      refine x_getR (ci := 6) (k := 0) S hK hI (fun w h => List.mem_cons_of_mem _ (i_Reader w h)) rfl (by decide) (List.mem_cons_of_mem _ wd_15) rfl d_Reader_takeFeature_82 hf (fun r7 hf => ?_)
      refine lv_bipush (v := 59) S.1 S.2.1 d_Reader_takeFeature_85 (by decide) ?_
      obtain ⟨a8, ea8, hg⟩ := b_nn_inv hf
      have hI0 := hI
      have hl0 := hl
      clear hf hI hl
      subst ea8
      have hf := hg
      have hI := hI0
      have hl := hl0
      clear hg hI0 hl0
      obtain ⟨⟨fs12, hefs12⟩, hf⟩ := b_is_inv hf
      obtain ⟨v9, N10, hg11, hf⟩ := b_call_inv hf
      refine x_call hI (hm_mo hg11) (va_runV (As := [.int 59]) (rest := []) S (c_Scan_isNext l hg11) (cwV 1 S.2.2.2.2 (gi_V wd_178 wd_179 wd_180 wd_9 wd_181) rfl rfl rfl (by decide +kernel) ⟨Nat.le_trans (Nat.le_of_ble_eq_true rfl) hRf.1, Nat.le_trans (Nat.le_of_ble_eq_true rfl) hRf.2⟩) ⟨hm_B.blind, va_recv hK (hI.1.one hefs12) (ci := 8) (q0 := 0) rfl rfl, fun U hU hW => ⟨rfl, hm_B.of hK hG hI hU hW⟩⟩ rfl rfl hl.1 rfl (lv_room (Nat.le_of_ble_eq_true rfl)) d_Reader_takeFeature_87 (hx_fit hI hR (hm_mo hg11) (hm_mo hf))) (fun H locs cells slots hI => ?_)
      refine W.eq (g2 := F0 m 90 ls [.int v9]) rfl ?_
      refine lv_if_ne (tgt := 103) S.1 S.2.1 d_Reader_takeFeature_90 (by decide) (fun hc => ?_) (fun hc => ?_)
      · have hf := b_if_f hc hf
        exact w103  _ _ _ _ _ _ hf hI (lv_sub hl [] rfl)
      · have hf := b_if_t hc hf
        refine lv_aload_n S.1 S.2.1 d_Reader_takeFeature_93 rfl (lv_at hl 0 rfl) ?_
        refine lv_bipush (v := 9) S.1 S.2.1 d_Reader_takeFeature_94 (by decide) ?_
        refine x_aload_n (r := x1) S d_Reader_takeFeature_96 rfl (lv_at hl 1 rfl) ?_
        obtain ⟨⟨fs16, hefs16⟩, hf⟩ := b_is_inv hf
        obtain ⟨v13, N14, hg15, hf⟩ := b_call_inv hf
        refine x_call hI (hm_mo hg15) (va_runV (As := [.int 9, va_rf x1]) (rest := []) S (c_Reader_takeNames l hg15) (cwV 2 S.2.2.2.2 (gi_V wd_184 wd_185 wd_186 wd_5 wd_187) rfl rfl rfl (by decide +kernel) ⟨Nat.le_trans (Nat.le_of_ble_eq_true rfl) hRf.1, Nat.le_trans (Nat.le_of_ble_eq_true rfl) hRf.2⟩) ⟨hm_B.blind, va_recv hK (hI.1.one hefs16) (ci := 6) (q0 := 0) rfl rfl, fun U hU hW => ⟨rfl, hm_B.of hK hG hI hU hW⟩⟩ rfl rfl hl.1 rfl (lv_room (Nat.le_of_ble_eq_true rfl)) d_Reader_takeFeature_97 (hx_fit hI hR (hm_mo hg15) (hm_mo hf))) (fun H locs cells slots hI => ?_)
        refine W.eq (g2 := F0 m 100 ls [.int v13]) rfl ?_
        refine lv_if_eq (tgt := 107) S.1 S.2.1 d_Reader_takeFeature_100 (by decide) (fun hc => ?_) (fun hc => ?_)
        · have hf := b_if_t hc hf
          refine lv_iconst (v := 0) S.1 S.2.1 d_Reader_takeFeature_107 (by decide) ?_
          exact w108 0 _ _ _ _ _ _ hf hI (lv_sub hl [] rfl)
        · have hf := b_if_f hc hf
          exact w103  _ _ _ _ _ _ hf hI (lv_sub hl [] rfl)
    · have hf := b_if_t hc hf
      refine lv_iconst (v := 0) S.1 S.2.1 d_Reader_takeFeature_79 (by decide) ?_
      exact hret _ _ _ _ _ _ _ _ d_Reader_takeFeature_80 hf hI
  refine lv_aload_n S.1 S.2.1 d_Reader_takeFeature_0 rfl (lv_at hl 0 rfl) ?_
  refine x_getR (ci := 6) (k := 0) S hK hI (fun w h => List.mem_cons_of_mem _ (i_Reader w h)) rfl (by decide) (List.mem_cons_of_mem _ wd_15) rfl d_Reader_takeFeature_1 hf (fun r17 hf => ?_)
  obtain ⟨a18, ea18, hg⟩ := b_nn_inv hf
  have hI0 := hI
  have hl0 := hl
  clear hf hI hl
  subst ea18
  have hf := hg
  have hI := hI0
  have hl := hl0
  clear hg hI0 hl0
  obtain ⟨⟨fs22, hefs22⟩, hf⟩ := b_is_inv hf
  obtain ⟨v19, N20, hg21, hf⟩ := b_call_inv hf
  refine x_call hI (hm_mo hg21) (va_runV (As := []) (rest := []) S (c_Scan_takeName l hg21) (cwV 0 S.2.2.2.2 (gi_V wd_116 wd_117 wd_118 wd_9 wd_119) rfl rfl rfl (by decide +kernel) ⟨Nat.le_trans (Nat.le_of_ble_eq_true rfl) hRf.1, Nat.le_trans (Nat.le_of_ble_eq_true rfl) hRf.2⟩) ⟨hm_B.blind, va_recv hK (hI.1.one hefs22) (ci := 8) (q0 := 0) rfl rfl, fun U hU hW => ⟨rfl, hm_B.of hK hG hI hU hW⟩⟩ rfl rfl hl.1 rfl (lv_room (Nat.le_of_ble_eq_true rfl)) d_Reader_takeFeature_4 (hx_fit hI hR (hm_mo hg21) (hm_mo hf))) (fun H locs cells slots hI => ?_)
  refine W.eq (g2 := F0 m 7 ls [.int v19]) rfl ?_
  refine lv_if_ne (tgt := 12) S.1 S.2.1 d_Reader_takeFeature_7 (by decide) (fun hc => ?_) (fun hc => ?_)
  · have hf := b_if_f hc hf
    refine lv_aload_n S.1 S.2.1 d_Reader_takeFeature_12 rfl (lv_at hl 0 rfl) ?_
    refine x_getR (ci := 6) (k := 0) S hK hI (fun w h => List.mem_cons_of_mem _ (i_Reader w h)) rfl (by decide) (List.mem_cons_of_mem _ wd_15) rfl d_Reader_takeFeature_13 hf (fun r23 hf => ?_)
    obtain ⟨a24, ea24, hg⟩ := b_nn_inv hf
    have hI0 := hI
    have hl0 := hl
    clear hf hI hl
    subst ea24
    have hf := hg
    have hI := hI0
    have hl := hl0
    clear hg hI0 hl0
    obtain ⟨⟨fs28, hefs28⟩, hf⟩ := b_is_inv hf
    obtain ⟨r25, N26, hg27, hf⟩ := b_call_inv hf
    refine x_call hI (hm_mo hg27) (va_runV (As := []) (rest := []) S (c_Scan_takenName l hg27) (cwV 0 S.2.2.2.2 (gi_V wd_131 wd_132 wd_133 wd_9 wd_134) rfl rfl rfl (by decide +kernel) ⟨Nat.le_trans (Nat.le_of_ble_eq_true rfl) hRf.1, Nat.le_trans (Nat.le_of_ble_eq_true rfl) hRf.2⟩) ⟨hm_B.blind, va_recv hK (hI.1.one hefs28) (ci := 8) (q0 := 0) rfl rfl, fun U hU hW => ⟨rfl, hm_B.of hK hG hI hU hW⟩⟩ rfl rfl hl.1 rfl (lv_room (Nat.le_of_ble_eq_true rfl)) d_Reader_takeFeature_16 (hx_fit hI hR (hm_mo hg27) (hm_mo hf))) (fun H locs cells slots hI => ?_)
    refine W.eq (g2 := F0 m 19 ls [va_rf r25]) rfl ?_
    refine x_astore_n (r := r25) (lv2 := [(0, .ref h0)]) S d_Reader_takeFeature_19 rfl hl (by decide) [0] rfl ⟨⟨(by decide : (0 : Nat) ≠ 1), fun _ => rfl⟩, trivial⟩ (fun ls hl => ?_)
    refine x_aload_n (r := r25) S d_Reader_takeFeature_20 rfl (lv_at hl 0 rfl) ?_
    refine lv_aload_n S.1 S.2.1 d_Reader_takeFeature_21 rfl (lv_at hl 1 rfl) ?_
    refine x_getR (ci := 6) (k := 4) S hK hI (fun w h => List.mem_cons_of_mem _ (i_Reader w h)) rfl (by decide) (List.mem_cons_of_mem _ wd_21) rfl d_Reader_takeFeature_22 hf (fun r29 hf => ?_)
    refine lv_aload_n S.1 S.2.1 d_Reader_takeFeature_25 rfl (lv_at hl 1 rfl) ?_
    refine x_getI (ci := 6) (k := 5) S hK hI (fun w h => List.mem_cons_of_mem _ (i_Reader w h)) rfl (by decide) (List.mem_cons_of_mem _ wd_65) rfl d_Reader_takeFeature_26 hf (fun v30 hf => ?_)
    obtain ⟨a31, ea31, hg⟩ := b_nn_inv hf
    have hI0 := hI
    have hl0 := hl
    clear hf hI hl
    subst ea31
    have hf := hg
    have hI := hI0
    have hl := hl0
    clear hg hI0 hl0
    obtain ⟨⟨fs35, hefs35⟩, hf⟩ := b_is_inv hf
    obtain ⟨v32, N33, hg34, hf⟩ := b_call_inv hf
    refine x_call hI (hm_mo hg34) (va_runV (As := [va_rf r29, .int v30]) (rest := []) S (c_Name_foldsLikeOneOf l hg34) (cwV 2 S.2.2.2.2 (gi_V wd_77 wd_78 wd_79 wd_75 wd_80) rfl rfl rfl (by decide +kernel) ⟨Nat.le_trans (Nat.le_of_ble_eq_true rfl) hRf.1, Nat.le_trans (Nat.le_of_ble_eq_true rfl) hRf.2⟩) ⟨hm_B.blind, va_recv hK (hI.1.one hefs35) (ci := 2) (q0 := 0) rfl rfl, fun U hU hW => ⟨rfl, hm_B.of hK hG hI hU hW⟩⟩ rfl rfl hl.1 rfl (lv_room (Nat.le_of_ble_eq_true rfl)) d_Reader_takeFeature_29 (hx_fit hI hR (hm_mo hg34) (hm_mo hf))) (fun H locs cells slots hI => ?_)
    refine W.eq (g2 := F0 m 32 ls [.int v32]) rfl ?_
    refine lv_if_ne (tgt := 67) S.1 S.2.1 d_Reader_takeFeature_32 (by decide) (fun hc => ?_) (fun hc => ?_)
    · have hf := b_if_f hc hf
      exact w67 (some a31) _ _ _ _ _ _ hf hI (lv_sub hl [1, 0] rfl)
    · have hf := b_if_t hc hf
      refine lv_aload_n S.1 S.2.1 d_Reader_takeFeature_35 rfl (lv_at hl 1 rfl) ?_
      refine x_getI (ci := 6) (k := 5) S hK hI (fun w h => List.mem_cons_of_mem _ (i_Reader w h)) rfl (by decide) (List.mem_cons_of_mem _ wd_65) rfl d_Reader_takeFeature_36 hf (fun v36 hf => ?_)
      refine lv_aload_n S.1 S.2.1 d_Reader_takeFeature_39 rfl (lv_at hl 1 rfl) ?_
      refine x_getR (ci := 6) (k := 4) S hK hI (fun w h => List.mem_cons_of_mem _ (i_Reader w h)) rfl (by decide) (List.mem_cons_of_mem _ wd_21) rfl d_Reader_takeFeature_40 hf (fun r37 hf => ?_)
      obtain ⟨a38, ea38, hg⟩ := b_nn_inv hf
      have hI0 := hI
      have hl0 := hl
      clear hf hI hl
      subst ea38
      have hf := hg
      have hI := hI0
      have hl := hl0
      clear hg hI0 hl0
      refine x_len (t := 3) S hK hI rfl d_Reader_takeFeature_43 hf (fun v39 hf => ?_)
      refine lv_icmp_ge (tgt := 67) S.1 S.2.1 d_Reader_takeFeature_44 (by decide) (fun hc => ?_) (fun hc => ?_)
      · have hf := b_if_t hc hf
        exact w67 (some a31) _ _ _ _ _ _ hf hI (lv_sub hl [1, 0] rfl)
      · have hf := b_if_f hc hf
        refine lv_aload_n S.1 S.2.1 d_Reader_takeFeature_47 rfl (lv_at hl 1 rfl) ?_
        refine x_getR (ci := 6) (k := 4) S hK hI (fun w h => List.mem_cons_of_mem _ (i_Reader w h)) rfl (by decide) (List.mem_cons_of_mem _ wd_21) rfl d_Reader_takeFeature_48 hf (fun r40 hf => ?_)
        refine lv_aload_n S.1 S.2.1 d_Reader_takeFeature_51 rfl (lv_at hl 1 rfl) ?_
        refine x_getI (ci := 6) (k := 5) S hK hI (fun w h => List.mem_cons_of_mem _ (i_Reader w h)) rfl (by decide) (List.mem_cons_of_mem _ wd_65) rfl d_Reader_takeFeature_52 hf (fun v41 hf => ?_)
        refine lv_aload_n S.1 S.2.1 d_Reader_takeFeature_55 rfl (lv_at hl 0 rfl) ?_
        obtain ⟨a42, ea42, hg⟩ := b_nn_inv hf
        have hI0 := hI
        have hl0 := hl
        clear hf hI hl
        subst ea42
        have hf := hg
        have hI := hI0
        have hl := hl0
        clear hg hI0 hl0
        refine x_aast (t := 3) (r := (some a31)) S hK hI rfl rfl d_Reader_takeFeature_56 hf (fun M H locs hf hI => ?_)
        refine lv_aload_n S.1 S.2.1 d_Reader_takeFeature_57 rfl (lv_at hl 1 rfl) ?_
        refine lv_dup S.1 S.2.1 d_Reader_takeFeature_58 rfl ?_
        refine x_getI (ci := 6) (k := 5) S hK hI (fun w h => List.mem_cons_of_mem _ (i_Reader w h)) rfl (by decide) (List.mem_cons_of_mem _ wd_65) rfl d_Reader_takeFeature_59 hf (fun v43 hf => ?_)
        refine lv_iconst (v := 1) S.1 S.2.1 d_Reader_takeFeature_62 (by decide) ?_
        refine lv_iadd S.1 S.2.1 d_Reader_takeFeature_63 ?_
        refine x_put (ci := 6) (k := 5) S hK hI (fun w h => List.mem_cons_of_mem _ (i_Reader w h)) t_Reader t_Reader_ok n_Reader rfl (by decide) (List.mem_cons_of_mem _ wd_65) rfl (Or.inl rfl) (by rfl) rfl d_Reader_takeFeature_64 hf (fun M H locs hf hI => ?_)
        exact w67 (some a31) _ _ _ _ _ _ hf hI (lv_sub hl [1, 0] rfl)
  · have hf := b_if_t hc hf
    refine lv_iconst (v := 0) S.1 S.2.1 d_Reader_takeFeature_10 (by decide) ?_
    exact hret _ _ _ _ _ _ _ _ d_Reader_takeFeature_11 hf hI
set_option maxHeartbeats 4000000 in
set_option maxRecDepth 100000 in
theorem c_Reader_takeScript (l : Launch) {D : va_G} {dA : Nat → ClassId} {aK aV : Nat → Nat} {z : Nat} {N : Nat} {h0 : Nat} {M : hM} {Z : Int32 × hM} (hf : (f_Reader_takeScript N h0 ).1 M = some Z) : Met l y_Reader_takeScript w_Reader_takeScript ({ frames := 3, cells := Z.2.2.1 - M.2.1, slots := Z.2.2.2 - M.2.2, locals := 75 }) (va_Pc [.ref h0] (hm_B D dA hCl (hTy dA) sT aK aV z M)) (hm_Q D dA hCl (hTy dA) sT aK aV z (some (.int Z.1)) Z.2) (Z.2.2.1 - M.2.1) (Z.2.2.2 - M.2.2) (fun q => z ≤ q) := by
  refine Met.ofW (cc := b_Reader_takeScript) (maxL := 2) (ret := (some .boolean)) (by decide) rfl ?_
  intro p e s m args below meth c s₁ B hml hv
  obtain ⟨hav, hB⟩ := hv
  have S : CallFix p m c b_Reader_takeScript 2 s args w_Reader_takeScript R_Reader := ⟨B.exec, B.bytes, hml, findClass_of_methodNamed B.named, atoms_spec (ws := w_Reader_takeScript) B.pre⟩
  have hr : meth.sig.returnType = (some .boolean) := B.returns
  have hlocks := B.notSynchronized
  have hK := hB.2.2.1
  have hG := hB.2.2.2.2.2
  have hI := hm_I.start hB
  rw [← hB.2.1]
  generalize M.2.2 = k1 at hI ⊢
  refine W.eq (g2 := F0 m 0 ((lg_sl ([.ref h0]) ++ List.replicate (2 - (lg_sl ([.ref h0])).length) Slot.unset).toArray) []) (by rw [hav]; exact lg_entry_eq m ([.ref h0]) 2) ?_
  have hl := lv_entry ([.ref h0]) (n := 2) (Nat.le_of_ble_eq_true rfl)
  generalize (lg_sl ([.ref h0]) ++ List.replicate (2 - (lg_sl ([.ref h0])).length) Slot.unset).toArray = ls at hl ⊢
  simp only [lvA_nil, lvA_i, lvA_l, lvA_a, lvA_r, Nat.zero_add, Nat.reduceAdd] at hl
  have hret : ∀ (v : Int32) (M : hM) (H : Heap) (locs : List Loc) (cells slots : Nat) (ls : Array Slot) (pc : Nat), decode b_Reader_takeScript pc = .ok (.ireturn, 1) → (b_retN .boolean v).1 M = some Z → hm_I D dA hCl z k1 s M H locs cells slots → W p l e (headSpec w_Reader_takeScript { frames := 3, cells := Z.2.2.1 - s.heap.size, slots := Z.2.2.2 - k1, locals := 75 }).room s m args below meth c H locs cells slots (MQ below (hm_Q D dA hCl (hTy dA) sT aK aV z (some (.int Z.1)) Z.2) args s (Z.2.2.1 - s.heap.size) (Z.2.2.2 - k1) (fun q => z ≤ q)) (F0 m pc ls [.int v]) := fun v M H locs cells slots ls pc hdg hf hI => x_retn S hK hG hI hr hlocks hdg hf
  have hR : Z.2.2.1 - s.heap.size ≤ (headSpec w_Reader_takeScript { frames := 3, cells := Z.2.2.1 - s.heap.size, slots := Z.2.2.2 - k1, locals := 75 }).room.cells ∧ Z.2.2.2 - k1 ≤ (headSpec w_Reader_takeScript { frames := 3, cells := Z.2.2.1 - s.heap.size, slots := Z.2.2.2 - k1, locals := 75 }).room.slots := ⟨Nat.le_refl _, Nat.le_refl _⟩
  have hRf : 3 ≤ (headSpec w_Reader_takeScript { frames := 3, cells := Z.2.2.1 - s.heap.size, slots := Z.2.2.2 - k1, locals := 75 }).room.frames ∧ 75 ≤ (headSpec w_Reader_takeScript { frames := 3, cells := Z.2.2.1 - s.heap.size, slots := Z.2.2.2 - k1, locals := 75 }).room.locals := ⟨Nat.le_refl _, Nat.le_refl _⟩
  generalize (headSpec w_Reader_takeScript { frames := 3, cells := Z.2.2.1 - s.heap.size, slots := Z.2.2.2 - k1, locals := 75 }).room = R at hret hR hRf ⊢
  generalize (MQ below (hm_Q D dA hCl (hTy dA) sT aK aV z (some (.int Z.1)) Z.2) args s (Z.2.2.1 - s.heap.size) (Z.2.2.2 - k1) (fun q => z ≤ q)) = Q at hret ⊢
  rw [e_Reader_takeScript] at hf
  obtain ⟨J58, eJ58, hf⟩ := b_let_inv hf
  have w58 : ∀ (y0 : Int32) (M : hM) (H : Heap) (locs : List Loc) (ls : Array Slot) (cells slots : Nat), (J58 y0).1 M = some Z → hm_I D dA hCl z k1 s M H locs cells slots → lv_has ls 2 [] → W p l e R s m args below meth c H locs cells slots Q (F0 m 58 ls [.int y0]) := by
    intro y0 M H locs ls cells slots hf hI hl
    rw [eJ58] at hf
    exact hret _ _ _ _ _ _ _ _ d_Reader_takeScript_58 hf hI
  obtain ⟨J57, eJ57, hf⟩ := b_let_inv hf
  have w57 : ∀  (M : hM) (H : Heap) (locs : List Loc) (ls : Array Slot) (cells slots : Nat), (J57).1 M = some Z → hm_I D dA hCl z k1 s M H locs cells slots → lv_has ls 2 [] → W p l e R s m args below meth c H locs cells slots Q (F0 m 57 ls []) := by
    intro M H locs ls cells slots hf hI hl
    rw [eJ57] at hf
    refine lv_iconst (v := 0) S.1 S.2.1 d_Reader_takeScript_57 (by decide) ?_
    exact w58 0 _ _ _ _ _ _ hf hI (lv_sub hl [] rfl)
  refine lv_aload_n S.1 S.2.1 d_Reader_takeScript_0 rfl (lv_at hl 0 rfl) ?_
  refine x_getR (ci := 6) (k := 0) S hK hI (fun w h => List.mem_cons_of_mem _ (i_Reader w h)) rfl (by decide) (List.mem_cons_of_mem _ wd_15) rfl d_Reader_takeScript_1 hf (fun r1 hf => ?_)
  obtain ⟨a2, ea2, hg⟩ := b_nn_inv hf
  have hI0 := hI
  have hl0 := hl
  clear hf hI hl
  subst ea2
  have hf := hg
  have hI := hI0
  have hl := hl0
  clear hg hI0 hl0
  obtain ⟨⟨fs6, hefs6⟩, hf⟩ := b_is_inv hf
  obtain ⟨v3, N4, hg5, hf⟩ := b_call_inv hf
  refine x_call hI (hm_mo hg5) (va_runV (As := []) (rest := []) S (c_Scan_takeName l hg5) (cwV 0 S.2.2.2.2 (gi_V wd_116 wd_117 wd_118 wd_9 wd_119) rfl rfl rfl (by decide +kernel) ⟨Nat.le_trans (Nat.le_of_ble_eq_true rfl) hRf.1, Nat.le_trans (Nat.le_of_ble_eq_true rfl) hRf.2⟩) ⟨hm_B.blind, va_recv hK (hI.1.one hefs6) (ci := 8) (q0 := 0) rfl rfl, fun U hU hW => ⟨rfl, hm_B.of hK hG hI hU hW⟩⟩ rfl rfl hl.1 rfl (lv_room (Nat.le_of_ble_eq_true rfl)) d_Reader_takeScript_4 (hx_fit hI hR (hm_mo hg5) (hm_mo hf))) (fun H locs cells slots hI => ?_)
  refine W.eq (g2 := F0 m 7 ls [.int v3]) rfl ?_
  refine lv_if_ne (tgt := 12) S.1 S.2.1 d_Reader_takeScript_7 (by decide) (fun hc => ?_) (fun hc => ?_)
  · have hf := b_if_f hc hf
    refine lv_aload_n S.1 S.2.1 d_Reader_takeScript_12 rfl (lv_at hl 0 rfl) ?_
    refine x_getR (ci := 6) (k := 0) S hK hI (fun w h => List.mem_cons_of_mem _ (i_Reader w h)) rfl (by decide) (List.mem_cons_of_mem _ wd_15) rfl d_Reader_takeScript_13 hf (fun r7 hf => ?_)
    obtain ⟨a8, ea8, hg⟩ := b_nn_inv hf
    have hI0 := hI
    have hl0 := hl
    clear hf hI hl
    subst ea8
    have hf := hg
    have hI := hI0
    have hl := hl0
    clear hg hI0 hl0
    obtain ⟨⟨fs12, hefs12⟩, hf⟩ := b_is_inv hf
    obtain ⟨r9, N10, hg11, hf⟩ := b_call_inv hf
    refine x_call hI (hm_mo hg11) (va_runV (As := []) (rest := []) S (c_Scan_takenName l hg11) (cwV 0 S.2.2.2.2 (gi_V wd_131 wd_132 wd_133 wd_9 wd_134) rfl rfl rfl (by decide +kernel) ⟨Nat.le_trans (Nat.le_of_ble_eq_true rfl) hRf.1, Nat.le_trans (Nat.le_of_ble_eq_true rfl) hRf.2⟩) ⟨hm_B.blind, va_recv hK (hI.1.one hefs12) (ci := 8) (q0 := 0) rfl rfl, fun U hU hW => ⟨rfl, hm_B.of hK hG hI hU hW⟩⟩ rfl rfl hl.1 rfl (lv_room (Nat.le_of_ble_eq_true rfl)) d_Reader_takeScript_16 (hx_fit hI hR (hm_mo hg11) (hm_mo hf))) (fun H locs cells slots hI => ?_)
    refine W.eq (g2 := F0 m 19 ls [va_rf r9]) rfl ?_
    refine x_astore_n (r := r9) (lv2 := [(0, .ref h0)]) S d_Reader_takeScript_19 rfl hl (by decide) [0] rfl ⟨⟨(by decide : (0 : Nat) ≠ 1), fun _ => rfl⟩, trivial⟩ (fun ls hl => ?_)
    refine lv_aload_n S.1 S.2.1 d_Reader_takeScript_20 rfl (lv_at hl 1 rfl) ?_
    refine x_getR (ci := 6) (k := 0) S hK hI (fun w h => List.mem_cons_of_mem _ (i_Reader w h)) rfl (by decide) (List.mem_cons_of_mem _ wd_15) rfl d_Reader_takeScript_21 hf (fun r13 hf => ?_)
    obtain ⟨a14, ea14, hg⟩ := b_nn_inv hf
    have hI0 := hI
    have hl0 := hl
    clear hf hI hl
    subst ea14
    have hf := hg
    have hI := hI0
    have hl := hl0
    clear hg hI0 hl0
    obtain ⟨⟨fs18, hefs18⟩, hf⟩ := b_is_inv hf
    obtain ⟨v15, N16, hg17, hf⟩ := b_call_inv hf
    refine x_call hI (hm_mo hg17) (va_runV (As := []) (rest := []) S (c_Scan_takeName l hg17) (cwV 0 S.2.2.2.2 (gi_V wd_116 wd_117 wd_118 wd_9 wd_119) rfl rfl rfl (by decide +kernel) ⟨Nat.le_trans (Nat.le_of_ble_eq_true rfl) hRf.1, Nat.le_trans (Nat.le_of_ble_eq_true rfl) hRf.2⟩) ⟨hm_B.blind, va_recv hK (hI.1.one hefs18) (ci := 8) (q0 := 0) rfl rfl, fun U hU hW => ⟨rfl, hm_B.of hK hG hI hU hW⟩⟩ rfl rfl hl.1 rfl (lv_room (Nat.le_of_ble_eq_true rfl)) d_Reader_takeScript_24 (hx_fit hI hR (hm_mo hg17) (hm_mo hf))) (fun H locs cells slots hI => ?_)
    refine W.eq (g2 := F0 m 27 ls [.int v15]) rfl ?_
    refine lv_if_eq (tgt := 57) S.1 S.2.1 d_Reader_takeScript_27 (by decide) (fun hc => ?_) (fun hc => ?_)
    · have hf := b_if_t hc hf
      exact w57  _ _ _ _ _ _ hf hI (lv_sub hl [] rfl)
    · have hf := b_if_f hc hf
      refine lv_aload_n S.1 S.2.1 d_Reader_takeScript_30 rfl (lv_at hl 1 rfl) ?_
      refine lv_bipush (v := 14) S.1 S.2.1 d_Reader_takeScript_31 (by decide) ?_
      refine x_aload_n (r := r9) S d_Reader_takeScript_33 rfl (lv_at hl 0 rfl) ?_
      refine lv_aload_n S.1 S.2.1 d_Reader_takeScript_34 rfl (lv_at hl 1 rfl) ?_
      refine x_getR (ci := 6) (k := 0) S hK hI (fun w h => List.mem_cons_of_mem _ (i_Reader w h)) rfl (by decide) (List.mem_cons_of_mem _ wd_15) rfl d_Reader_takeScript_35 hf (fun r19 hf => ?_)
      obtain ⟨a20, ea20, hg⟩ := b_nn_inv hf
      have hI0 := hI
      have hl0 := hl
      clear hf hI hl
      subst ea20
      have hf := hg
      have hI := hI0
      have hl := hl0
      clear hg hI0 hl0
      obtain ⟨⟨fs24, hefs24⟩, hf⟩ := b_is_inv hf
      obtain ⟨r21, N22, hg23, hf⟩ := b_call_inv hf
      refine x_call hI (hm_mo hg23) (va_runV (As := []) (rest := [va_rf r9, .int 14, .ref h0]) S (c_Scan_takenName l hg23) (cwV 0 S.2.2.2.2 (gi_V wd_131 wd_132 wd_133 wd_9 wd_134) rfl rfl rfl (by decide +kernel) ⟨Nat.le_trans (Nat.le_of_ble_eq_true rfl) hRf.1, Nat.le_trans (Nat.le_of_ble_eq_true rfl) hRf.2⟩) ⟨hm_B.blind, va_recv hK (hI.1.one hefs24) (ci := 8) (q0 := 0) rfl rfl, fun U hU hW => ⟨rfl, hm_B.of hK hG hI hU hW⟩⟩ rfl rfl hl.1 rfl (lv_room (by simp only [List.map_cons, List.map_nil, List.sum_cons, List.sum_nil, rf_cat, cat_i, cat_l, cat_a, cat_n]; exact Nat.le_of_ble_eq_true rfl)) d_Reader_takeScript_38 (hx_fit hI hR (hm_mo hg23) (hm_mo hf))) (fun H locs cells slots hI => ?_)
      refine W.eq (g2 := F0 m 41 ls [va_rf r21, va_rf r9, .int 14, .ref h0]) rfl ?_
      refine lv_ldc2 (v := (-1)) S.1 S.2.1 S.2.2.2.1 (S.2.2.2.2 _ (List.mem_cons_of_mem _ wd_182)) d_Reader_takeScript_41 ?_
      refine lv_ldc2 (v := (-1)) S.1 S.2.1 S.2.2.2.1 (S.2.2.2.2 _ (List.mem_cons_of_mem _ wd_182)) d_Reader_takeScript_44 ?_
      obtain ⟨⟨fs28, hefs28⟩, hf⟩ := b_is_inv hf
      obtain ⟨v25, N26, hg27, hf⟩ := b_call_inv hf
      refine x_call hI (hm_mo hg27) (va_runV (As := [.int 14, va_rf r9, va_rf r21, .long (-1), .long (-1)]) (rest := []) S (c_Reader_addRow l hg27) (cwV 5 S.2.2.2.2 (gi_V wd_162 wd_163 wd_164 wd_5 wd_165) rfl rfl rfl (by decide +kernel) ⟨Nat.le_trans (Nat.le_of_ble_eq_true rfl) hRf.1, Nat.le_trans (Nat.le_of_ble_eq_true rfl) hRf.2⟩) ⟨hm_B.blind, va_recv hK (hI.1.one hefs28) (ci := 6) (q0 := 0) rfl rfl, fun U hU hW => ⟨rfl, hm_B.of hK hG hI hU hW⟩⟩ rfl rfl hl.1 rfl (lv_room (Nat.le_of_ble_eq_true rfl)) d_Reader_takeScript_47 (hx_fit hI hR (hm_mo hg27) (hm_mo hf))) (fun H locs cells slots hI => ?_)
      refine W.eq (g2 := F0 m 50 ls [.int v25]) rfl ?_
      refine lv_if_eq (tgt := 57) S.1 S.2.1 d_Reader_takeScript_50 (by decide) (fun hc => ?_) (fun hc => ?_)
      · have hf := b_if_t hc hf
        exact w57  _ _ _ _ _ _ hf hI (lv_sub hl [] rfl)
      · have hf := b_if_f hc hf
        refine lv_iconst (v := 1) S.1 S.2.1 d_Reader_takeScript_53 (by decide) ?_
        refine lv_goto (tgt := 58) S.1 S.2.1 d_Reader_takeScript_54 (by decide) ?_
        exact w58 1 _ _ _ _ _ _ hf hI (lv_sub hl [] rfl)
  · have hf := b_if_t hc hf
    refine lv_iconst (v := 0) S.1 S.2.1 d_Reader_takeScript_10 (by decide) ?_
    exact hret _ _ _ _ _ _ _ _ d_Reader_takeScript_11 hf hI
set_option maxHeartbeats 4000000 in
set_option maxRecDepth 100000 in
theorem c_Reader_takeFile (l : Launch) {D : va_G} {dA : Nat → ClassId} {aK aV : Nat → Nat} {z : Nat} {N : Nat} {h0 : Nat} {M : hM} {Z : Int32 × hM} (hf : (f_Reader_takeFile N h0 ).1 M = some Z) : Met l y_Reader_takeFile w_Reader_takeFile ({ frames := 3, cells := Z.2.2.1 - M.2.1, slots := Z.2.2.2 - M.2.2, locals := 75 }) (va_Pc [.ref h0] (hm_B D dA hCl (hTy dA) sT aK aV z M)) (hm_Q D dA hCl (hTy dA) sT aK aV z (some (.int Z.1)) Z.2) (Z.2.2.1 - M.2.1) (Z.2.2.2 - M.2.2) (fun q => z ≤ q) := by
  refine Met.ofW (cc := b_Reader_takeFile) (maxL := 2) (ret := (some .boolean)) (by decide) rfl ?_
  intro p e s m args below meth c s₁ B hml hv
  obtain ⟨hav, hB⟩ := hv
  have S : CallFix p m c b_Reader_takeFile 2 s args w_Reader_takeFile R_Reader := ⟨B.exec, B.bytes, hml, findClass_of_methodNamed B.named, atoms_spec (ws := w_Reader_takeFile) B.pre⟩
  have hr : meth.sig.returnType = (some .boolean) := B.returns
  have hlocks := B.notSynchronized
  have hK := hB.2.2.1
  have hG := hB.2.2.2.2.2
  have hI := hm_I.start hB
  rw [← hB.2.1]
  generalize M.2.2 = k1 at hI ⊢
  refine W.eq (g2 := F0 m 0 ((lg_sl ([.ref h0]) ++ List.replicate (2 - (lg_sl ([.ref h0])).length) Slot.unset).toArray) []) (by rw [hav]; exact lg_entry_eq m ([.ref h0]) 2) ?_
  have hl := lv_entry ([.ref h0]) (n := 2) (Nat.le_of_ble_eq_true rfl)
  generalize (lg_sl ([.ref h0]) ++ List.replicate (2 - (lg_sl ([.ref h0])).length) Slot.unset).toArray = ls at hl ⊢
  simp only [lvA_nil, lvA_i, lvA_l, lvA_a, lvA_r, Nat.zero_add, Nat.reduceAdd] at hl
  have hret : ∀ (v : Int32) (M : hM) (H : Heap) (locs : List Loc) (cells slots : Nat) (ls : Array Slot) (pc : Nat), decode b_Reader_takeFile pc = .ok (.ireturn, 1) → (b_retN .boolean v).1 M = some Z → hm_I D dA hCl z k1 s M H locs cells slots → W p l e (headSpec w_Reader_takeFile { frames := 3, cells := Z.2.2.1 - s.heap.size, slots := Z.2.2.2 - k1, locals := 75 }).room s m args below meth c H locs cells slots (MQ below (hm_Q D dA hCl (hTy dA) sT aK aV z (some (.int Z.1)) Z.2) args s (Z.2.2.1 - s.heap.size) (Z.2.2.2 - k1) (fun q => z ≤ q)) (F0 m pc ls [.int v]) := fun v M H locs cells slots ls pc hdg hf hI => x_retn S hK hG hI hr hlocks hdg hf
  have hR : Z.2.2.1 - s.heap.size ≤ (headSpec w_Reader_takeFile { frames := 3, cells := Z.2.2.1 - s.heap.size, slots := Z.2.2.2 - k1, locals := 75 }).room.cells ∧ Z.2.2.2 - k1 ≤ (headSpec w_Reader_takeFile { frames := 3, cells := Z.2.2.1 - s.heap.size, slots := Z.2.2.2 - k1, locals := 75 }).room.slots := ⟨Nat.le_refl _, Nat.le_refl _⟩
  have hRf : 3 ≤ (headSpec w_Reader_takeFile { frames := 3, cells := Z.2.2.1 - s.heap.size, slots := Z.2.2.2 - k1, locals := 75 }).room.frames ∧ 75 ≤ (headSpec w_Reader_takeFile { frames := 3, cells := Z.2.2.1 - s.heap.size, slots := Z.2.2.2 - k1, locals := 75 }).room.locals := ⟨Nat.le_refl _, Nat.le_refl _⟩
  generalize (headSpec w_Reader_takeFile { frames := 3, cells := Z.2.2.1 - s.heap.size, slots := Z.2.2.2 - k1, locals := 75 }).room = R at hret hR hRf ⊢
  generalize (MQ below (hm_Q D dA hCl (hTy dA) sT aK aV z (some (.int Z.1)) Z.2) args s (Z.2.2.1 - s.heap.size) (Z.2.2.2 - k1) (fun q => z ≤ q)) = Q at hret ⊢
  rw [e_Reader_takeFile] at hf
  obtain ⟨J63, eJ63, hf⟩ := b_let_inv hf
  have w63 : ∀ (y0 : Int32) (M : hM) (H : Heap) (locs : List Loc) (ls : Array Slot) (cells slots : Nat), (J63 y0).1 M = some Z → hm_I D dA hCl z k1 s M H locs cells slots → lv_has ls 2 [] → W p l e R s m args below meth c H locs cells slots Q (F0 m 63 ls [.int y0]) := by
    intro y0 M H locs ls cells slots hf hI hl
    rw [eJ63] at hf
    exact hret _ _ _ _ _ _ _ _ d_Reader_takeFile_63 hf hI
  obtain ⟨J62, eJ62, hf⟩ := b_let_inv hf
  have w62 : ∀  (M : hM) (H : Heap) (locs : List Loc) (ls : Array Slot) (cells slots : Nat), (J62).1 M = some Z → hm_I D dA hCl z k1 s M H locs cells slots → lv_has ls 2 [] → W p l e R s m args below meth c H locs cells slots Q (F0 m 62 ls []) := by
    intro M H locs ls cells slots hf hI hl
    rw [eJ62] at hf
    refine lv_iconst (v := 0) S.1 S.2.1 d_Reader_takeFile_62 (by decide) ?_
    exact w63 0 _ _ _ _ _ _ hf hI (lv_sub hl [] rfl)
  refine lv_aload_n S.1 S.2.1 d_Reader_takeFile_0 rfl (lv_at hl 0 rfl) ?_
  refine x_getR (ci := 6) (k := 0) S hK hI (fun w h => List.mem_cons_of_mem _ (i_Reader w h)) rfl (by decide) (List.mem_cons_of_mem _ wd_15) rfl d_Reader_takeFile_1 hf (fun r1 hf => ?_)
  obtain ⟨a2, ea2, hg⟩ := b_nn_inv hf
  have hI0 := hI
  have hl0 := hl
  clear hf hI hl
  subst ea2
  have hf := hg
  have hI := hI0
  have hl := hl0
  clear hg hI0 hl0
  obtain ⟨⟨fs6, hefs6⟩, hf⟩ := b_is_inv hf
  obtain ⟨v3, N4, hg5, hf⟩ := b_call_inv hf
  refine x_call hI (hm_mo hg5) (va_runV (As := []) (rest := []) S (c_Scan_takeName l hg5) (cwV 0 S.2.2.2.2 (gi_V wd_116 wd_117 wd_118 wd_9 wd_119) rfl rfl rfl (by decide +kernel) ⟨Nat.le_trans (Nat.le_of_ble_eq_true rfl) hRf.1, Nat.le_trans (Nat.le_of_ble_eq_true rfl) hRf.2⟩) ⟨hm_B.blind, va_recv hK (hI.1.one hefs6) (ci := 8) (q0 := 0) rfl rfl, fun U hU hW => ⟨rfl, hm_B.of hK hG hI hU hW⟩⟩ rfl rfl hl.1 rfl (lv_room (Nat.le_of_ble_eq_true rfl)) d_Reader_takeFile_4 (hx_fit hI hR (hm_mo hg5) (hm_mo hf))) (fun H locs cells slots hI => ?_)
  refine W.eq (g2 := F0 m 7 ls [.int v3]) rfl ?_
  refine lv_if_ne (tgt := 12) S.1 S.2.1 d_Reader_takeFile_7 (by decide) (fun hc => ?_) (fun hc => ?_)
  · have hf := b_if_f hc hf
    refine lv_aload_n S.1 S.2.1 d_Reader_takeFile_12 rfl (lv_at hl 0 rfl) ?_
    refine x_getR (ci := 6) (k := 0) S hK hI (fun w h => List.mem_cons_of_mem _ (i_Reader w h)) rfl (by decide) (List.mem_cons_of_mem _ wd_15) rfl d_Reader_takeFile_13 hf (fun r7 hf => ?_)
    obtain ⟨a8, ea8, hg⟩ := b_nn_inv hf
    have hI0 := hI
    have hl0 := hl
    clear hf hI hl
    subst ea8
    have hf := hg
    have hI := hI0
    have hl := hl0
    clear hg hI0 hl0
    obtain ⟨⟨fs12, hefs12⟩, hf⟩ := b_is_inv hf
    obtain ⟨r9, N10, hg11, hf⟩ := b_call_inv hf
    refine x_call hI (hm_mo hg11) (va_runV (As := []) (rest := []) S (c_Scan_takenName l hg11) (cwV 0 S.2.2.2.2 (gi_V wd_131 wd_132 wd_133 wd_9 wd_134) rfl rfl rfl (by decide +kernel) ⟨Nat.le_trans (Nat.le_of_ble_eq_true rfl) hRf.1, Nat.le_trans (Nat.le_of_ble_eq_true rfl) hRf.2⟩) ⟨hm_B.blind, va_recv hK (hI.1.one hefs12) (ci := 8) (q0 := 0) rfl rfl, fun U hU hW => ⟨rfl, hm_B.of hK hG hI hU hW⟩⟩ rfl rfl hl.1 rfl (lv_room (Nat.le_of_ble_eq_true rfl)) d_Reader_takeFile_16 (hx_fit hI hR (hm_mo hg11) (hm_mo hf))) (fun H locs cells slots hI => ?_)
    refine W.eq (g2 := F0 m 19 ls [va_rf r9]) rfl ?_
    refine x_astore_n (r := r9) (lv2 := [(0, .ref h0)]) S d_Reader_takeFile_19 rfl hl (by decide) [0] rfl ⟨⟨(by decide : (0 : Nat) ≠ 1), fun _ => rfl⟩, trivial⟩ (fun ls hl => ?_)
    refine lv_aload_n S.1 S.2.1 d_Reader_takeFile_20 rfl (lv_at hl 1 rfl) ?_
    refine x_getR (ci := 6) (k := 0) S hK hI (fun w h => List.mem_cons_of_mem _ (i_Reader w h)) rfl (by decide) (List.mem_cons_of_mem _ wd_15) rfl d_Reader_takeFile_21 hf (fun r13 hf => ?_)
    obtain ⟨a14, ea14, hg⟩ := b_nn_inv hf
    have hI0 := hI
    have hl0 := hl
    clear hf hI hl
    subst ea14
    have hf := hg
    have hI := hI0
    have hl := hl0
    clear hg hI0 hl0
    obtain ⟨⟨fs18, hefs18⟩, hf⟩ := b_is_inv hf
    obtain ⟨r15, N16, hg17, hf⟩ := b_call_inv hf
    refine x_call hI (hm_mo hg17) (va_runV (As := []) (rest := []) S (c_Scan_skipBlanks l hg17) (cwV 0 S.2.2.2.2 (gi_V wd_196 wd_90 wd_91 wd_9 wd_92) rfl rfl rfl (by decide +kernel) ⟨Nat.le_trans (Nat.le_of_ble_eq_true rfl) hRf.1, Nat.le_trans (Nat.le_of_ble_eq_true rfl) hRf.2⟩) ⟨hm_B.blind, va_recv hK (hI.1.one hefs18) (ci := 8) (q0 := 0) rfl rfl, fun U hU hW => ⟨rfl, hm_B.of hK hG hI hU hW⟩⟩ rfl rfl hl.1 rfl (lv_room (Nat.le_of_ble_eq_true rfl)) d_Reader_takeFile_24 (hx_fit hI hR (hm_mo hg17) (hm_mo hf))) (fun H locs cells slots hI => ?_)
    refine W.eq (g2 := F0 m 27 ls []) rfl ?_
    refine lv_aload_n S.1 S.2.1 d_Reader_takeFile_27 rfl (lv_at hl 1 rfl) ?_
    refine x_getR (ci := 6) (k := 0) S hK hI (fun w h => List.mem_cons_of_mem _ (i_Reader w h)) rfl (by decide) (List.mem_cons_of_mem _ wd_15) rfl d_Reader_takeFile_28 hf (fun r19 hf => ?_)
    obtain ⟨a20, ea20, hg⟩ := b_nn_inv hf
    have hI0 := hI
    have hl0 := hl
    clear hf hI hl
    subst ea20
    have hf := hg
    have hI := hI0
    have hl := hl0
    clear hg hI0 hl0
    obtain ⟨⟨fs24, hefs24⟩, hf⟩ := b_is_inv hf
    obtain ⟨v21, N22, hg23, hf⟩ := b_call_inv hf
    refine x_call hI (hm_mo hg23) (va_runV (As := []) (rest := []) S (c_Scan_takeNumber l hg23) (cwV 0 S.2.2.2.2 (gi_V wd_197 wd_139 wd_140 wd_9 wd_141) rfl rfl rfl (by decide +kernel) ⟨Nat.le_trans (Nat.le_of_ble_eq_true rfl) hRf.1, Nat.le_trans (Nat.le_of_ble_eq_true rfl) hRf.2⟩) ⟨hm_B.blind, va_recv hK (hI.1.one hefs24) (ci := 8) (q0 := 0) rfl rfl, fun U hU hW => ⟨rfl, hm_B.of hK hG hI hU hW⟩⟩ rfl rfl hl.1 rfl (lv_room (Nat.le_of_ble_eq_true rfl)) d_Reader_takeFile_31 (hx_fit hI hR (hm_mo hg23) (hm_mo hf))) (fun H locs cells slots hI => ?_)
    refine W.eq (g2 := F0 m 34 ls [.int v21]) rfl ?_
    refine lv_if_eq (tgt := 62) S.1 S.2.1 d_Reader_takeFile_34 (by decide) (fun hc => ?_) (fun hc => ?_)
    · have hf := b_if_t hc hf
      exact w62  _ _ _ _ _ _ hf hI (lv_sub hl [] rfl)
    · have hf := b_if_f hc hf
      refine lv_aload_n S.1 S.2.1 d_Reader_takeFile_37 rfl (lv_at hl 1 rfl) ?_
      refine lv_bipush (v := 15) S.1 S.2.1 d_Reader_takeFile_38 (by decide) ?_
      refine x_aload_n (r := r9) S d_Reader_takeFile_40 rfl (lv_at hl 0 rfl) ?_
      refine lv_null S.1 S.2.1 d_Reader_takeFile_41 ?_
      refine lv_aload_n S.1 S.2.1 d_Reader_takeFile_42 rfl (lv_at hl 1 rfl) ?_
      refine x_getR (ci := 6) (k := 0) S hK hI (fun w h => List.mem_cons_of_mem _ (i_Reader w h)) rfl (by decide) (List.mem_cons_of_mem _ wd_15) rfl d_Reader_takeFile_43 hf (fun r25 hf => ?_)
      obtain ⟨a26, ea26, hg⟩ := b_nn_inv hf
      have hI0 := hI
      have hl0 := hl
      clear hf hI hl
      subst ea26
      have hf := hg
      have hI := hI0
      have hl := hl0
      clear hg hI0 hl0
      refine x_getL (ci := 8) (k := 6) S hK hI (fun w h => List.mem_cons_of_mem _ (i_Scan w h)) rfl (by decide) (List.mem_cons_of_mem _ wd_147) rfl d_Reader_takeFile_46 hf (fun v27 hf => ?_)
      refine lv_ldc2 (v := (-1)) S.1 S.2.1 S.2.2.2.1 (S.2.2.2.2 _ (List.mem_cons_of_mem _ wd_182)) d_Reader_takeFile_49 ?_
      obtain ⟨⟨fs31, hefs31⟩, hf⟩ := b_is_inv hf
      obtain ⟨v28, N29, hg30, hf⟩ := b_call_inv hf
      refine x_call hI (hm_mo hg30) (va_runV (As := [.int 15, va_rf r9, .null, .long v27, .long (-1)]) (rest := []) S (c_Reader_addRow l hg30) (cwV 5 S.2.2.2.2 (gi_V wd_162 wd_163 wd_164 wd_5 wd_165) rfl rfl rfl (by decide +kernel) ⟨Nat.le_trans (Nat.le_of_ble_eq_true rfl) hRf.1, Nat.le_trans (Nat.le_of_ble_eq_true rfl) hRf.2⟩) ⟨hm_B.blind, va_recv hK (hI.1.one hefs31) (ci := 6) (q0 := 0) rfl rfl, fun U hU hW => ⟨rfl, hm_B.of hK hG hI hU hW⟩⟩ rfl rfl hl.1 rfl (lv_room (Nat.le_of_ble_eq_true rfl)) d_Reader_takeFile_52 (hx_fit hI hR (hm_mo hg30) (hm_mo hf))) (fun H locs cells slots hI => ?_)
      refine W.eq (g2 := F0 m 55 ls [.int v28]) rfl ?_
      refine lv_if_eq (tgt := 62) S.1 S.2.1 d_Reader_takeFile_55 (by decide) (fun hc => ?_) (fun hc => ?_)
      · have hf := b_if_t hc hf
        exact w62  _ _ _ _ _ _ hf hI (lv_sub hl [] rfl)
      · have hf := b_if_f hc hf
        refine lv_iconst (v := 1) S.1 S.2.1 d_Reader_takeFile_58 (by decide) ?_
        refine lv_goto (tgt := 63) S.1 S.2.1 d_Reader_takeFile_59 (by decide) ?_
        exact w63 1 _ _ _ _ _ _ hf hI (lv_sub hl [] rfl)
  · have hf := b_if_t hc hf
    refine lv_iconst (v := 0) S.1 S.2.1 d_Reader_takeFile_10 (by decide) ?_
    exact hret _ _ _ _ _ _ _ _ d_Reader_takeFile_11 hf hI
set_option maxHeartbeats 4000000 in
set_option maxRecDepth 100000 in
theorem c_Kind_isList (l : Launch) {D : va_G} {dA : Nat → ClassId} {aK aV : Nat → Nat} {z : Nat} {N : Nat} {p0 : Int32} {M : hM} {Z : Int32 × hM} (hf : (f_Kind_isList N p0).1 M = some Z) : Met l y_Kind_isList w_Kind_isList ({ frames := 0, cells := Z.2.2.1 - M.2.1, slots := Z.2.2.2 - M.2.2, locals := 0 }) (va_Pc [.int p0] (hm_B D dA hCl (hTy dA) sT aK aV z M)) (hm_Q D dA hCl (hTy dA) sT aK aV z (some (.int Z.1)) Z.2) (Z.2.2.1 - M.2.1) (Z.2.2.2 - M.2.2) (fun q => z ≤ q) := by
  refine Met.ofW (cc := b_Kind_isList) (maxL := 1) (ret := (some .boolean)) (by decide) rfl ?_
  intro p e s m args below meth c s₁ B hml hv
  obtain ⟨hav, hB⟩ := hv
  have S : CallFix p m c b_Kind_isList 1 s args w_Kind_isList R_Kind := ⟨B.exec, B.bytes, hml, findClass_of_methodNamed B.named, atoms_spec (ws := w_Kind_isList) B.pre⟩
  have hr : meth.sig.returnType = (some .boolean) := B.returns
  have hlocks := B.notSynchronized
  have hK := hB.2.2.1
  have hG := hB.2.2.2.2.2
  have hI := hm_I.start hB
  rw [← hB.2.1]
  generalize M.2.2 = k1 at hI ⊢
  refine W.eq (g2 := F0 m 0 ((lg_sl ([.int p0]) ++ List.replicate (1 - (lg_sl ([.int p0])).length) Slot.unset).toArray) []) (by rw [hav]; exact lg_entry_eq m ([.int p0]) 1) ?_
  have hl := lv_entry ([.int p0]) (n := 1) (Nat.le_of_ble_eq_true rfl)
  generalize (lg_sl ([.int p0]) ++ List.replicate (1 - (lg_sl ([.int p0])).length) Slot.unset).toArray = ls at hl ⊢
  simp only [lvA_nil, lvA_i, lvA_l, lvA_a, lvA_r, Nat.zero_add, Nat.reduceAdd] at hl
  have hret : ∀ (v : Int32) (M : hM) (H : Heap) (locs : List Loc) (cells slots : Nat) (ls : Array Slot) (pc : Nat), decode b_Kind_isList pc = .ok (.ireturn, 1) → (b_retN .boolean v).1 M = some Z → hm_I D dA hCl z k1 s M H locs cells slots → W p l e (headSpec w_Kind_isList { frames := 0, cells := Z.2.2.1 - s.heap.size, slots := Z.2.2.2 - k1, locals := 0 }).room s m args below meth c H locs cells slots (MQ below (hm_Q D dA hCl (hTy dA) sT aK aV z (some (.int Z.1)) Z.2) args s (Z.2.2.1 - s.heap.size) (Z.2.2.2 - k1) (fun q => z ≤ q)) (F0 m pc ls [.int v]) := fun v M H locs cells slots ls pc hdg hf hI => x_retn S hK hG hI hr hlocks hdg hf
  have hR : Z.2.2.1 - s.heap.size ≤ (headSpec w_Kind_isList { frames := 0, cells := Z.2.2.1 - s.heap.size, slots := Z.2.2.2 - k1, locals := 0 }).room.cells ∧ Z.2.2.2 - k1 ≤ (headSpec w_Kind_isList { frames := 0, cells := Z.2.2.1 - s.heap.size, slots := Z.2.2.2 - k1, locals := 0 }).room.slots := ⟨Nat.le_refl _, Nat.le_refl _⟩
  have hRf : 0 ≤ (headSpec w_Kind_isList { frames := 0, cells := Z.2.2.1 - s.heap.size, slots := Z.2.2.2 - k1, locals := 0 }).room.frames ∧ 0 ≤ (headSpec w_Kind_isList { frames := 0, cells := Z.2.2.1 - s.heap.size, slots := Z.2.2.2 - k1, locals := 0 }).room.locals := ⟨Nat.le_refl _, Nat.le_refl _⟩
  generalize (headSpec w_Kind_isList { frames := 0, cells := Z.2.2.1 - s.heap.size, slots := Z.2.2.2 - k1, locals := 0 }).room = R at hret hR hRf ⊢
  generalize (MQ below (hm_Q D dA hCl (hTy dA) sT aK aV z (some (.int Z.1)) Z.2) args s (Z.2.2.1 - s.heap.size) (Z.2.2.2 - k1) (fun q => z ≤ q)) = Q at hret ⊢
  rw [e_Kind_isList] at hf
  obtain ⟨J17, eJ17, hf⟩ := b_let_inv hf
  have w17 : ∀ (y0 : Int32) (M : hM) (H : Heap) (locs : List Loc) (ls : Array Slot) (cells slots : Nat), (J17 y0).1 M = some Z → hm_I D dA hCl z k1 s M H locs cells slots → lv_has ls 1 [] → W p l e R s m args below meth c H locs cells slots Q (F0 m 17 ls [.int y0]) := by
    intro y0 M H locs ls cells slots hf hI hl
    rw [eJ17] at hf
    exact hret _ _ _ _ _ _ _ _ d_Kind_isList_17 hf hI
  obtain ⟨J16, eJ16, hf⟩ := b_let_inv hf
  have w16 : ∀  (M : hM) (H : Heap) (locs : List Loc) (ls : Array Slot) (cells slots : Nat), (J16).1 M = some Z → hm_I D dA hCl z k1 s M H locs cells slots → lv_has ls 1 [] → W p l e R s m args below meth c H locs cells slots Q (F0 m 16 ls []) := by
    intro M H locs ls cells slots hf hI hl
    rw [eJ16] at hf
    refine lv_iconst (v := 0) S.1 S.2.1 d_Kind_isList_16 (by decide) ?_
    exact w17 0 _ _ _ _ _ _ hf hI (lv_sub hl [] rfl)
  refine lv_iload_n S.1 S.2.1 d_Kind_isList_0 rfl (lv_at hl 0 rfl) ?_
  refine lv_bipush (v := 10) S.1 S.2.1 d_Kind_isList_1 (by decide) ?_
  refine lv_icmp_lt (tgt := 16) S.1 S.2.1 d_Kind_isList_3 (by decide) (fun hc => ?_) (fun hc => ?_)
  · have hf := b_if_t hc hf
    exact w16  _ _ _ _ _ _ hf hI (lv_sub hl [] rfl)
  · have hf := b_if_f hc hf
    refine lv_iload_n S.1 S.2.1 d_Kind_isList_6 rfl (lv_at hl 0 rfl) ?_
    refine lv_bipush (v := 13) S.1 S.2.1 d_Kind_isList_7 (by decide) ?_
    refine lv_icmp_gt (tgt := 16) S.1 S.2.1 d_Kind_isList_9 (by decide) (fun hc => ?_) (fun hc => ?_)
    · have hf := b_if_t hc hf
      exact w16  _ _ _ _ _ _ hf hI (lv_sub hl [] rfl)
    · have hf := b_if_f hc hf
      refine lv_iconst (v := 1) S.1 S.2.1 d_Kind_isList_12 (by decide) ?_
      refine lv_goto (tgt := 17) S.1 S.2.1 d_Kind_isList_13 (by decide) ?_
      exact w17 1 _ _ _ _ _ _ hf hI (lv_sub hl [] rfl)
set_option maxHeartbeats 4000000 in
set_option maxRecDepth 100000 in
theorem c_Scan_narrow (l : Launch) {D : va_G} {dA : Nat → ClassId} {aK aV : Nat → Nat} {z : Nat} {N : Nat} {h0 : Nat} {p0 : Int32} {p1 : Int32} {M : hM} {Z : Unit × hM} (hf : (f_Scan_narrow N h0 p0 p1).1 M = some Z) : Met l y_Scan_narrow w_Scan_narrow ({ frames := 1, cells := Z.2.2.1 - M.2.1, slots := Z.2.2.2 - M.2.2, locals := 24 }) (va_Pc [.ref h0, .int p0, .int p1] (hm_B D dA hCl (hTy dA) sT aK aV z M)) (hm_Q D dA hCl (hTy dA) sT aK aV z none Z.2) (Z.2.2.1 - M.2.1) (Z.2.2.2 - M.2.2) (fun q => z ≤ q) := by
  refine Met.ofW (cc := b_Scan_narrow) (maxL := 5) (ret := none) (by decide) rfl ?_
  intro p e s m args below meth c s₁ B hml hv
  obtain ⟨hav, hB⟩ := hv
  have S : CallFix p m c b_Scan_narrow 5 s args w_Scan_narrow R_Scan := ⟨B.exec, B.bytes, hml, findClass_of_methodNamed B.named, atoms_spec (ws := w_Scan_narrow) B.pre⟩
  have hr : meth.sig.returnType = none := B.returns
  have hlocks := B.notSynchronized
  have hK := hB.2.2.1
  have hG := hB.2.2.2.2.2
  have hI := hm_I.start hB
  rw [← hB.2.1]
  generalize M.2.2 = k1 at hI ⊢
  refine W.eq (g2 := F0 m 0 ((lg_sl ([.ref h0, .int p0, .int p1]) ++ List.replicate (5 - (lg_sl ([.ref h0, .int p0, .int p1])).length) Slot.unset).toArray) []) (by rw [hav]; exact lg_entry_eq m ([.ref h0, .int p0, .int p1]) 5) ?_
  have hl := lv_entry ([.ref h0, .int p0, .int p1]) (n := 5) (Nat.le_of_ble_eq_true rfl)
  generalize (lg_sl ([.ref h0, .int p0, .int p1]) ++ List.replicate (5 - (lg_sl ([.ref h0, .int p0, .int p1])).length) Slot.unset).toArray = ls at hl ⊢
  simp only [lvA_nil, lvA_i, lvA_l, lvA_a, lvA_r, Nat.zero_add, Nat.reduceAdd] at hl
  have hret : ∀ (M : hM) (H : Heap) (locs : List Loc) (cells slots : Nat) (ls : Array Slot) (pc : Nat), decode b_Scan_narrow pc = .ok (.return_, 1) → (b_ret ()).1 M = some Z → hm_I D dA hCl z k1 s M H locs cells slots → W p l e (headSpec w_Scan_narrow { frames := 1, cells := Z.2.2.1 - s.heap.size, slots := Z.2.2.2 - k1, locals := 24 }).room s m args below meth c H locs cells slots (MQ below (hm_Q D dA hCl (hTy dA) sT aK aV z none Z.2) args s (Z.2.2.1 - s.heap.size) (Z.2.2.2 - k1) (fun q => z ≤ q)) (F0 m pc ls []) := fun M H locs cells slots ls pc hdg hf hI => x_retv S hK hG hI hr hlocks hdg hf
  have hR : Z.2.2.1 - s.heap.size ≤ (headSpec w_Scan_narrow { frames := 1, cells := Z.2.2.1 - s.heap.size, slots := Z.2.2.2 - k1, locals := 24 }).room.cells ∧ Z.2.2.2 - k1 ≤ (headSpec w_Scan_narrow { frames := 1, cells := Z.2.2.1 - s.heap.size, slots := Z.2.2.2 - k1, locals := 24 }).room.slots := ⟨Nat.le_refl _, Nat.le_refl _⟩
  have hRf : 1 ≤ (headSpec w_Scan_narrow { frames := 1, cells := Z.2.2.1 - s.heap.size, slots := Z.2.2.2 - k1, locals := 24 }).room.frames ∧ 24 ≤ (headSpec w_Scan_narrow { frames := 1, cells := Z.2.2.1 - s.heap.size, slots := Z.2.2.2 - k1, locals := 24 }).room.locals := ⟨Nat.le_refl _, Nat.le_refl _⟩
  generalize (headSpec w_Scan_narrow { frames := 1, cells := Z.2.2.1 - s.heap.size, slots := Z.2.2.2 - k1, locals := 24 }).room = R at hret hR hRf ⊢
  generalize (MQ below (hm_Q D dA hCl (hTy dA) sT aK aV z none Z.2) args s (Z.2.2.1 - s.heap.size) (Z.2.2.2 - k1) (fun q => z ≤ q)) = Q at hret ⊢
  rw [e_Scan_narrow] at hf
  obtain ⟨J36, eJ36, hf⟩ := b_let_inv hf
  have w36 : ∀ (x3 : Int64) (M : hM) (H : Heap) (locs : List Loc) (ls : Array Slot) (cells slots : Nat), (J36 x3).1 M = some Z → hm_I D dA hCl z k1 s M H locs cells slots → lv_has ls 5 [(0, .ref h0), (1, .int p0), (2, .int p1), (3, .long x3)] → W p l e R s m args below meth c H locs cells slots Q (F0 m 36 ls []) := by
    intro x3 M H locs ls cells slots hf hI hl
    rw [eJ36] at hf
    obtain ⟨J59, eJ59, hf⟩ := b_let_inv hf
    have w59 : ∀ (y0 : Int64) (y1 : Int64) (y2 : Option Nat) (M : hM) (H : Heap) (locs : List Loc) (ls : Array Slot) (cells slots : Nat), (J59 y0 y1 y2).1 M = some Z → hm_I D dA hCl z k1 s M H locs cells slots → lv_has ls 5 [] → W p l e R s m args below meth c H locs cells slots Q (F0 m 59 ls [.long y0, .long y1, va_rf y2]) := by
      intro y0 y1 y2 M H locs ls cells slots hf hI hl
      rw [eJ59] at hf
      refine va_mmin_long S.1 S.2.1 (by rw [S.2.2.1]; exact hl.1.symm) S.2.2.2.1 (S.2.2.2.2 _ (List.mem_cons_of_mem _ wd_209)) (S.2.2.2.2 _ (List.mem_cons_of_mem _ wd_210)) (S.2.2.2.2 _ (List.mem_cons_of_mem _ wd_70)) (S.2.2.2.2 _ (List.mem_cons_of_mem _ wd_211)) (Nat.le_trans (Nat.le_of_ble_eq_true rfl) hRf.1) (Nat.le_trans (by simp only [List.map_cons, List.map_nil, List.sum_cons, List.sum_nil, rf_cat, cat_i, cat_l, cat_a, cat_n]; exact Nat.le_of_ble_eq_true rfl) hRf.2) (hm_cs hI hR (hm_mo hf)).1 (hm_cs hI hR (hm_mo hf)).2 d_Scan_narrow_59 ?_
      obtain ⟨a1, ea1, hg⟩ := b_nn_inv hf
      have hI0 := hI
      have hl0 := hl
      clear hf hI hl
      subst ea1
      have hf := hg
      have hI := hI0
      have hl := hl0
      clear hg hI0 hl0
      refine x_put (ci := 8) (k := 8) S hK hI (fun w h => List.mem_cons_of_mem _ (i_Scan w h)) t_Scan t_Scan_ok n_Scan rfl (by decide) (List.mem_cons_of_mem _ wd_207) rfl (Or.inl rfl) (by rfl) rfl d_Scan_narrow_62 hf (fun M H locs hf hI => ?_)
      exact hret _ _ _ _ _ _ _ d_Scan_narrow_65 hf hI
    refine lv_iload_n S.1 S.2.1 d_Scan_narrow_36 rfl (lv_at hl 1 rfl) ?_
    refine lv_bipush (v := 62) S.1 S.2.1 d_Scan_narrow_37 (by decide) ?_
    refine lv_icmp_eq (tgt := 65) S.1 S.2.1 d_Scan_narrow_39 (by decide) (fun hc => ?_) (fun hc => ?_)
    · have hf := b_if_t hc hf
      exact hret _ _ _ _ _ _ _ d_Scan_narrow_65 hf hI
    · have hf := b_if_f hc hf
      refine lv_aload_n S.1 S.2.1 d_Scan_narrow_42 rfl (lv_at hl 0 rfl) ?_
      refine lv_aload_n S.1 S.2.1 d_Scan_narrow_43 rfl (lv_at hl 0 rfl) ?_
      refine x_getL (ci := 8) (k := 8) S hK hI (fun w h => List.mem_cons_of_mem _ (i_Scan w h)) rfl (by decide) (List.mem_cons_of_mem _ wd_207) rfl d_Scan_narrow_44 hf (fun v2 hf => ?_)
      refine lv_iload_n S.1 S.2.1 d_Scan_narrow_47 rfl (lv_at hl 2 rfl) ?_
      refine lv_if_eq (tgt := 55) S.1 S.2.1 d_Scan_narrow_48 (by decide) (fun hc => ?_) (fun hc => ?_)
      · have hf := b_if_t hc hf
        refine lv_aload_n S.1 S.2.1 d_Scan_narrow_55 rfl (lv_at hl 0 rfl) ?_
        refine x_getL (ci := 8) (k := 6) S hK hI (fun w h => List.mem_cons_of_mem _ (i_Scan w h)) rfl (by decide) (List.mem_cons_of_mem _ wd_135) rfl d_Scan_narrow_56 hf (fun v3 hf => ?_)
        exact w59 v3 v2 (some h0) _ _ _ _ _ _ hf hI (lv_sub hl [] rfl)
      · have hf := b_if_f hc hf
        refine lv_lload_n S.1 S.2.1 d_Scan_narrow_51 rfl (lv_at hl 3 rfl) ?_
        refine lv_goto (tgt := 59) S.1 S.2.1 d_Scan_narrow_52 (by decide) ?_
        exact w59 x3 v2 (some h0) _ _ _ _ _ _ hf hI (lv_sub hl [] rfl)
  obtain ⟨J30, eJ30, hf⟩ := b_let_inv hf
  have w30 : ∀ (x3 : Int64) (y0 : Int64) (y1 : Int64) (y2 : Option Nat) (M : hM) (H : Heap) (locs : List Loc) (ls : Array Slot) (cells slots : Nat), (J30 x3 y0 y1 y2).1 M = some Z → hm_I D dA hCl z k1 s M H locs cells slots → lv_has ls 5 [(0, .ref h0), (1, .int p0), (2, .int p1), (3, .long x3)] → W p l e R s m args below meth c H locs cells slots Q (F0 m 30 ls [.long y0, .long y1, va_rf y2]) := by
    intro x3 y0 y1 y2 M H locs ls cells slots hf hI hl
    rw [eJ30] at hf
    refine va_mmax_long S.1 S.2.1 (by rw [S.2.2.1]; exact hl.1.symm) S.2.2.2.1 (S.2.2.2.2 _ (List.mem_cons_of_mem _ wd_212)) (S.2.2.2.2 _ (List.mem_cons_of_mem _ wd_213)) (S.2.2.2.2 _ (List.mem_cons_of_mem _ wd_70)) (S.2.2.2.2 _ (List.mem_cons_of_mem _ wd_214)) (Nat.le_trans (Nat.le_of_ble_eq_true rfl) hRf.1) (Nat.le_trans (by simp only [List.map_cons, List.map_nil, List.sum_cons, List.sum_nil, rf_cat, cat_i, cat_l, cat_a, cat_n]; exact Nat.le_of_ble_eq_true rfl) hRf.2) (hm_cs hI hR (hm_mo hf)).1 (hm_cs hI hR (hm_mo hf)).2 d_Scan_narrow_30 ?_
    obtain ⟨a4, ea4, hg⟩ := b_nn_inv hf
    have hI0 := hI
    have hl0 := hl
    clear hf hI hl
    subst ea4
    have hf := hg
    have hI := hI0
    have hl := hl0
    clear hg hI0 hl0
    refine x_put (ci := 8) (k := 7) S hK hI (fun w h => List.mem_cons_of_mem _ (i_Scan w h)) t_Scan t_Scan_ok n_Scan rfl (by decide) (List.mem_cons_of_mem _ wd_206) rfl (Or.inl rfl) (by rfl) rfl d_Scan_narrow_33 hf (fun M H locs hf hI => ?_)
    exact w36 x3 _ _ _ _ _ _ hf hI (lv_sub hl [0, 1, 2, 3] rfl)
  refine lv_aload_n S.1 S.2.1 d_Scan_narrow_0 rfl (lv_at hl 0 rfl) ?_
  refine x_getL (ci := 8) (k := 6) S hK hI (fun w h => List.mem_cons_of_mem _ (i_Scan w h)) rfl (by decide) (List.mem_cons_of_mem _ wd_135) rfl d_Scan_narrow_1 hf (fun v5 hf => ?_)
  refine lv_lconst (v := 1) S.1 S.2.1 d_Scan_narrow_4 (by decide) ?_
  refine lv_ladd S.1 S.2.1 d_Scan_narrow_5 ?_
  refine x_lstore_n (lv2 := [(0, .ref h0), (1, .int p0), (2, .int p1)]) S d_Scan_narrow_6 rfl hl (by decide) [0, 1, 2] rfl ⟨⟨(by decide : (0 : Nat) ≠ 3), (by decide : (0 : Nat) ≠ 3 + 1), fun h => absurd (show (0 : Nat) + 1 = 3 from h) (by decide)⟩, ⟨⟨(by decide : (1 : Nat) ≠ 3), (by decide : (1 : Nat) ≠ 3 + 1), fun h => absurd (show (1 : Nat) + 1 = 3 from h) (by decide)⟩, ⟨⟨(by decide : (2 : Nat) ≠ 3), (by decide : (2 : Nat) ≠ 3 + 1), fun _ => rfl⟩, trivial⟩⟩⟩ (fun ls hl => ?_)
  refine lv_iload_n S.1 S.2.1 d_Scan_narrow_7 rfl (lv_at hl 2 rfl) ?_
  refine lv_bipush (v := 60) S.1 S.2.1 d_Scan_narrow_8 (by decide) ?_
  refine lv_icmp_eq (tgt := 36) S.1 S.2.1 d_Scan_narrow_10 (by decide) (fun hc => ?_) (fun hc => ?_)
  · have hf := b_if_t hc hf
    exact w36 (v5 + 1) _ _ _ _ _ _ hf hI (lv_sub hl [1, 2, 3, 0] rfl)
  · have hf := b_if_f hc hf
    refine lv_aload_n S.1 S.2.1 d_Scan_narrow_13 rfl (lv_at hl 1 rfl) ?_
    refine lv_aload_n S.1 S.2.1 d_Scan_narrow_14 rfl (lv_at hl 1 rfl) ?_
    refine x_getL (ci := 8) (k := 7) S hK hI (fun w h => List.mem_cons_of_mem _ (i_Scan w h)) rfl (by decide) (List.mem_cons_of_mem _ wd_206) rfl d_Scan_narrow_15 hf (fun v6 hf => ?_)
    refine lv_iload_n S.1 S.2.1 d_Scan_narrow_18 rfl (lv_at hl 3 rfl) ?_
    refine lv_if_eq (tgt := 29) S.1 S.2.1 d_Scan_narrow_19 (by decide) (fun hc => ?_) (fun hc => ?_)
    · have hf := b_if_t hc hf
      refine lv_lload_n S.1 S.2.1 d_Scan_narrow_29 rfl (lv_at hl 0 rfl) ?_
      exact w30 (v5 + 1) (v5 + 1) v6 (some h0) _ _ _ _ _ _ hf hI (lv_sub hl [1, 2, 3, 0] rfl)
    · have hf := b_if_f hc hf
      refine lv_aload_n S.1 S.2.1 d_Scan_narrow_22 rfl (lv_at hl 1 rfl) ?_
      refine x_getL (ci := 8) (k := 6) S hK hI (fun w h => List.mem_cons_of_mem _ (i_Scan w h)) rfl (by decide) (List.mem_cons_of_mem _ wd_135) rfl d_Scan_narrow_23 hf (fun v7 hf => ?_)
      refine lv_goto (tgt := 30) S.1 S.2.1 d_Scan_narrow_26 (by decide) ?_
      exact w30 (v5 + 1) v7 v6 (some h0) _ _ _ _ _ _ hf hI (lv_sub hl [1, 2, 3, 0] rfl)
set_option maxHeartbeats 4000000 in
set_option maxRecDepth 100000 in
theorem c_Scan_takeRange (l : Launch) {D : va_G} {dA : Nat → ClassId} {aK aV : Nat → Nat} {z : Nat} {N : Nat} {h0 : Nat} {M : hM} {Z : Int32 × hM} (hf : (f_Scan_takeRange N h0 ).1 M = some Z) : Met l y_Scan_takeRange w_Scan_takeRange ({ frames := 2, cells := Z.2.2.1 - M.2.1, slots := Z.2.2.2 - M.2.2, locals := 48 }) (va_Pc [.ref h0] (hm_B D dA hCl (hTy dA) sT aK aV z M)) (hm_Q D dA hCl (hTy dA) sT aK aV z (some (.int Z.1)) Z.2) (Z.2.2.1 - M.2.1) (Z.2.2.2 - M.2.2) (fun q => z ≤ q) := by
  refine Met.ofW (cc := b_Scan_takeRange) (maxL := 4) (ret := (some .boolean)) (by decide) rfl ?_
  intro p e s m args below meth c s₁ B hml hv
  obtain ⟨hav, hB⟩ := hv
  have S : CallFix p m c b_Scan_takeRange 4 s args w_Scan_takeRange R_Scan := ⟨B.exec, B.bytes, hml, findClass_of_methodNamed B.named, atoms_spec (ws := w_Scan_takeRange) B.pre⟩
  have hr : meth.sig.returnType = (some .boolean) := B.returns
  have hlocks := B.notSynchronized
  have hK := hB.2.2.1
  have hG := hB.2.2.2.2.2
  have hI := hm_I.start hB
  rw [← hB.2.1]
  generalize M.2.2 = k1 at hI ⊢
  refine W.eq (g2 := F0 m 0 ((lg_sl ([.ref h0]) ++ List.replicate (4 - (lg_sl ([.ref h0])).length) Slot.unset).toArray) []) (by rw [hav]; exact lg_entry_eq m ([.ref h0]) 4) ?_
  have hl := lv_entry ([.ref h0]) (n := 4) (Nat.le_of_ble_eq_true rfl)
  generalize (lg_sl ([.ref h0]) ++ List.replicate (4 - (lg_sl ([.ref h0])).length) Slot.unset).toArray = ls at hl ⊢
  simp only [lvA_nil, lvA_i, lvA_l, lvA_a, lvA_r, Nat.zero_add, Nat.reduceAdd] at hl
  have hret : ∀ (v : Int32) (M : hM) (H : Heap) (locs : List Loc) (cells slots : Nat) (ls : Array Slot) (pc : Nat), decode b_Scan_takeRange pc = .ok (.ireturn, 1) → (b_retN .boolean v).1 M = some Z → hm_I D dA hCl z k1 s M H locs cells slots → W p l e (headSpec w_Scan_takeRange { frames := 2, cells := Z.2.2.1 - s.heap.size, slots := Z.2.2.2 - k1, locals := 48 }).room s m args below meth c H locs cells slots (MQ below (hm_Q D dA hCl (hTy dA) sT aK aV z (some (.int Z.1)) Z.2) args s (Z.2.2.1 - s.heap.size) (Z.2.2.2 - k1) (fun q => z ≤ q)) (F0 m pc ls [.int v]) := fun v M H locs cells slots ls pc hdg hf hI => x_retn S hK hG hI hr hlocks hdg hf
  have hR : Z.2.2.1 - s.heap.size ≤ (headSpec w_Scan_takeRange { frames := 2, cells := Z.2.2.1 - s.heap.size, slots := Z.2.2.2 - k1, locals := 48 }).room.cells ∧ Z.2.2.2 - k1 ≤ (headSpec w_Scan_takeRange { frames := 2, cells := Z.2.2.1 - s.heap.size, slots := Z.2.2.2 - k1, locals := 48 }).room.slots := ⟨Nat.le_refl _, Nat.le_refl _⟩
  have hRf : 2 ≤ (headSpec w_Scan_takeRange { frames := 2, cells := Z.2.2.1 - s.heap.size, slots := Z.2.2.2 - k1, locals := 48 }).room.frames ∧ 48 ≤ (headSpec w_Scan_takeRange { frames := 2, cells := Z.2.2.1 - s.heap.size, slots := Z.2.2.2 - k1, locals := 48 }).room.locals := ⟨Nat.le_refl _, Nat.le_refl _⟩
  generalize (headSpec w_Scan_takeRange { frames := 2, cells := Z.2.2.1 - s.heap.size, slots := Z.2.2.2 - k1, locals := 48 }).room = R at hret hR hRf ⊢
  generalize (MQ below (hm_Q D dA hCl (hTy dA) sT aK aV z (some (.int Z.1)) Z.2) args s (Z.2.2.1 - s.heap.size) (Z.2.2.2 - k1) (fun q => z ≤ q)) = Q at hret ⊢
  rw [e_Scan_takeRange] at hf
  have w25 : ∀ (n : Nat) (x1 : Int32) (M : hM) (H : Heap) (locs : List Loc) (ls : Array Slot) (cells slots : Nat), (f_Scan_takeRange_25 N h0  n x1).1 M = some Z → hm_I D dA hCl z k1 s M H locs cells slots → lv_has ls 4 [(0, .ref h0), (1, .int x1)] → W p l e R s m args below meth c H locs cells slots Q (F0 m 25 ls []) := by
    intro n
    induction n with
    | zero => intro x1 M H locs ls cells slots hf hI hl; cases hf
    | succ n25 ih25 =>
      intro x1 M H locs ls cells slots hf hI hl
      rw [e_Scan_takeRange_25] at hf
      obtain ⟨J138, eJ138, hf⟩ := b_let_inv hf
      have w138 : ∀  (M : hM) (H : Heap) (locs : List Loc) (ls : Array Slot) (cells slots : Nat), (J138).1 M = some Z → hm_I D dA hCl z k1 s M H locs cells slots → lv_has ls 4 [(0, .ref h0)] → W p l e R s m args below meth c H locs cells slots Q (F0 m 138 ls []) := by
        intro M H locs ls cells slots hf hI hl
        rw [eJ138] at hf
        refine lv_aload_n S.1 S.2.1 d_Scan_takeRange_138 rfl (lv_at hl 0 rfl) ?_
        refine x_getL (ci := 8) (k := 7) S hK hI (fun w h => List.mem_cons_of_mem _ (i_Scan w h)) rfl (by decide) (List.mem_cons_of_mem _ wd_206) rfl d_Scan_takeRange_139 hf (fun v1 hf => ?_)
        refine lv_aload_n S.1 S.2.1 d_Scan_takeRange_142 rfl (lv_at hl 0 rfl) ?_
        refine x_getL (ci := 8) (k := 8) S hK hI (fun w h => List.mem_cons_of_mem _ (i_Scan w h)) rfl (by decide) (List.mem_cons_of_mem _ wd_207) rfl d_Scan_takeRange_143 hf (fun v2 hf => ?_)
        refine W.lcmp S.1 S.2.1 d_Scan_takeRange_146 ?_
        refine lv_if_lt (tgt := 160) S.1 S.2.1 d_Scan_takeRange_147 (by decide) (fun hc => ?_) (fun hc => ?_)
        · have hf := b_if_t hc hf
          refine lv_iconst (v := 1) S.1 S.2.1 d_Scan_takeRange_160 (by decide) ?_
          exact hret _ _ _ _ _ _ _ _ d_Scan_takeRange_161 hf hI
        · have hf := b_if_f hc hf
          refine lv_aload_n S.1 S.2.1 d_Scan_takeRange_150 rfl (lv_at hl 0 rfl) ?_
          refine lv_lconst (v := 0) S.1 S.2.1 d_Scan_takeRange_151 (by decide) ?_
          refine x_put (ci := 8) (k := 7) S hK hI (fun w h => List.mem_cons_of_mem _ (i_Scan w h)) t_Scan t_Scan_ok n_Scan rfl (by decide) (List.mem_cons_of_mem _ wd_206) rfl (Or.inl rfl) (by rfl) rfl d_Scan_takeRange_152 hf (fun M H locs hf hI => ?_)
          refine lv_aload_n S.1 S.2.1 d_Scan_takeRange_155 rfl (lv_at hl 0 rfl) ?_
          refine lv_lconst (v := 0) S.1 S.2.1 d_Scan_takeRange_156 (by decide) ?_
          refine x_put (ci := 8) (k := 8) S hK hI (fun w h => List.mem_cons_of_mem _ (i_Scan w h)) t_Scan t_Scan_ok n_Scan rfl (by decide) (List.mem_cons_of_mem _ wd_207) rfl (Or.inl rfl) (by rfl) rfl d_Scan_takeRange_157 hf (fun M H locs hf hI => ?_)
          refine lv_iconst (v := 1) S.1 S.2.1 d_Scan_takeRange_160 (by decide) ?_
          exact hret _ _ _ _ _ _ _ _ d_Scan_takeRange_161 hf hI
      obtain ⟨J70, eJ70, hf⟩ := b_let_inv hf
      have w70 : ∀ (x1 : Int32) (x2 : Int32) (M : hM) (H : Heap) (locs : List Loc) (ls : Array Slot) (cells slots : Nat), (J70 x1 x2).1 M = some Z → hm_I D dA hCl z k1 s M H locs cells slots → lv_has ls 4 [(0, .ref h0), (1, .int x1), (2, .int x2)] → W p l e R s m args below meth c H locs cells slots Q (F0 m 70 ls []) := by
        intro x1 x2 M H locs ls cells slots hf hI hl
        rw [eJ70] at hf
        obtain ⟨J91, eJ91, hf⟩ := b_let_inv hf
        have w91 : ∀ (x1 : Int32) (x2 : Int32) (y0 : Int32) (M : hM) (H : Heap) (locs : List Loc) (ls : Array Slot) (cells slots : Nat), (J91 x1 x2 y0).1 M = some Z → hm_I D dA hCl z k1 s M H locs cells slots → lv_has ls 4 [(0, .ref h0), (1, .int x1), (2, .int x2)] → W p l e R s m args below meth c H locs cells slots Q (F0 m 91 ls [.int y0]) := by
          intro x1 x2 y0 M H locs ls cells slots hf hI hl
          rw [eJ91] at hf
          obtain ⟨J117, eJ117, hf⟩ := b_let_inv hf
          have w117 : ∀ (x1 : Int32) (x2 : Int32) (x3 : Int32) (M : hM) (H : Heap) (locs : List Loc) (ls : Array Slot) (cells slots : Nat), (J117 x1 x2 x3).1 M = some Z → hm_I D dA hCl z k1 s M H locs cells slots → lv_has ls 4 [(0, .ref h0), (1, .int x1), (2, .int x2), (3, .int x3)] → W p l e R s m args below meth c H locs cells slots Q (F0 m 117 ls []) := by
            intro x1 x2 x3 M H locs ls cells slots hf hI hl
            rw [eJ117] at hf
            refine lv_aload_n S.1 S.2.1 d_Scan_takeRange_117 rfl (lv_at hl 0 rfl) ?_
            obtain ⟨⟨fs6, hefs6⟩, hf⟩ := b_is_inv hf
            obtain ⟨v3, N4, hg5, hf⟩ := b_call_inv hf
            refine x_call hI (hm_mo hg5) (va_runV (As := []) (rest := []) S (c_Scan_takeVersion l hg5) (cwV 0 S.2.2.2.2 (gi_V wd_208 wd_144 wd_145 wd_9 wd_146) rfl rfl rfl (by decide +kernel) ⟨Nat.le_trans (Nat.le_of_ble_eq_true rfl) hRf.1, Nat.le_trans (Nat.le_of_ble_eq_true rfl) hRf.2⟩) ⟨hm_B.blind, va_recv hK (hI.1.one hefs6) (ci := 8) (q0 := 0) rfl rfl, fun U hU hW => ⟨rfl, hm_B.of hK hG hI hU hW⟩⟩ rfl rfl hl.1 rfl (lv_room (Nat.le_of_ble_eq_true rfl)) d_Scan_takeRange_118 (hx_fit hI hR (hm_mo hg5) (hm_mo hf))) (fun H locs cells slots hI => ?_)
            refine W.eq (g2 := F0 m 121 ls [.int v3]) rfl ?_
            refine lv_if_ne (tgt := 126) S.1 S.2.1 d_Scan_takeRange_121 (by decide) (fun hc => ?_) (fun hc => ?_)
            · have hf := b_if_f hc hf
              refine lv_aload_n S.1 S.2.1 d_Scan_takeRange_126 rfl (lv_at hl 0 rfl) ?_
              refine lv_iload_n S.1 S.2.1 d_Scan_takeRange_127 rfl (lv_at hl 2 rfl) ?_
              refine lv_iload_n S.1 S.2.1 d_Scan_takeRange_128 rfl (lv_at hl 3 rfl) ?_
              obtain ⟨⟨fs10, hefs10⟩, hf⟩ := b_is_inv hf
              obtain ⟨r7, N8, hg9, hf⟩ := b_call_inv hf
              refine x_call hI (hm_mo hg9) (va_runV (As := [.int x2, .int x3]) (rest := []) S (c_Scan_narrow l hg9) (cwV 2 S.2.2.2.2 (gi_V wd_215 wd_216 wd_217 wd_9 wd_218) rfl rfl rfl (by decide +kernel) ⟨Nat.le_trans (Nat.le_of_ble_eq_true rfl) hRf.1, Nat.le_trans (Nat.le_of_ble_eq_true rfl) hRf.2⟩) ⟨hm_B.blind, va_recv hK (hI.1.one hefs10) (ci := 8) (q0 := 0) rfl rfl, fun U hU hW => ⟨rfl, hm_B.of hK hG hI hU hW⟩⟩ rfl rfl hl.1 rfl (lv_room (Nat.le_of_ble_eq_true rfl)) d_Scan_takeRange_129 (hx_fit hI hR (hm_mo hg9) (hm_mo hf))) (fun H locs cells slots hI => ?_)
              refine W.eq (g2 := F0 m 132 ls []) rfl ?_
              refine x_iinc (v := 1) (lv2 := [(0, .ref h0), (2, .int x2), (3, .int x3)]) S d_Scan_takeRange_132 hl 1 rfl (by decide) (by decide) [0, 2, 3] rfl ⟨⟨(by decide : (0 : Nat) ≠ 1), fun _ => rfl⟩, ⟨⟨(by decide : (2 : Nat) ≠ 1), fun h => absurd (show (2 : Nat) + 1 = 1 from h) (by decide)⟩, ⟨⟨(by decide : (3 : Nat) ≠ 1), fun h => absurd (show (3 : Nat) + 1 = 1 from h) (by decide)⟩, trivial⟩⟩⟩ (fun ls hl => ?_)
              refine lv_goto (tgt := 25) S.1 S.2.1 d_Scan_takeRange_135 (by decide) ?_
              exact ih25 (x1 + 1) _ _ _ _ _ _ hf hI (lv_sub hl [1, 0] rfl)
            · have hf := b_if_t hc hf
              refine lv_iconst (v := 0) S.1 S.2.1 d_Scan_takeRange_124 (by decide) ?_
              exact hret _ _ _ _ _ _ _ _ d_Scan_takeRange_125 hf hI
          refine x_istore_n (lv2 := [(0, .ref h0), (1, .int x1), (2, .int x2)]) S d_Scan_takeRange_91 rfl hl (by decide) [0, 1, 2] rfl ⟨⟨(by decide : (0 : Nat) ≠ 3), fun h => absurd (show (0 : Nat) + 1 = 3 from h) (by decide)⟩, ⟨⟨(by decide : (1 : Nat) ≠ 3), fun h => absurd (show (1 : Nat) + 1 = 3 from h) (by decide)⟩, ⟨⟨(by decide : (2 : Nat) ≠ 3), fun _ => rfl⟩, trivial⟩⟩⟩ (fun ls hl => ?_)
          refine lv_iload_n S.1 S.2.1 d_Scan_takeRange_92 rfl (lv_at hl 0 rfl) ?_
          refine lv_if_ne (tgt := 117) S.1 S.2.1 d_Scan_takeRange_93 (by decide) (fun hc => ?_) (fun hc => ?_)
          · have hf := b_if_f hc hf
            exact w117 x1 x2 y0 _ _ _ _ _ _ hf hI (lv_sub hl [1, 2, 3, 0] rfl)
          · have hf := b_if_t hc hf
            refine lv_aload_n S.1 S.2.1 d_Scan_takeRange_96 rfl (lv_at hl 1 rfl) ?_
            obtain ⟨⟨fs14, hefs14⟩, hf⟩ := b_is_inv hf
            obtain ⟨v11, N12, hg13, hf⟩ := b_call_inv hf
            refine x_call hI (hm_mo hg13) (va_runV (As := []) (rest := []) S (c_Scan_signHere l hg13) (cwV 0 S.2.2.2.2 (gi_V wd_108 wd_109 wd_110 wd_9 wd_111) rfl rfl rfl (by decide +kernel) ⟨Nat.le_trans (Nat.le_of_ble_eq_true rfl) hRf.1, Nat.le_trans (Nat.le_of_ble_eq_true rfl) hRf.2⟩) ⟨hm_B.blind, va_recv hK (hI.1.one hefs14) (ci := 8) (q0 := 0) rfl rfl, fun U hU hW => ⟨rfl, hm_B.of hK hG hI hU hW⟩⟩ rfl rfl hl.1 rfl (lv_room (Nat.le_of_ble_eq_true rfl)) d_Scan_takeRange_97 (hx_fit hI hR (hm_mo hg13) (hm_mo hf))) (fun H locs cells slots hI => ?_)
            refine W.eq (g2 := F0 m 100 ls [.int v11]) rfl ?_
            refine lv_bipush (v := 61) S.1 S.2.1 d_Scan_takeRange_100 (by decide) ?_
            refine lv_icmp_ne (tgt := 117) S.1 S.2.1 d_Scan_takeRange_102 (by decide) (fun hc => ?_) (fun hc => ?_)
            · have hf := b_if_f hc hf
              exact w117 x1 x2 y0 _ _ _ _ _ _ hf hI (lv_sub hl [1, 2, 3, 0] rfl)
            · have hf := b_if_t hc hf
              refine lv_iconst (v := 1) S.1 S.2.1 d_Scan_takeRange_105 (by decide) ?_
              refine x_istore_n (lv2 := [(0, .ref h0), (1, .int x1), (2, .int x2)]) S d_Scan_takeRange_106 rfl hl (by decide) [1, 2, 3] rfl ⟨⟨(by decide : (0 : Nat) ≠ 3), fun h => absurd (show (0 : Nat) + 1 = 3 from h) (by decide)⟩, ⟨⟨(by decide : (1 : Nat) ≠ 3), fun h => absurd (show (1 : Nat) + 1 = 3 from h) (by decide)⟩, ⟨⟨(by decide : (2 : Nat) ≠ 3), fun _ => rfl⟩, trivial⟩⟩⟩ (fun ls hl => ?_)
              refine lv_aload_n S.1 S.2.1 d_Scan_takeRange_107 rfl (lv_at hl 1 rfl) ?_
              refine lv_dup S.1 S.2.1 d_Scan_takeRange_108 rfl ?_
              refine x_getI (ci := 8) (k := 2) S hK hI (fun w h => List.mem_cons_of_mem _ (i_Scan w h)) rfl (by decide) (List.mem_cons_of_mem _ wd_54) rfl d_Scan_takeRange_109 hf (fun v15 hf => ?_)
              refine lv_iconst (v := 1) S.1 S.2.1 d_Scan_takeRange_112 (by decide) ?_
              refine lv_iadd S.1 S.2.1 d_Scan_takeRange_113 ?_
              refine x_put (ci := 8) (k := 2) S hK hI (fun w h => List.mem_cons_of_mem _ (i_Scan w h)) t_Scan t_Scan_ok n_Scan rfl (by decide) (List.mem_cons_of_mem _ wd_54) rfl (Or.inl rfl) (by rfl) rfl d_Scan_takeRange_114 hf (fun M H locs hf hI => ?_)
              exact w117 x1 x2 1 _ _ _ _ _ _ hf hI (lv_sub hl [1, 2, 3, 0] rfl)
        refine lv_aload_n S.1 S.2.1 d_Scan_takeRange_70 rfl (lv_at hl 0 rfl) ?_
        refine lv_dup S.1 S.2.1 d_Scan_takeRange_71 rfl ?_
        refine x_getI (ci := 8) (k := 2) S hK hI (fun w h => List.mem_cons_of_mem _ (i_Scan w h)) rfl (by decide) (List.mem_cons_of_mem _ wd_54) rfl d_Scan_takeRange_72 hf (fun v16 hf => ?_)
        refine lv_iconst (v := 1) S.1 S.2.1 d_Scan_takeRange_75 (by decide) ?_
        refine lv_iadd S.1 S.2.1 d_Scan_takeRange_76 ?_
        refine x_put (ci := 8) (k := 2) S hK hI (fun w h => List.mem_cons_of_mem _ (i_Scan w h)) t_Scan t_Scan_ok n_Scan rfl (by decide) (List.mem_cons_of_mem _ wd_54) rfl (Or.inl rfl) (by rfl) rfl d_Scan_takeRange_77 hf (fun M H locs hf hI => ?_)
        refine lv_iload_n S.1 S.2.1 d_Scan_takeRange_80 rfl (lv_at hl 2 rfl) ?_
        refine lv_bipush (v := 61) S.1 S.2.1 d_Scan_takeRange_81 (by decide) ?_
        refine lv_icmp_ne (tgt := 90) S.1 S.2.1 d_Scan_takeRange_83 (by decide) (fun hc => ?_) (fun hc => ?_)
        · have hf := b_if_f hc hf
          refine lv_iconst (v := 0) S.1 S.2.1 d_Scan_takeRange_90 (by decide) ?_
          exact w91 x1 x2 0 _ _ _ _ _ _ hf hI (lv_sub hl [0, 1, 2] rfl)
        · have hf := b_if_t hc hf
          refine lv_iconst (v := 1) S.1 S.2.1 d_Scan_takeRange_86 (by decide) ?_
          refine lv_goto (tgt := 91) S.1 S.2.1 d_Scan_takeRange_87 (by decide) ?_
          exact w91 x1 x2 1 _ _ _ _ _ _ hf hI (lv_sub hl [0, 1, 2] rfl)
      refine lv_iload_n S.1 S.2.1 d_Scan_takeRange_25 rfl (lv_at hl 1 rfl) ?_
      refine lv_iconst (v := 2) S.1 S.2.1 d_Scan_takeRange_26 (by decide) ?_
      refine lv_icmp_ge (tgt := 138) S.1 S.2.1 d_Scan_takeRange_27 (by decide) (fun hc => ?_) (fun hc => ?_)
      · have hf := b_if_t hc hf
        exact w138  _ _ _ _ _ _ hf hI (lv_sub hl [0] rfl)
      · have hf := b_if_f hc hf
        refine lv_aload_n S.1 S.2.1 d_Scan_takeRange_30 rfl (lv_at hl 0 rfl) ?_
        obtain ⟨⟨fs20, hefs20⟩, hf⟩ := b_is_inv hf
        obtain ⟨r17, N18, hg19, hf⟩ := b_call_inv hf
        refine x_call hI (hm_mo hg19) (va_runV (As := []) (rest := []) S (c_Scan_skipBlanks l hg19) (cwV 0 S.2.2.2.2 (gi_V wd_89 wd_90 wd_91 wd_9 wd_92) rfl rfl rfl (by decide +kernel) ⟨Nat.le_trans (Nat.le_of_ble_eq_true rfl) hRf.1, Nat.le_trans (Nat.le_of_ble_eq_true rfl) hRf.2⟩) ⟨hm_B.blind, va_recv hK (hI.1.one hefs20) (ci := 8) (q0 := 0) rfl rfl, fun U hU hW => ⟨rfl, hm_B.of hK hG hI hU hW⟩⟩ rfl rfl hl.1 rfl (lv_room (Nat.le_of_ble_eq_true rfl)) d_Scan_takeRange_31 (hx_fit hI hR (hm_mo hg19) (hm_mo hf))) (fun H locs cells slots hI => ?_)
        refine W.eq (g2 := F0 m 34 ls []) rfl ?_
        refine lv_aload_n S.1 S.2.1 d_Scan_takeRange_34 rfl (lv_at hl 0 rfl) ?_
        obtain ⟨⟨fs24, hefs24⟩, hf⟩ := b_is_inv hf
        obtain ⟨v21, N22, hg23, hf⟩ := b_call_inv hf
        refine x_call hI (hm_mo hg23) (va_runV (As := []) (rest := []) S (c_Scan_signHere l hg23) (cwV 0 S.2.2.2.2 (gi_V wd_108 wd_109 wd_110 wd_9 wd_111) rfl rfl rfl (by decide +kernel) ⟨Nat.le_trans (Nat.le_of_ble_eq_true rfl) hRf.1, Nat.le_trans (Nat.le_of_ble_eq_true rfl) hRf.2⟩) ⟨hm_B.blind, va_recv hK (hI.1.one hefs24) (ci := 8) (q0 := 0) rfl rfl, fun U hU hW => ⟨rfl, hm_B.of hK hG hI hU hW⟩⟩ rfl rfl hl.1 rfl (lv_room (Nat.le_of_ble_eq_true rfl)) d_Scan_takeRange_35 (hx_fit hI hR (hm_mo hg23) (hm_mo hf))) (fun H locs cells slots hI => ?_)
        refine W.eq (g2 := F0 m 38 ls [.int v21]) rfl ?_
        refine x_istore_n (lv2 := [(0, .ref h0), (1, .int x1)]) S d_Scan_takeRange_38 rfl hl (by decide) [0, 1] rfl ⟨⟨(by decide : (0 : Nat) ≠ 2), fun h => absurd (show (0 : Nat) + 1 = 2 from h) (by decide)⟩, ⟨⟨(by decide : (1 : Nat) ≠ 2), fun _ => rfl⟩, trivial⟩⟩ (fun ls hl => ?_)
        refine lv_iload_n S.1 S.2.1 d_Scan_takeRange_39 rfl (lv_at hl 0 rfl) ?_
        refine lv_bipush (v := 61) S.1 S.2.1 d_Scan_takeRange_40 (by decide) ?_
        refine lv_icmp_eq (tgt := 70) S.1 S.2.1 d_Scan_takeRange_42 (by decide) (fun hc => ?_) (fun hc => ?_)
        · have hf := b_if_t hc hf
          exact w70 x1 v21 _ _ _ _ _ _ hf hI (lv_sub hl [1, 2, 0] rfl)
        · have hf := b_if_f hc hf
          refine lv_iload_n S.1 S.2.1 d_Scan_takeRange_45 rfl (lv_at hl 0 rfl) ?_
          refine lv_bipush (v := 60) S.1 S.2.1 d_Scan_takeRange_46 (by decide) ?_
          refine lv_icmp_eq (tgt := 70) S.1 S.2.1 d_Scan_takeRange_48 (by decide) (fun hc => ?_) (fun hc => ?_)
          · have hf := b_if_t hc hf
            exact w70 x1 v21 _ _ _ _ _ _ hf hI (lv_sub hl [1, 2, 0] rfl)
          · have hf := b_if_f hc hf
            refine lv_iload_n S.1 S.2.1 d_Scan_takeRange_51 rfl (lv_at hl 0 rfl) ?_
            refine lv_bipush (v := 62) S.1 S.2.1 d_Scan_takeRange_52 (by decide) ?_
            refine lv_icmp_eq (tgt := 70) S.1 S.2.1 d_Scan_takeRange_54 (by decide) (fun hc => ?_) (fun hc => ?_)
            · have hf := b_if_t hc hf
              exact w70 x1 v21 _ _ _ _ _ _ hf hI (lv_sub hl [1, 2, 0] rfl)
            · have hf := b_if_f hc hf
              refine lv_iload_n S.1 S.2.1 d_Scan_takeRange_57 rfl (lv_at hl 2 rfl) ?_
              refine lv_if_ne (tgt := 138) S.1 S.2.1 d_Scan_takeRange_58 (by decide) (fun hc => ?_) (fun hc => ?_)
              · have hf := b_if_f hc hf
                exact w138  _ _ _ _ _ _ hf hI (lv_sub hl [1] rfl)
              · have hf := b_if_t hc hf
                refine lv_aload_n S.1 S.2.1 d_Scan_takeRange_61 rfl (lv_at hl 1 rfl) ?_
                refine lv_aload_n S.1 S.2.1 d_Scan_takeRange_62 rfl (lv_at hl 1 rfl) ?_
                refine x_getI (ci := 8) (k := 2) S hK hI (fun w h => List.mem_cons_of_mem _ (i_Scan w h)) rfl (by decide) (List.mem_cons_of_mem _ wd_54) rfl d_Scan_takeRange_63 hf (fun v25 hf => ?_)
                obtain ⟨⟨fs29, hefs29⟩, hf⟩ := b_is_inv hf
                obtain ⟨v26, N27, hg28, hf⟩ := b_call_inv hf
                refine x_call hI (hm_mo hg28) (va_runV (As := [.int v25]) (rest := []) S (c_Scan_refuse l hg28) (cwV 1 S.2.2.2.2 (gi_V wd_98 wd_82 wd_83 wd_9 wd_84) rfl rfl rfl (by decide +kernel) ⟨Nat.le_trans (Nat.le_of_ble_eq_true rfl) hRf.1, Nat.le_trans (Nat.le_of_ble_eq_true rfl) hRf.2⟩) ⟨hm_B.blind, va_recv hK (hI.1.one hefs29) (ci := 8) (q0 := 0) rfl rfl, fun U hU hW => ⟨rfl, hm_B.of hK hG hI hU hW⟩⟩ rfl rfl hl.1 rfl (lv_room (Nat.le_of_ble_eq_true rfl)) d_Scan_takeRange_66 (hx_fit hI hR (hm_mo hg28) (hm_mo hf))) (fun H locs cells slots hI => ?_)
                refine W.eq (g2 := F0 m 69 ls [.int v26]) rfl ?_
                exact hret _ _ _ _ _ _ _ _ d_Scan_takeRange_69 hf hI
  refine lv_aload_n S.1 S.2.1 d_Scan_takeRange_0 rfl (lv_at hl 0 rfl) ?_
  refine lv_lconst (v := 0) S.1 S.2.1 d_Scan_takeRange_1 (by decide) ?_
  refine x_put (ci := 8) (k := 7) S hK hI (fun w h => List.mem_cons_of_mem _ (i_Scan w h)) t_Scan t_Scan_ok n_Scan rfl (by decide) (List.mem_cons_of_mem _ wd_206) rfl (Or.inl rfl) (by rfl) rfl d_Scan_takeRange_2 hf (fun M H locs hf hI => ?_)
  refine lv_aload_n S.1 S.2.1 d_Scan_takeRange_5 rfl (lv_at hl 0 rfl) ?_
  refine lv_ldc2 (v := 1000000000000000000) S.1 S.2.1 S.2.2.2.1 (S.2.2.2.2 _ (List.mem_cons_of_mem _ wd_219)) d_Scan_takeRange_6 ?_
  refine x_put (ci := 8) (k := 8) S hK hI (fun w h => List.mem_cons_of_mem _ (i_Scan w h)) t_Scan t_Scan_ok n_Scan rfl (by decide) (List.mem_cons_of_mem _ wd_207) rfl (Or.inl rfl) (by rfl) rfl d_Scan_takeRange_9 hf (fun M H locs hf hI => ?_)
  refine lv_aload_n S.1 S.2.1 d_Scan_takeRange_12 rfl (lv_at hl 0 rfl) ?_
  refine lv_bipush (v := 42) S.1 S.2.1 d_Scan_takeRange_13 (by decide) ?_
  obtain ⟨⟨fs33, hefs33⟩, hf⟩ := b_is_inv hf
  obtain ⟨v30, N31, hg32, hf⟩ := b_call_inv hf
  refine x_call hI (hm_mo hg32) (va_runV (As := [.int 42]) (rest := []) S (c_Scan_takeIfNext l hg32) (cwV 1 S.2.2.2.2 (gi_V wd_170 wd_171 wd_172 wd_9 wd_173) rfl rfl rfl (by decide +kernel) ⟨Nat.le_trans (Nat.le_of_ble_eq_true rfl) hRf.1, Nat.le_trans (Nat.le_of_ble_eq_true rfl) hRf.2⟩) ⟨hm_B.blind, va_recv hK (hI.1.one hefs33) (ci := 8) (q0 := 0) rfl rfl, fun U hU hW => ⟨rfl, hm_B.of hK hG hI hU hW⟩⟩ rfl rfl hl.1 rfl (lv_room (Nat.le_of_ble_eq_true rfl)) d_Scan_takeRange_15 (hx_fit hI hR (hm_mo hg32) (hm_mo hf))) (fun H locs cells slots hI => ?_)
  refine W.eq (g2 := F0 m 18 ls [.int v30]) rfl ?_
  refine lv_if_eq (tgt := 23) S.1 S.2.1 d_Scan_takeRange_18 (by decide) (fun hc => ?_) (fun hc => ?_)
  · have hf := b_if_t hc hf
    refine lv_iconst (v := 0) S.1 S.2.1 d_Scan_takeRange_23 (by decide) ?_
    refine x_istore_n (lv2 := [(0, .ref h0)]) S d_Scan_takeRange_24 rfl hl (by decide) [0] rfl ⟨⟨(by decide : (0 : Nat) ≠ 1), fun _ => rfl⟩, trivial⟩ (fun ls hl => ?_)
    exact w25 N 0 _ _ _ _ _ _ hf hI (lv_sub hl [1, 0] rfl)
  · have hf := b_if_f hc hf
    refine lv_iconst (v := 1) S.1 S.2.1 d_Scan_takeRange_21 (by decide) ?_
    exact hret _ _ _ _ _ _ _ _ d_Scan_takeRange_22 hf hI
