set_option maxHeartbeats 4000000 in
set_option maxRecDepth 100000 in
theorem c_Printer_putRest (l : Launch) {D : va_G} {dA : Nat → ClassId} {aK aV : Nat → Nat} {z : Nat} {N : Nat} {h0 : Nat} {p0 : Option Nat} {M : hM} {Z : Unit × hM} (hf : (f_Printer_putRest N h0 p0).1 M = some Z) : Met l y_Printer_putRest w_Printer_putRest ({ frames := 6, cells := Z.2.2.1 - M.2.1, slots := Z.2.2.2 - M.2.2, locals := 131 }) (va_Pc [.ref h0, va_rf p0] (hm_B D dA hCl (hTy dA) sT aK aV z M)) (hm_Q D dA hCl (hTy dA) sT aK aV z none Z.2) (Z.2.2.1 - M.2.1) (Z.2.2.2 - M.2.2) (fun q => z ≤ q) := by
  refine Met.ofW (cc := b_Printer_putRest) (maxL := 2) (ret := none) (by decide) rfl ?_
  intro p e s m args below meth c s₁ B hml hv
  obtain ⟨hav, hB⟩ := hv
  have S : CallFix p m c b_Printer_putRest 2 s args w_Printer_putRest R_Printer := ⟨B.exec, B.bytes, hml, findClass_of_methodNamed B.named, atoms_spec (ws := w_Printer_putRest) B.pre⟩
  have hr : meth.sig.returnType = none := B.returns
  have hlocks := B.notSynchronized
  have hK := hB.2.2.1
  have hG := hB.2.2.2.2.2
  have hI := hm_I.start hB
  rw [← hB.2.1]
  generalize M.2.2 = k1 at hI ⊢
  refine W.eq (g2 := F0 m 0 ((lg_sl ([.ref h0, va_rf p0]) ++ List.replicate (2 - (lg_sl ([.ref h0, va_rf p0])).length) Slot.unset).toArray) []) (by rw [hav]; exact lg_entry_eq m ([.ref h0, va_rf p0]) 2) ?_
  have hl := lv_entry ([.ref h0, va_rf p0]) (n := 2) (by cases p0 <;> exact Nat.le_of_ble_eq_true rfl)
  generalize (lg_sl ([.ref h0, va_rf p0]) ++ List.replicate (2 - (lg_sl ([.ref h0, va_rf p0])).length) Slot.unset).toArray = ls at hl ⊢
  simp only [lvA_nil, lvA_i, lvA_l, lvA_a, lvA_r, Nat.zero_add, Nat.reduceAdd] at hl
  have hret : ∀ (M : hM) (H : Heap) (locs : List Loc) (cells slots : Nat) (ls : Array Slot) (pc : Nat), decode b_Printer_putRest pc = .ok (.return_, 1) → (b_ret ()).1 M = some Z → hm_I D dA hCl z k1 s M H locs cells slots → W p l e (headSpec w_Printer_putRest { frames := 6, cells := Z.2.2.1 - s.heap.size, slots := Z.2.2.2 - k1, locals := 131 }).room s m args below meth c H locs cells slots (MQ below (hm_Q D dA hCl (hTy dA) sT aK aV z none Z.2) args s (Z.2.2.1 - s.heap.size) (Z.2.2.2 - k1) (fun q => z ≤ q)) (F0 m pc ls []) := fun M H locs cells slots ls pc hdg hf hI => x_retv S hK hG hI hr hlocks hdg hf
  have hR : Z.2.2.1 - s.heap.size ≤ (headSpec w_Printer_putRest { frames := 6, cells := Z.2.2.1 - s.heap.size, slots := Z.2.2.2 - k1, locals := 131 }).room.cells ∧ Z.2.2.2 - k1 ≤ (headSpec w_Printer_putRest { frames := 6, cells := Z.2.2.1 - s.heap.size, slots := Z.2.2.2 - k1, locals := 131 }).room.slots := ⟨Nat.le_refl _, Nat.le_refl _⟩
  have hRf : 6 ≤ (headSpec w_Printer_putRest { frames := 6, cells := Z.2.2.1 - s.heap.size, slots := Z.2.2.2 - k1, locals := 131 }).room.frames ∧ 131 ≤ (headSpec w_Printer_putRest { frames := 6, cells := Z.2.2.1 - s.heap.size, slots := Z.2.2.2 - k1, locals := 131 }).room.locals := ⟨Nat.le_refl _, Nat.le_refl _⟩
  generalize (headSpec w_Printer_putRest { frames := 6, cells := Z.2.2.1 - s.heap.size, slots := Z.2.2.2 - k1, locals := 131 }).room = R at hret hR hRf ⊢
  generalize (MQ below (hm_Q D dA hCl (hTy dA) sT aK aV z none Z.2) args s (Z.2.2.1 - s.heap.size) (Z.2.2.2 - k1) (fun q => z ≤ q)) = Q at hret ⊢
  rw [e_Printer_putRest] at hf
  obtain ⟨J90, eJ90, hf⟩ := b_let_inv hf
  have w90 : ∀  (M : hM) (H : Heap) (locs : List Loc) (ls : Array Slot) (cells slots : Nat), (J90).1 M = some Z → hm_I D dA hCl z k1 s M H locs cells slots → lv_has ls 2 [(0, .ref h0), (1, va_rf p0)] → W p l e R s m args below meth c H locs cells slots Q (F0 m 90 ls []) := by
    intro M H locs ls cells slots hf hI hl
    rw [eJ90] at hf
    refine x_aload_n (r := p0) S d_Printer_putRest_90 rfl (lv_at hl 1 rfl) ?_
    obtain ⟨a1, ea1, hg⟩ := b_nn_inv hf
    have hI0 := hI
    have hl0 := hl
    clear hf hI hl
    subst ea1
    have hf := hg
    have hI := hI0
    have hl := hl0
    clear hg hI0 hl0
    refine x_getI (ci := 7) (k := 0) S hK hI (fun w h => List.mem_cons_of_mem _ (i_Row w h)) rfl (by decide) (List.mem_cons_of_mem _ wd_428) rfl d_Printer_putRest_91 hf (fun v2 hf => ?_)
    refine lv_bipush (v := 15) S.1 S.2.1 d_Printer_putRest_94 (by decide) ?_
    refine lv_icmp_ne (tgt := 113) S.1 S.2.1 d_Printer_putRest_96 (by decide) (fun hc => ?_) (fun hc => ?_)
    · have hf := b_if_f hc hf
      exact hret _ _ _ _ _ _ _ d_Printer_putRest_113 hf hI
    · have hf := b_if_t hc hf
      refine lv_aload_n S.1 S.2.1 d_Printer_putRest_99 rfl (lv_at hl 0 rfl) ?_
      refine lv_bipush (v := 32) S.1 S.2.1 d_Printer_putRest_100 (by decide) ?_
      obtain ⟨⟨fs6, hefs6⟩, hf⟩ := b_is_inv hf
      obtain ⟨r3, N4, hg5, hf⟩ := b_call_inv hf
      refine x_call hI (hm_mo hg5) (va_runV (As := [.int 32]) (rest := []) S (c_Printer_put l hg5) (cwV 1 S.2.2.2.2 (gi_V wd_420 wd_421 wd_422 wd_31 wd_423) rfl rfl rfl (by decide +kernel) ⟨Nat.le_trans (Nat.le_of_ble_eq_true rfl) hRf.1, Nat.le_trans (Nat.le_of_ble_eq_true rfl) hRf.2⟩) ⟨hm_B.blind, va_recv hK (hI.1.one hefs6) (ci := 5) (q0 := 0) rfl rfl, fun U hU hW => ⟨rfl, hm_B.of hK hG hI hU hW⟩⟩ rfl rfl hl.1 rfl (lv_room (Nat.le_of_ble_eq_true rfl)) d_Printer_putRest_102 (hx_fit hI hR (hm_mo hg5) (hm_mo hf))) (fun H locs cells slots hI => ?_)
      refine W.eq (g2 := F0 m 105 ls []) rfl ?_
      refine lv_aload_n S.1 S.2.1 d_Printer_putRest_105 rfl (lv_at hl 0 rfl) ?_
      refine lv_aload_n S.1 S.2.1 d_Printer_putRest_106 rfl (lv_at hl 1 rfl) ?_
      refine x_getL (ci := 7) (k := 4) S hK hI (fun w h => List.mem_cons_of_mem _ (i_Row w h)) rfl (by decide) (List.mem_cons_of_mem _ wd_429) rfl d_Printer_putRest_107 hf (fun v7 hf => ?_)
      obtain ⟨⟨fs11, hefs11⟩, hf⟩ := b_is_inv hf
      obtain ⟨r8, N9, hg10, hf⟩ := b_call_inv hf
      refine x_call hI (hm_mo hg10) (va_runV (As := [.long v7]) (rest := []) S (c_Printer_putNumber l hg10) (cwV 1 S.2.2.2.2 (gi_V wd_432 wd_433 wd_434 wd_31 wd_435) rfl rfl rfl (by decide +kernel) ⟨Nat.le_trans (Nat.le_of_ble_eq_true rfl) hRf.1, Nat.le_trans (Nat.le_of_ble_eq_true rfl) hRf.2⟩) ⟨hm_B.blind, va_recv hK (hI.1.one hefs11) (ci := 5) (q0 := 0) rfl rfl, fun U hU hW => ⟨rfl, hm_B.of hK hG hI hU hW⟩⟩ rfl rfl hl.1 rfl (lv_room (Nat.le_of_ble_eq_true rfl)) d_Printer_putRest_110 (hx_fit hI hR (hm_mo hg10) (hm_mo hf))) (fun H locs cells slots hI => ?_)
      refine W.eq (g2 := F0 m 113 ls []) rfl ?_
      exact hret _ _ _ _ _ _ _ d_Printer_putRest_113 hf hI
  refine x_aload_n (r := p0) S d_Printer_putRest_0 rfl (lv_at hl 1 rfl) ?_
  obtain ⟨a12, ea12, hg⟩ := b_nn_inv hf
  have hI0 := hI
  have hl0 := hl
  clear hf hI hl
  subst ea12
  have hf := hg
  have hI := hI0
  have hl := hl0
  clear hg hI0 hl0
  refine x_getI (ci := 7) (k := 0) S hK hI (fun w h => List.mem_cons_of_mem _ (i_Row w h)) rfl (by decide) (List.mem_cons_of_mem _ wd_428) rfl d_Printer_putRest_1 hf (fun v13 hf => ?_)
  obtain ⟨v14, N15, hg16, hf⟩ := b_call_inv hf
  refine x_call hI (hm_mo hg16) (va_runS (As := [.int v13]) (rest := []) S (c_Kind_hasRange l hg16) (va_cwS 1 S.2.2.2.2 (gi_S wd_436 wd_284 wd_204 wd_285) rfl rfl rfl (by decide +kernel) ⟨Nat.le_trans (Nat.le_of_ble_eq_true rfl) hRf.1, Nat.le_trans (Nat.le_of_ble_eq_true rfl) hRf.2⟩) ⟨hm_B.blind, fun U hU hW => ⟨rfl, hm_B.of hK hG hI hU hW⟩⟩ rfl rfl hl.1 rfl (lv_room (Nat.le_of_ble_eq_true rfl)) d_Printer_putRest_4 (hx_fit hI hR (hm_mo hg16) (hm_mo hf))) (fun H locs cells slots hI => ?_)
  refine W.eq (g2 := F0 m 7 ls [.int v14]) rfl ?_
  refine lv_if_eq (tgt := 31) S.1 S.2.1 d_Printer_putRest_7 (by decide) (fun hc => ?_) (fun hc => ?_)
  · have hf := b_if_t hc hf
    refine lv_aload_n S.1 S.2.1 d_Printer_putRest_31 rfl (lv_at hl 1 rfl) ?_
    refine x_getI (ci := 7) (k := 0) S hK hI (fun w h => List.mem_cons_of_mem _ (i_Row w h)) rfl (by decide) (List.mem_cons_of_mem _ wd_428) rfl d_Printer_putRest_32 hf (fun v17 hf => ?_)
    refine lv_bipush (v := 7) S.1 S.2.1 d_Printer_putRest_35 (by decide) ?_
    refine lv_icmp_ne (tgt := 57) S.1 S.2.1 d_Printer_putRest_37 (by decide) (fun hc => ?_) (fun hc => ?_)
    · have hf := b_if_f hc hf
      refine lv_aload_n S.1 S.2.1 d_Printer_putRest_57 rfl (lv_at hl 1 rfl) ?_
      refine x_getI (ci := 7) (k := 0) S hK hI (fun w h => List.mem_cons_of_mem _ (i_Row w h)) rfl (by decide) (List.mem_cons_of_mem _ wd_428) rfl d_Printer_putRest_58 hf (fun v18 hf => ?_)
      refine lv_bipush (v := 14) S.1 S.2.1 d_Printer_putRest_61 (by decide) ?_
      refine lv_icmp_ne (tgt := 90) S.1 S.2.1 d_Printer_putRest_63 (by decide) (fun hc => ?_) (fun hc => ?_)
      · have hf := b_if_f hc hf
        exact w90  _ _ _ _ _ _ hf hI (lv_sub hl [0, 1] rfl)
      · have hf := b_if_t hc hf
        refine lv_aload_n S.1 S.2.1 d_Printer_putRest_66 rfl (lv_at hl 1 rfl) ?_
        refine x_getR (ci := 7) (k := 3) S hK hI (fun w h => List.mem_cons_of_mem _ (i_Row w h)) rfl (by decide) (List.mem_cons_of_mem _ wd_437) rfl d_Printer_putRest_67 hf (fun r19 hf => ?_)
        refine x_ifnull (r := r19) (tgt := 90) S d_Printer_putRest_70 (by decide) (fun hc => ?_) (fun hc => ?_)
        · have hf := b_if_t hc hf
          exact w90  _ _ _ _ _ _ hf hI (lv_sub hl [0, 1] rfl)
        · have hf := b_if_f hc hf
          refine lv_aload_n S.1 S.2.1 d_Printer_putRest_73 rfl (lv_at hl 0 rfl) ?_
          refine lv_bipush (v := 32) S.1 S.2.1 d_Printer_putRest_74 (by decide) ?_
          obtain ⟨⟨fs23, hefs23⟩, hf⟩ := b_is_inv hf
          obtain ⟨r20, N21, hg22, hf⟩ := b_call_inv hf
          refine x_call hI (hm_mo hg22) (va_runV (As := [.int 32]) (rest := []) S (c_Printer_put l hg22) (cwV 1 S.2.2.2.2 (gi_V wd_420 wd_421 wd_422 wd_31 wd_423) rfl rfl rfl (by decide +kernel) ⟨Nat.le_trans (Nat.le_of_ble_eq_true rfl) hRf.1, Nat.le_trans (Nat.le_of_ble_eq_true rfl) hRf.2⟩) ⟨hm_B.blind, va_recv hK (hI.1.one hefs23) (ci := 5) (q0 := 0) rfl rfl, fun U hU hW => ⟨rfl, hm_B.of hK hG hI hU hW⟩⟩ rfl rfl hl.1 rfl (lv_room (Nat.le_of_ble_eq_true rfl)) d_Printer_putRest_76 (hx_fit hI hR (hm_mo hg22) (hm_mo hf))) (fun H locs cells slots hI => ?_)
          refine W.eq (g2 := F0 m 79 ls []) rfl ?_
          refine lv_aload_n S.1 S.2.1 d_Printer_putRest_79 rfl (lv_at hl 0 rfl) ?_
          refine lv_aload_n S.1 S.2.1 d_Printer_putRest_80 rfl (lv_at hl 1 rfl) ?_
          refine x_getR (ci := 7) (k := 3) S hK hI (fun w h => List.mem_cons_of_mem _ (i_Row w h)) rfl (by decide) (List.mem_cons_of_mem _ wd_437) rfl d_Printer_putRest_81 hf (fun r24 hf => ?_)
          obtain ⟨⟨fs28, hefs28⟩, hf⟩ := b_is_inv hf
          obtain ⟨r25, N26, hg27, hf⟩ := b_call_inv hf
          refine x_call hI (hm_mo hg27) (va_runV (As := [va_rf r24]) (rest := []) S (c_Printer_putName l hg27) (cwV 1 S.2.2.2.2 (gi_V wd_424 wd_425 wd_426 wd_31 wd_427) rfl rfl rfl (by decide +kernel) ⟨Nat.le_trans (Nat.le_of_ble_eq_true rfl) hRf.1, Nat.le_trans (Nat.le_of_ble_eq_true rfl) hRf.2⟩) ⟨hm_B.blind, va_recv hK (hI.1.one hefs28) (ci := 5) (q0 := 0) rfl rfl, fun U hU hW => ⟨rfl, hm_B.of hK hG hI hU hW⟩⟩ rfl rfl hl.1 rfl (lv_room (Nat.le_of_ble_eq_true rfl)) d_Printer_putRest_84 (hx_fit hI hR (hm_mo hg27) (hm_mo hf))) (fun H locs cells slots hI => ?_)
          refine W.eq (g2 := F0 m 87 ls []) rfl ?_
          refine lv_goto (tgt := 113) S.1 S.2.1 d_Printer_putRest_87 (by decide) ?_
          exact hret _ _ _ _ _ _ _ d_Printer_putRest_113 hf hI
    · have hf := b_if_t hc hf
      refine lv_aload_n S.1 S.2.1 d_Printer_putRest_40 rfl (lv_at hl 0 rfl) ?_
      refine lv_bipush (v := 32) S.1 S.2.1 d_Printer_putRest_41 (by decide) ?_
      obtain ⟨⟨fs32, hefs32⟩, hf⟩ := b_is_inv hf
      obtain ⟨r29, N30, hg31, hf⟩ := b_call_inv hf
      refine x_call hI (hm_mo hg31) (va_runV (As := [.int 32]) (rest := []) S (c_Printer_put l hg31) (cwV 1 S.2.2.2.2 (gi_V wd_420 wd_421 wd_422 wd_31 wd_423) rfl rfl rfl (by decide +kernel) ⟨Nat.le_trans (Nat.le_of_ble_eq_true rfl) hRf.1, Nat.le_trans (Nat.le_of_ble_eq_true rfl) hRf.2⟩) ⟨hm_B.blind, va_recv hK (hI.1.one hefs32) (ci := 5) (q0 := 0) rfl rfl, fun U hU hW => ⟨rfl, hm_B.of hK hG hI hU hW⟩⟩ rfl rfl hl.1 rfl (lv_room (Nat.le_of_ble_eq_true rfl)) d_Printer_putRest_43 (hx_fit hI hR (hm_mo hg31) (hm_mo hf))) (fun H locs cells slots hI => ?_)
      refine W.eq (g2 := F0 m 46 ls []) rfl ?_
      refine lv_aload_n S.1 S.2.1 d_Printer_putRest_46 rfl (lv_at hl 0 rfl) ?_
      refine lv_aload_n S.1 S.2.1 d_Printer_putRest_47 rfl (lv_at hl 1 rfl) ?_
      refine x_getL (ci := 7) (k := 4) S hK hI (fun w h => List.mem_cons_of_mem _ (i_Row w h)) rfl (by decide) (List.mem_cons_of_mem _ wd_429) rfl d_Printer_putRest_48 hf (fun v33 hf => ?_)
      obtain ⟨⟨fs37, hefs37⟩, hf⟩ := b_is_inv hf
      obtain ⟨r34, N35, hg36, hf⟩ := b_call_inv hf
      refine x_call hI (hm_mo hg36) (va_runV (As := [.long v33]) (rest := []) S (c_Printer_putVersion l hg36) (cwV 1 S.2.2.2.2 (gi_V wd_439 wd_440 wd_441 wd_31 wd_442) rfl rfl rfl (by decide +kernel) ⟨Nat.le_trans (Nat.le_of_ble_eq_true rfl) hRf.1, Nat.le_trans (Nat.le_of_ble_eq_true rfl) hRf.2⟩) ⟨hm_B.blind, va_recv hK (hI.1.one hefs37) (ci := 5) (q0 := 0) rfl rfl, fun U hU hW => ⟨rfl, hm_B.of hK hG hI hU hW⟩⟩ rfl rfl hl.1 rfl (lv_room (Nat.le_of_ble_eq_true rfl)) d_Printer_putRest_51 (hx_fit hI hR (hm_mo hg36) (hm_mo hf))) (fun H locs cells slots hI => ?_)
      refine W.eq (g2 := F0 m 54 ls []) rfl ?_
      refine lv_goto (tgt := 113) S.1 S.2.1 d_Printer_putRest_54 (by decide) ?_
      exact hret _ _ _ _ _ _ _ d_Printer_putRest_113 hf hI
  · have hf := b_if_f hc hf
    refine lv_aload_n S.1 S.2.1 d_Printer_putRest_10 rfl (lv_at hl 0 rfl) ?_
    refine lv_bipush (v := 32) S.1 S.2.1 d_Printer_putRest_11 (by decide) ?_
    obtain ⟨⟨fs41, hefs41⟩, hf⟩ := b_is_inv hf
    obtain ⟨r38, N39, hg40, hf⟩ := b_call_inv hf
    refine x_call hI (hm_mo hg40) (va_runV (As := [.int 32]) (rest := []) S (c_Printer_put l hg40) (cwV 1 S.2.2.2.2 (gi_V wd_420 wd_421 wd_422 wd_31 wd_423) rfl rfl rfl (by decide +kernel) ⟨Nat.le_trans (Nat.le_of_ble_eq_true rfl) hRf.1, Nat.le_trans (Nat.le_of_ble_eq_true rfl) hRf.2⟩) ⟨hm_B.blind, va_recv hK (hI.1.one hefs41) (ci := 5) (q0 := 0) rfl rfl, fun U hU hW => ⟨rfl, hm_B.of hK hG hI hU hW⟩⟩ rfl rfl hl.1 rfl (lv_room (Nat.le_of_ble_eq_true rfl)) d_Printer_putRest_13 (hx_fit hI hR (hm_mo hg40) (hm_mo hf))) (fun H locs cells slots hI => ?_)
    refine W.eq (g2 := F0 m 16 ls []) rfl ?_
    refine lv_aload_n S.1 S.2.1 d_Printer_putRest_16 rfl (lv_at hl 0 rfl) ?_
    refine lv_aload_n S.1 S.2.1 d_Printer_putRest_17 rfl (lv_at hl 1 rfl) ?_
    refine x_getL (ci := 7) (k := 4) S hK hI (fun w h => List.mem_cons_of_mem _ (i_Row w h)) rfl (by decide) (List.mem_cons_of_mem _ wd_429) rfl d_Printer_putRest_18 hf (fun v42 hf => ?_)
    refine lv_aload_n S.1 S.2.1 d_Printer_putRest_21 rfl (lv_at hl 1 rfl) ?_
    refine x_getL (ci := 7) (k := 5) S hK hI (fun w h => List.mem_cons_of_mem _ (i_Row w h)) rfl (by decide) (List.mem_cons_of_mem _ wd_443) rfl d_Printer_putRest_22 hf (fun v43 hf => ?_)
    obtain ⟨⟨fs47, hefs47⟩, hf⟩ := b_is_inv hf
    obtain ⟨r44, N45, hg46, hf⟩ := b_call_inv hf
    refine x_call hI (hm_mo hg46) (va_runV (As := [.long v42, .long v43]) (rest := []) S (c_Printer_putRange l hg46) (cwV 2 S.2.2.2.2 (gi_V wd_451 wd_452 wd_453 wd_31 wd_454) rfl rfl rfl (by decide +kernel) ⟨Nat.le_trans (Nat.le_of_ble_eq_true rfl) hRf.1, Nat.le_trans (Nat.le_of_ble_eq_true rfl) hRf.2⟩) ⟨hm_B.blind, va_recv hK (hI.1.one hefs47) (ci := 5) (q0 := 0) rfl rfl, fun U hU hW => ⟨rfl, hm_B.of hK hG hI hU hW⟩⟩ rfl rfl hl.1 rfl (lv_room (Nat.le_of_ble_eq_true rfl)) d_Printer_putRest_25 (hx_fit hI hR (hm_mo hg46) (hm_mo hf))) (fun H locs cells slots hI => ?_)
    refine W.eq (g2 := F0 m 28 ls []) rfl ?_
    refine lv_goto (tgt := 113) S.1 S.2.1 d_Printer_putRest_28 (by decide) ?_
    exact hret _ _ _ _ _ _ _ d_Printer_putRest_113 hf hI
set_option maxHeartbeats 4000000 in
set_option maxRecDepth 100000 in
theorem c_Printer_putBeginning (l : Launch) {D : va_G} {dA : Nat → ClassId} {aK aV : Nat → Nat} {z : Nat} {N : Nat} {h0 : Nat} {p0 : Option Nat} {M : hM} {Z : Unit × hM} (hf : (f_Printer_putBeginning N h0 p0).1 M = some Z) : Met l y_Printer_putBeginning w_Printer_putBeginning ({ frames := 5, cells := Z.2.2.1 - M.2.1, slots := Z.2.2.2 - M.2.2, locals := 107 }) (va_Pc [.ref h0, va_rf p0] (hm_B D dA hCl (hTy dA) sT aK aV z M)) (hm_Q D dA hCl (hTy dA) sT aK aV z none Z.2) (Z.2.2.1 - M.2.1) (Z.2.2.2 - M.2.2) (fun q => z ≤ q) := by
  refine Met.ofW (cc := b_Printer_putBeginning) (maxL := 2) (ret := none) (by decide) rfl ?_
  intro p e s m args below meth c s₁ B hml hv
  obtain ⟨hav, hB⟩ := hv
  have S : CallFix p m c b_Printer_putBeginning 2 s args w_Printer_putBeginning R_Printer := ⟨B.exec, B.bytes, hml, findClass_of_methodNamed B.named, atoms_spec (ws := w_Printer_putBeginning) B.pre⟩
  have hr : meth.sig.returnType = none := B.returns
  have hlocks := B.notSynchronized
  have hK := hB.2.2.1
  have hG := hB.2.2.2.2.2
  have hI := hm_I.start hB
  rw [← hB.2.1]
  generalize M.2.2 = k1 at hI ⊢
  refine W.eq (g2 := F0 m 0 ((lg_sl ([.ref h0, va_rf p0]) ++ List.replicate (2 - (lg_sl ([.ref h0, va_rf p0])).length) Slot.unset).toArray) []) (by rw [hav]; exact lg_entry_eq m ([.ref h0, va_rf p0]) 2) ?_
  have hl := lv_entry ([.ref h0, va_rf p0]) (n := 2) (by cases p0 <;> exact Nat.le_of_ble_eq_true rfl)
  generalize (lg_sl ([.ref h0, va_rf p0]) ++ List.replicate (2 - (lg_sl ([.ref h0, va_rf p0])).length) Slot.unset).toArray = ls at hl ⊢
  simp only [lvA_nil, lvA_i, lvA_l, lvA_a, lvA_r, Nat.zero_add, Nat.reduceAdd] at hl
  have hret : ∀ (M : hM) (H : Heap) (locs : List Loc) (cells slots : Nat) (ls : Array Slot) (pc : Nat), decode b_Printer_putBeginning pc = .ok (.return_, 1) → (b_ret ()).1 M = some Z → hm_I D dA hCl z k1 s M H locs cells slots → W p l e (headSpec w_Printer_putBeginning { frames := 5, cells := Z.2.2.1 - s.heap.size, slots := Z.2.2.2 - k1, locals := 107 }).room s m args below meth c H locs cells slots (MQ below (hm_Q D dA hCl (hTy dA) sT aK aV z none Z.2) args s (Z.2.2.1 - s.heap.size) (Z.2.2.2 - k1) (fun q => z ≤ q)) (F0 m pc ls []) := fun M H locs cells slots ls pc hdg hf hI => x_retv S hK hG hI hr hlocks hdg hf
  have hR : Z.2.2.1 - s.heap.size ≤ (headSpec w_Printer_putBeginning { frames := 5, cells := Z.2.2.1 - s.heap.size, slots := Z.2.2.2 - k1, locals := 107 }).room.cells ∧ Z.2.2.2 - k1 ≤ (headSpec w_Printer_putBeginning { frames := 5, cells := Z.2.2.1 - s.heap.size, slots := Z.2.2.2 - k1, locals := 107 }).room.slots := ⟨Nat.le_refl _, Nat.le_refl _⟩
  have hRf : 5 ≤ (headSpec w_Printer_putBeginning { frames := 5, cells := Z.2.2.1 - s.heap.size, slots := Z.2.2.2 - k1, locals := 107 }).room.frames ∧ 107 ≤ (headSpec w_Printer_putBeginning { frames := 5, cells := Z.2.2.1 - s.heap.size, slots := Z.2.2.2 - k1, locals := 107 }).room.locals := ⟨Nat.le_refl _, Nat.le_refl _⟩
  generalize (headSpec w_Printer_putBeginning { frames := 5, cells := Z.2.2.1 - s.heap.size, slots := Z.2.2.2 - k1, locals := 107 }).room = R at hret hR hRf ⊢
  generalize (MQ below (hm_Q D dA hCl (hTy dA) sT aK aV z none Z.2) args s (Z.2.2.1 - s.heap.size) (Z.2.2.2 - k1) (fun q => z ≤ q)) = Q at hret ⊢
  rw [e_Printer_putBeginning] at hf
  obtain ⟨J44, eJ44, hf⟩ := b_let_inv hf
  have w44 : ∀  (M : hM) (H : Heap) (locs : List Loc) (ls : Array Slot) (cells slots : Nat), (J44).1 M = some Z → hm_I D dA hCl z k1 s M H locs cells slots → lv_has ls 2 [(0, .ref h0), (1, va_rf p0)] → W p l e R s m args below meth c H locs cells slots Q (F0 m 44 ls []) := by
    intro M H locs ls cells slots hf hI hl
    rw [eJ44] at hf
    refine x_aload_n (r := p0) S d_Printer_putBeginning_44 rfl (lv_at hl 1 rfl) ?_
    obtain ⟨a1, ea1, hg⟩ := b_nn_inv hf
    have hI0 := hI
    have hl0 := hl
    clear hf hI hl
    subst ea1
    have hf := hg
    have hI := hI0
    have hl := hl0
    clear hg hI0 hl0
    refine x_getI (ci := 7) (k := 0) S hK hI (fun w h => List.mem_cons_of_mem _ (i_Row w h)) rfl (by decide) (List.mem_cons_of_mem _ wd_428) rfl d_Printer_putBeginning_45 hf (fun v2 hf => ?_)
    refine lv_bipush (v := 9) S.1 S.2.1 d_Printer_putBeginning_48 (by decide) ?_
    refine lv_icmp_ne (tgt := 74) S.1 S.2.1 d_Printer_putBeginning_50 (by decide) (fun hc => ?_) (fun hc => ?_)
    · have hf := b_if_f hc hf
      exact hret _ _ _ _ _ _ _ d_Printer_putBeginning_74 hf hI
    · have hf := b_if_t hc hf
      refine lv_aload_n S.1 S.2.1 d_Printer_putBeginning_53 rfl (lv_at hl 1 rfl) ?_
      refine x_getR (ci := 7) (k := 3) S hK hI (fun w h => List.mem_cons_of_mem _ (i_Row w h)) rfl (by decide) (List.mem_cons_of_mem _ wd_437) rfl d_Printer_putBeginning_54 hf (fun r3 hf => ?_)
      refine x_ifnull (r := r3) (tgt := 74) S d_Printer_putBeginning_57 (by decide) (fun hc => ?_) (fun hc => ?_)
      · have hf := b_if_t hc hf
        exact hret _ _ _ _ _ _ _ d_Printer_putBeginning_74 hf hI
      · have hf := b_if_f hc hf
        refine lv_aload_n S.1 S.2.1 d_Printer_putBeginning_60 rfl (lv_at hl 0 rfl) ?_
        refine lv_aload_n S.1 S.2.1 d_Printer_putBeginning_61 rfl (lv_at hl 1 rfl) ?_
        refine x_getR (ci := 7) (k := 3) S hK hI (fun w h => List.mem_cons_of_mem _ (i_Row w h)) rfl (by decide) (List.mem_cons_of_mem _ wd_437) rfl d_Printer_putBeginning_62 hf (fun r4 hf => ?_)
        obtain ⟨⟨fs8, hefs8⟩, hf⟩ := b_is_inv hf
        obtain ⟨r5, N6, hg7, hf⟩ := b_call_inv hf
        refine x_call hI (hm_mo hg7) (va_runV (As := [va_rf r4]) (rest := []) S (c_Printer_putName l hg7) (cwV 1 S.2.2.2.2 (gi_V wd_424 wd_425 wd_426 wd_31 wd_427) rfl rfl rfl (by decide +kernel) ⟨Nat.le_trans (Nat.le_of_ble_eq_true rfl) hRf.1, Nat.le_trans (Nat.le_of_ble_eq_true rfl) hRf.2⟩) ⟨hm_B.blind, va_recv hK (hI.1.one hefs8) (ci := 5) (q0 := 0) rfl rfl, fun U hU hW => ⟨rfl, hm_B.of hK hG hI hU hW⟩⟩ rfl rfl hl.1 rfl (lv_room (Nat.le_of_ble_eq_true rfl)) d_Printer_putBeginning_65 (hx_fit hI hR (hm_mo hg7) (hm_mo hf))) (fun H locs cells slots hI => ?_)
        refine W.eq (g2 := F0 m 68 ls []) rfl ?_
        refine lv_aload_n S.1 S.2.1 d_Printer_putBeginning_68 rfl (lv_at hl 0 rfl) ?_
        refine va_ldcS S.1 S.2.1 S.2.2.2.1 (hG.1 22 _ rfl).1 d_Printer_putBeginning_69 ?_
        obtain ⟨⟨fs12, hefs12⟩, hf⟩ := b_is_inv hf
        obtain ⟨r9, N10, hg11, hf⟩ := b_call_inv hf
        refine x_call hI (hm_mo hg11) (va_runV (As := [.ref (aK 22)]) (rest := []) S (c_Printer_putText l hg11) (cwV 1 S.2.2.2.2 (gi_V wd_447 wd_448 wd_449 wd_31 wd_450) rfl rfl rfl (by decide +kernel) ⟨Nat.le_trans (Nat.le_of_ble_eq_true rfl) hRf.1, Nat.le_trans (Nat.le_of_ble_eq_true rfl) hRf.2⟩) ⟨hm_B.blind, va_recv hK (hI.1.one hefs12) (ci := 5) (q0 := 0) rfl rfl, fun U hU hW => ⟨rfl, hm_B.of hK hG hI hU hW⟩⟩ rfl rfl hl.1 rfl (lv_room (Nat.le_of_ble_eq_true rfl)) d_Printer_putBeginning_71 (hx_fit hI hR (hm_mo hg11) (hm_mo hf))) (fun H locs cells slots hI => ?_)
        refine W.eq (g2 := F0 m 74 ls []) rfl ?_
        exact hret _ _ _ _ _ _ _ d_Printer_putBeginning_74 hf hI
  refine lv_aload_n S.1 S.2.1 d_Printer_putBeginning_0 rfl (lv_at hl 0 rfl) ?_
  refine x_aload_n (r := p0) S d_Printer_putBeginning_1 rfl (lv_at hl 1 rfl) ?_
  obtain ⟨a13, ea13, hg⟩ := b_nn_inv hf
  have hI0 := hI
  have hl0 := hl
  clear hf hI hl
  subst ea13
  have hf := hg
  have hI := hI0
  have hl := hl0
  clear hg hI0 hl0
  refine x_getI (ci := 7) (k := 0) S hK hI (fun w h => List.mem_cons_of_mem _ (i_Row w h)) rfl (by decide) (List.mem_cons_of_mem _ wd_428) rfl d_Printer_putBeginning_2 hf (fun v14 hf => ?_)
  obtain ⟨r15, N16, hg17, hf⟩ := b_call_inv hf
  refine x_call hI (hm_mo hg17) (va_runS (As := [.int v14]) (rest := [.ref h0]) S (c_Kind_firstWord l hg17) (va_cwS 1 S.2.2.2.2 (gi_S wd_459 wd_233 wd_204 wd_234) rfl rfl rfl (by decide +kernel) ⟨Nat.le_trans (Nat.le_of_ble_eq_true rfl) hRf.1, Nat.le_trans (Nat.le_of_ble_eq_true rfl) hRf.2⟩) ⟨hm_B.blind, fun U hU hW => ⟨rfl, hm_B.of hK hG hI hU hW⟩⟩ rfl rfl hl.1 rfl (lv_room (Nat.le_of_ble_eq_true rfl)) d_Printer_putBeginning_5 (hx_fit hI hR (hm_mo hg17) (hm_mo hf))) (fun H locs cells slots hI => ?_)
  refine W.eq (g2 := F0 m 8 ls [va_rf (Option.map aK r15), .ref h0]) rfl ?_
  obtain ⟨⟨fs21, hefs21⟩, hf⟩ := b_is_inv hf
  obtain ⟨r18, N19, hg20, hf⟩ := b_call_inv hf
  refine x_call hI (hm_mo hg20) (va_runV (As := [va_rf (Option.map aK r15)]) (rest := []) S (c_Printer_putText l hg20) (cwV 1 S.2.2.2.2 (gi_V wd_447 wd_448 wd_449 wd_31 wd_450) rfl rfl rfl (by decide +kernel) ⟨Nat.le_trans (Nat.le_of_ble_eq_true rfl) hRf.1, Nat.le_trans (Nat.le_of_ble_eq_true rfl) hRf.2⟩) ⟨hm_B.blind, va_recv hK (hI.1.one hefs21) (ci := 5) (q0 := 0) rfl rfl, fun U hU hW => ⟨rfl, hm_B.of hK hG hI hU hW⟩⟩ rfl rfl hl.1 rfl (lv_room (Nat.le_of_ble_eq_true rfl)) d_Printer_putBeginning_8 (hx_fit hI hR (hm_mo hg20) (hm_mo hf))) (fun H locs cells slots hI => ?_)
  refine W.eq (g2 := F0 m 11 ls []) rfl ?_
  refine lv_aload_n S.1 S.2.1 d_Printer_putBeginning_11 rfl (lv_at hl 0 rfl) ?_
  refine lv_bipush (v := 32) S.1 S.2.1 d_Printer_putBeginning_12 (by decide) ?_
  obtain ⟨⟨fs25, hefs25⟩, hf⟩ := b_is_inv hf
  obtain ⟨r22, N23, hg24, hf⟩ := b_call_inv hf
  refine x_call hI (hm_mo hg24) (va_runV (As := [.int 32]) (rest := []) S (c_Printer_put l hg24) (cwV 1 S.2.2.2.2 (gi_V wd_420 wd_421 wd_422 wd_31 wd_423) rfl rfl rfl (by decide +kernel) ⟨Nat.le_trans (Nat.le_of_ble_eq_true rfl) hRf.1, Nat.le_trans (Nat.le_of_ble_eq_true rfl) hRf.2⟩) ⟨hm_B.blind, va_recv hK (hI.1.one hefs25) (ci := 5) (q0 := 0) rfl rfl, fun U hU hW => ⟨rfl, hm_B.of hK hG hI hU hW⟩⟩ rfl rfl hl.1 rfl (lv_room (Nat.le_of_ble_eq_true rfl)) d_Printer_putBeginning_14 (hx_fit hI hR (hm_mo hg24) (hm_mo hf))) (fun H locs cells slots hI => ?_)
  refine W.eq (g2 := F0 m 17 ls []) rfl ?_
  refine lv_aload_n S.1 S.2.1 d_Printer_putBeginning_17 rfl (lv_at hl 1 rfl) ?_
  refine x_getI (ci := 7) (k := 0) S hK hI (fun w h => List.mem_cons_of_mem _ (i_Row w h)) rfl (by decide) (List.mem_cons_of_mem _ wd_428) rfl d_Printer_putBeginning_18 hf (fun v26 hf => ?_)
  obtain ⟨v27, N28, hg29, hf⟩ := b_call_inv hf
  refine x_call hI (hm_mo hg29) (va_runS (As := [.int v26]) (rest := []) S (c_Kind_isNeed l hg29) (va_cwS 1 S.2.2.2.2 (gi_S wd_460 wd_306 wd_204 wd_307) rfl rfl rfl (by decide +kernel) ⟨Nat.le_trans (Nat.le_of_ble_eq_true rfl) hRf.1, Nat.le_trans (Nat.le_of_ble_eq_true rfl) hRf.2⟩) ⟨hm_B.blind, fun U hU hW => ⟨rfl, hm_B.of hK hG hI hU hW⟩⟩ rfl rfl hl.1 rfl (lv_room (Nat.le_of_ble_eq_true rfl)) d_Printer_putBeginning_21 (hx_fit hI hR (hm_mo hg29) (hm_mo hf))) (fun H locs cells slots hI => ?_)
  refine W.eq (g2 := F0 m 24 ls [.int v27]) rfl ?_
  refine lv_if_eq (tgt := 44) S.1 S.2.1 d_Printer_putBeginning_24 (by decide) (fun hc => ?_) (fun hc => ?_)
  · have hf := b_if_t hc hf
    exact w44  _ _ _ _ _ _ hf hI (lv_sub hl [0, 1] rfl)
  · have hf := b_if_f hc hf
    refine lv_aload_n S.1 S.2.1 d_Printer_putBeginning_27 rfl (lv_at hl 0 rfl) ?_
    refine lv_aload_n S.1 S.2.1 d_Printer_putBeginning_28 rfl (lv_at hl 1 rfl) ?_
    refine x_getI (ci := 7) (k := 0) S hK hI (fun w h => List.mem_cons_of_mem _ (i_Row w h)) rfl (by decide) (List.mem_cons_of_mem _ wd_428) rfl d_Printer_putBeginning_29 hf (fun v30 hf => ?_)
    obtain ⟨r31, N32, hg33, hf⟩ := b_call_inv hf
    refine x_call hI (hm_mo hg33) (va_runS (As := [.int v30]) (rest := [.ref h0]) S (c_Kind_needWord l hg33) (va_cwS 1 S.2.2.2.2 (gi_S wd_461 wd_246 wd_204 wd_247) rfl rfl rfl (by decide +kernel) ⟨Nat.le_trans (Nat.le_of_ble_eq_true rfl) hRf.1, Nat.le_trans (Nat.le_of_ble_eq_true rfl) hRf.2⟩) ⟨hm_B.blind, fun U hU hW => ⟨rfl, hm_B.of hK hG hI hU hW⟩⟩ rfl rfl hl.1 rfl (lv_room (Nat.le_of_ble_eq_true rfl)) d_Printer_putBeginning_32 (hx_fit hI hR (hm_mo hg33) (hm_mo hf))) (fun H locs cells slots hI => ?_)
    refine W.eq (g2 := F0 m 35 ls [va_rf (Option.map aK r31), .ref h0]) rfl ?_
    obtain ⟨⟨fs37, hefs37⟩, hf⟩ := b_is_inv hf
    obtain ⟨r34, N35, hg36, hf⟩ := b_call_inv hf
    refine x_call hI (hm_mo hg36) (va_runV (As := [va_rf (Option.map aK r31)]) (rest := []) S (c_Printer_putText l hg36) (cwV 1 S.2.2.2.2 (gi_V wd_447 wd_448 wd_449 wd_31 wd_450) rfl rfl rfl (by decide +kernel) ⟨Nat.le_trans (Nat.le_of_ble_eq_true rfl) hRf.1, Nat.le_trans (Nat.le_of_ble_eq_true rfl) hRf.2⟩) ⟨hm_B.blind, va_recv hK (hI.1.one hefs37) (ci := 5) (q0 := 0) rfl rfl, fun U hU hW => ⟨rfl, hm_B.of hK hG hI hU hW⟩⟩ rfl rfl hl.1 rfl (lv_room (Nat.le_of_ble_eq_true rfl)) d_Printer_putBeginning_35 (hx_fit hI hR (hm_mo hg36) (hm_mo hf))) (fun H locs cells slots hI => ?_)
    refine W.eq (g2 := F0 m 38 ls []) rfl ?_
    refine lv_aload_n S.1 S.2.1 d_Printer_putBeginning_38 rfl (lv_at hl 0 rfl) ?_
    refine lv_bipush (v := 32) S.1 S.2.1 d_Printer_putBeginning_39 (by decide) ?_
    obtain ⟨⟨fs41, hefs41⟩, hf⟩ := b_is_inv hf
    obtain ⟨r38, N39, hg40, hf⟩ := b_call_inv hf
    refine x_call hI (hm_mo hg40) (va_runV (As := [.int 32]) (rest := []) S (c_Printer_put l hg40) (cwV 1 S.2.2.2.2 (gi_V wd_420 wd_421 wd_422 wd_31 wd_423) rfl rfl rfl (by decide +kernel) ⟨Nat.le_trans (Nat.le_of_ble_eq_true rfl) hRf.1, Nat.le_trans (Nat.le_of_ble_eq_true rfl) hRf.2⟩) ⟨hm_B.blind, va_recv hK (hI.1.one hefs41) (ci := 5) (q0 := 0) rfl rfl, fun U hU hW => ⟨rfl, hm_B.of hK hG hI hU hW⟩⟩ rfl rfl hl.1 rfl (lv_room (Nat.le_of_ble_eq_true rfl)) d_Printer_putBeginning_41 (hx_fit hI hR (hm_mo hg40) (hm_mo hf))) (fun H locs cells slots hI => ?_)
    refine W.eq (g2 := F0 m 44 ls []) rfl ?_
    exact w44  _ _ _ _ _ _ hf hI (lv_sub hl [0, 1] rfl)
set_option maxHeartbeats 4000000 in
set_option maxRecDepth 100000 in
theorem c_Row_isOfFeature (l : Launch) {D : va_G} {dA : Nat → ClassId} {aK aV : Nat → Nat} {z : Nat} {N : Nat} {h0 : Nat} {p0 : Option Nat} {M : hM} {Z : Int32 × hM} (hf : (f_Row_isOfFeature N h0 p0).1 M = some Z) : Met l y_Row_isOfFeature w_Row_isOfFeature ({ frames := 3, cells := Z.2.2.1 - M.2.1, slots := Z.2.2.2 - M.2.2, locals := 68 }) (va_Pc [.ref h0, va_rf p0] (hm_B D dA hCl (hTy dA) sT aK aV z M)) (hm_Q D dA hCl (hTy dA) sT aK aV z (some (.int Z.1)) Z.2) (Z.2.2.1 - M.2.1) (Z.2.2.2 - M.2.2) (fun q => z ≤ q) := by
  refine Met.ofW (cc := b_Row_isOfFeature) (maxL := 2) (ret := (some .boolean)) (by decide) rfl ?_
  intro p e s m args below meth c s₁ B hml hv
  obtain ⟨hav, hB⟩ := hv
  have S : CallFix p m c b_Row_isOfFeature 2 s args w_Row_isOfFeature R_Row := ⟨B.exec, B.bytes, hml, findClass_of_methodNamed B.named, atoms_spec (ws := w_Row_isOfFeature) B.pre⟩
  have hr : meth.sig.returnType = (some .boolean) := B.returns
  have hlocks := B.notSynchronized
  have hK := hB.2.2.1
  have hG := hB.2.2.2.2.2
  have hI := hm_I.start hB
  rw [← hB.2.1]
  generalize M.2.2 = k1 at hI ⊢
  refine W.eq (g2 := F0 m 0 ((lg_sl ([.ref h0, va_rf p0]) ++ List.replicate (2 - (lg_sl ([.ref h0, va_rf p0])).length) Slot.unset).toArray) []) (by rw [hav]; exact lg_entry_eq m ([.ref h0, va_rf p0]) 2) ?_
  have hl := lv_entry ([.ref h0, va_rf p0]) (n := 2) (by cases p0 <;> exact Nat.le_of_ble_eq_true rfl)
  generalize (lg_sl ([.ref h0, va_rf p0]) ++ List.replicate (2 - (lg_sl ([.ref h0, va_rf p0])).length) Slot.unset).toArray = ls at hl ⊢
  simp only [lvA_nil, lvA_i, lvA_l, lvA_a, lvA_r, Nat.zero_add, Nat.reduceAdd] at hl
  have hret : ∀ (v : Int32) (M : hM) (H : Heap) (locs : List Loc) (cells slots : Nat) (ls : Array Slot) (pc : Nat), decode b_Row_isOfFeature pc = .ok (.ireturn, 1) → (b_retN .boolean v).1 M = some Z → hm_I D dA hCl z k1 s M H locs cells slots → W p l e (headSpec w_Row_isOfFeature { frames := 3, cells := Z.2.2.1 - s.heap.size, slots := Z.2.2.2 - k1, locals := 68 }).room s m args below meth c H locs cells slots (MQ below (hm_Q D dA hCl (hTy dA) sT aK aV z (some (.int Z.1)) Z.2) args s (Z.2.2.1 - s.heap.size) (Z.2.2.2 - k1) (fun q => z ≤ q)) (F0 m pc ls [.int v]) := fun v M H locs cells slots ls pc hdg hf hI => x_retn S hK hG hI hr hlocks hdg hf
  have hR : Z.2.2.1 - s.heap.size ≤ (headSpec w_Row_isOfFeature { frames := 3, cells := Z.2.2.1 - s.heap.size, slots := Z.2.2.2 - k1, locals := 68 }).room.cells ∧ Z.2.2.2 - k1 ≤ (headSpec w_Row_isOfFeature { frames := 3, cells := Z.2.2.1 - s.heap.size, slots := Z.2.2.2 - k1, locals := 68 }).room.slots := ⟨Nat.le_refl _, Nat.le_refl _⟩
  have hRf : 3 ≤ (headSpec w_Row_isOfFeature { frames := 3, cells := Z.2.2.1 - s.heap.size, slots := Z.2.2.2 - k1, locals := 68 }).room.frames ∧ 68 ≤ (headSpec w_Row_isOfFeature { frames := 3, cells := Z.2.2.1 - s.heap.size, slots := Z.2.2.2 - k1, locals := 68 }).room.locals := ⟨Nat.le_refl _, Nat.le_refl _⟩
  generalize (headSpec w_Row_isOfFeature { frames := 3, cells := Z.2.2.1 - s.heap.size, slots := Z.2.2.2 - k1, locals := 68 }).room = R at hret hR hRf ⊢
  generalize (MQ below (hm_Q D dA hCl (hTy dA) sT aK aV z (some (.int Z.1)) Z.2) args s (Z.2.2.1 - s.heap.size) (Z.2.2.2 - k1) (fun q => z ≤ q)) = Q at hret ⊢
  rw [e_Row_isOfFeature] at hf
  obtain ⟨J32, eJ32, hf⟩ := b_let_inv hf
  have w32 : ∀ (y0 : Int32) (M : hM) (H : Heap) (locs : List Loc) (ls : Array Slot) (cells slots : Nat), (J32 y0).1 M = some Z → hm_I D dA hCl z k1 s M H locs cells slots → lv_has ls 2 [] → W p l e R s m args below meth c H locs cells slots Q (F0 m 32 ls [.int y0]) := by
    intro y0 M H locs ls cells slots hf hI hl
    rw [eJ32] at hf
    exact hret _ _ _ _ _ _ _ _ d_Row_isOfFeature_32 hf hI
  obtain ⟨J31, eJ31, hf⟩ := b_let_inv hf
  have w31 : ∀  (M : hM) (H : Heap) (locs : List Loc) (ls : Array Slot) (cells slots : Nat), (J31).1 M = some Z → hm_I D dA hCl z k1 s M H locs cells slots → lv_has ls 2 [] → W p l e R s m args below meth c H locs cells slots Q (F0 m 31 ls []) := by
    intro M H locs ls cells slots hf hI hl
    rw [eJ31] at hf
    refine lv_iconst (v := 0) S.1 S.2.1 d_Row_isOfFeature_31 (by decide) ?_
    exact w32 0 _ _ _ _ _ _ hf hI (lv_sub hl [] rfl)
  refine lv_aload_n S.1 S.2.1 d_Row_isOfFeature_0 rfl (lv_at hl 0 rfl) ?_
  refine x_getI (ci := 7) (k := 0) S hK hI (fun w h => List.mem_cons_of_mem _ (i_Row w h)) rfl (by decide) (List.mem_cons_of_mem _ wd_150) rfl d_Row_isOfFeature_1 hf (fun v1 hf => ?_)
  refine lv_bipush (v := 9) S.1 S.2.1 d_Row_isOfFeature_4 (by decide) ?_
  refine lv_icmp_ne (tgt := 31) S.1 S.2.1 d_Row_isOfFeature_6 (by decide) (fun hc => ?_) (fun hc => ?_)
  · have hf := b_if_f hc hf
    exact w31  _ _ _ _ _ _ hf hI (lv_sub hl [] rfl)
  · have hf := b_if_t hc hf
    refine lv_aload_n S.1 S.2.1 d_Row_isOfFeature_9 rfl (lv_at hl 0 rfl) ?_
    refine x_getR (ci := 7) (k := 3) S hK hI (fun w h => List.mem_cons_of_mem _ (i_Row w h)) rfl (by decide) (List.mem_cons_of_mem _ wd_153) rfl d_Row_isOfFeature_10 hf (fun r2 hf => ?_)
    refine x_ifnull (r := r2) (tgt := 31) S d_Row_isOfFeature_13 (by decide) (fun hc => ?_) (fun hc => ?_)
    · have hf := b_if_t hc hf
      exact w31  _ _ _ _ _ _ hf hI (lv_sub hl [] rfl)
    · have hf := b_if_f hc hf
      refine lv_aload_n S.1 S.2.1 d_Row_isOfFeature_16 rfl (lv_at hl 0 rfl) ?_
      refine x_getR (ci := 7) (k := 3) S hK hI (fun w h => List.mem_cons_of_mem _ (i_Row w h)) rfl (by decide) (List.mem_cons_of_mem _ wd_153) rfl d_Row_isOfFeature_17 hf (fun r3 hf => ?_)
      refine x_aload_n (r := p0) S d_Row_isOfFeature_20 rfl (lv_at hl 1 rfl) ?_
      obtain ⟨a4, ea4, hg⟩ := b_nn_inv hf
      have hI0 := hI
      have hl0 := hl
      clear hf hI hl
      subst ea4
      have hf := hg
      have hI := hI0
      have hl := hl0
      clear hg hI0 hl0
      obtain ⟨⟨fs8, hefs8⟩, hf⟩ := b_is_inv hf
      obtain ⟨v5, N6, hg7, hf⟩ := b_call_inv hf
      refine x_call hI (hm_mo hg7) (va_runV (As := [va_rf p0]) (rest := []) S (c_Name_foldsLike l hg7) (cwV 1 S.2.2.2.2 (gi_V wd_393 wd_298 wd_299 wd_75 wd_300) rfl rfl rfl (by decide +kernel) ⟨Nat.le_trans (Nat.le_of_ble_eq_true rfl) hRf.1, Nat.le_trans (Nat.le_of_ble_eq_true rfl) hRf.2⟩) ⟨hm_B.blind, va_recv hK (hI.1.one hefs8) (ci := 2) (q0 := 0) rfl rfl, fun U hU hW => ⟨rfl, hm_B.of hK hG hI hU hW⟩⟩ rfl rfl hl.1 rfl (lv_room (Nat.le_of_ble_eq_true rfl)) d_Row_isOfFeature_21 (hx_fit hI hR (hm_mo hg7) (hm_mo hf))) (fun H locs cells slots hI => ?_)
      refine W.eq (g2 := F0 m 24 ls [.int v5]) rfl ?_
      refine lv_if_eq (tgt := 31) S.1 S.2.1 d_Row_isOfFeature_24 (by decide) (fun hc => ?_) (fun hc => ?_)
      · have hf := b_if_t hc hf
        exact w31  _ _ _ _ _ _ hf hI (lv_sub hl [] rfl)
      · have hf := b_if_f hc hf
        refine lv_iconst (v := 1) S.1 S.2.1 d_Row_isOfFeature_27 (by decide) ?_
        refine lv_goto (tgt := 32) S.1 S.2.1 d_Row_isOfFeature_28 (by decide) ?_
        exact w32 1 _ _ _ _ _ _ hf hI (lv_sub hl [] rfl)
set_option maxHeartbeats 4000000 in
set_option maxRecDepth 100000 in
theorem c_Pack_hasNamesOf (l : Launch) {D : va_G} {dA : Nat → ClassId} {aK aV : Nat → Nat} {z : Nat} {N : Nat} {h0 : Nat} {p0 : Option Nat} {M : hM} {Z : Int32 × hM} (hf : (f_Pack_hasNamesOf N h0 p0).1 M = some Z) : Met l y_Pack_hasNamesOf w_Pack_hasNamesOf ({ frames := 4, cells := Z.2.2.1 - M.2.1, slots := Z.2.2.2 - M.2.2, locals := 89 }) (va_Pc [.ref h0, va_rf p0] (hm_B D dA hCl (hTy dA) sT aK aV z M)) (hm_Q D dA hCl (hTy dA) sT aK aV z (some (.int Z.1)) Z.2) (Z.2.2.1 - M.2.1) (Z.2.2.2 - M.2.2) (fun q => z ≤ q) := by
  refine Met.ofW (cc := b_Pack_hasNamesOf) (maxL := 3) (ret := (some .boolean)) (by decide) rfl ?_
  intro p e s m args below meth c s₁ B hml hv
  obtain ⟨hav, hB⟩ := hv
  have S : CallFix p m c b_Pack_hasNamesOf 3 s args w_Pack_hasNamesOf R_Pack := ⟨B.exec, B.bytes, hml, findClass_of_methodNamed B.named, atoms_spec (ws := w_Pack_hasNamesOf) B.pre⟩
  have hr : meth.sig.returnType = (some .boolean) := B.returns
  have hlocks := B.notSynchronized
  have hK := hB.2.2.1
  have hG := hB.2.2.2.2.2
  have hI := hm_I.start hB
  rw [← hB.2.1]
  generalize M.2.2 = k1 at hI ⊢
  refine W.eq (g2 := F0 m 0 ((lg_sl ([.ref h0, va_rf p0]) ++ List.replicate (3 - (lg_sl ([.ref h0, va_rf p0])).length) Slot.unset).toArray) []) (by rw [hav]; exact lg_entry_eq m ([.ref h0, va_rf p0]) 3) ?_
  have hl := lv_entry ([.ref h0, va_rf p0]) (n := 3) (by cases p0 <;> exact Nat.le_of_ble_eq_true rfl)
  generalize (lg_sl ([.ref h0, va_rf p0]) ++ List.replicate (3 - (lg_sl ([.ref h0, va_rf p0])).length) Slot.unset).toArray = ls at hl ⊢
  simp only [lvA_nil, lvA_i, lvA_l, lvA_a, lvA_r, Nat.zero_add, Nat.reduceAdd] at hl
  have hret : ∀ (v : Int32) (M : hM) (H : Heap) (locs : List Loc) (cells slots : Nat) (ls : Array Slot) (pc : Nat), decode b_Pack_hasNamesOf pc = .ok (.ireturn, 1) → (b_retN .boolean v).1 M = some Z → hm_I D dA hCl z k1 s M H locs cells slots → W p l e (headSpec w_Pack_hasNamesOf { frames := 4, cells := Z.2.2.1 - s.heap.size, slots := Z.2.2.2 - k1, locals := 89 }).room s m args below meth c H locs cells slots (MQ below (hm_Q D dA hCl (hTy dA) sT aK aV z (some (.int Z.1)) Z.2) args s (Z.2.2.1 - s.heap.size) (Z.2.2.2 - k1) (fun q => z ≤ q)) (F0 m pc ls [.int v]) := fun v M H locs cells slots ls pc hdg hf hI => x_retn S hK hG hI hr hlocks hdg hf
  have hR : Z.2.2.1 - s.heap.size ≤ (headSpec w_Pack_hasNamesOf { frames := 4, cells := Z.2.2.1 - s.heap.size, slots := Z.2.2.2 - k1, locals := 89 }).room.cells ∧ Z.2.2.2 - k1 ≤ (headSpec w_Pack_hasNamesOf { frames := 4, cells := Z.2.2.1 - s.heap.size, slots := Z.2.2.2 - k1, locals := 89 }).room.slots := ⟨Nat.le_refl _, Nat.le_refl _⟩
  have hRf : 4 ≤ (headSpec w_Pack_hasNamesOf { frames := 4, cells := Z.2.2.1 - s.heap.size, slots := Z.2.2.2 - k1, locals := 89 }).room.frames ∧ 89 ≤ (headSpec w_Pack_hasNamesOf { frames := 4, cells := Z.2.2.1 - s.heap.size, slots := Z.2.2.2 - k1, locals := 89 }).room.locals := ⟨Nat.le_refl _, Nat.le_refl _⟩
  generalize (headSpec w_Pack_hasNamesOf { frames := 4, cells := Z.2.2.1 - s.heap.size, slots := Z.2.2.2 - k1, locals := 89 }).room = R at hret hR hRf ⊢
  generalize (MQ below (hm_Q D dA hCl (hTy dA) sT aK aV z (some (.int Z.1)) Z.2) args s (Z.2.2.1 - s.heap.size) (Z.2.2.2 - k1) (fun q => z ≤ q)) = Q at hret ⊢
  rw [e_Pack_hasNamesOf] at hf
  have w2 : ∀ (n : Nat) (x2 : Int32) (M : hM) (H : Heap) (locs : List Loc) (ls : Array Slot) (cells slots : Nat), (f_Pack_hasNamesOf_2 N h0 p0  n x2).1 M = some Z → hm_I D dA hCl z k1 s M H locs cells slots → lv_has ls 3 [(0, .ref h0), (1, va_rf p0), (2, .int x2)] → W p l e R s m args below meth c H locs cells slots Q (F0 m 2 ls []) := by
    intro n
    induction n with
    | zero => intro x2 M H locs ls cells slots hf hI hl; cases hf
    | succ n2 ih2 =>
      intro x2 M H locs ls cells slots hf hI hl
      rw [e_Pack_hasNamesOf_2] at hf
      refine lv_iload_n S.1 S.2.1 d_Pack_hasNamesOf_2 rfl (lv_at hl 2 rfl) ?_
      refine lv_aload_n S.1 S.2.1 d_Pack_hasNamesOf_3 rfl (lv_at hl 0 rfl) ?_
      refine x_getR (ci := 3) (k := 3) S hK hI (fun w h => List.mem_cons_of_mem _ (i_Pack w h)) rfl (by decide) (List.mem_cons_of_mem _ wd_278) rfl d_Pack_hasNamesOf_4 hf (fun r1 hf => ?_)
      obtain ⟨a2, ea2, hg⟩ := b_nn_inv hf
      have hI0 := hI
      have hl0 := hl
      clear hf hI hl
      subst ea2
      have hf := hg
      have hI := hI0
      have hl := hl0
      clear hg hI0 hl0
      refine x_len (t := 1) S hK hI rfl d_Pack_hasNamesOf_7 hf (fun v3 hf => ?_)
      refine lv_icmp_ge (tgt := 32) S.1 S.2.1 d_Pack_hasNamesOf_8 (by decide) (fun hc => ?_) (fun hc => ?_)
      · have hf := b_if_t hc hf
        refine lv_iconst (v := 0) S.1 S.2.1 d_Pack_hasNamesOf_32 (by decide) ?_
        exact hret _ _ _ _ _ _ _ _ d_Pack_hasNamesOf_33 hf hI
      · have hf := b_if_f hc hf
        refine lv_aload_n S.1 S.2.1 d_Pack_hasNamesOf_11 rfl (lv_at hl 0 rfl) ?_
        refine x_getR (ci := 3) (k := 3) S hK hI (fun w h => List.mem_cons_of_mem _ (i_Pack w h)) rfl (by decide) (List.mem_cons_of_mem _ wd_278) rfl d_Pack_hasNamesOf_12 hf (fun r4 hf => ?_)
        refine lv_iload_n S.1 S.2.1 d_Pack_hasNamesOf_15 rfl (lv_at hl 2 rfl) ?_
        obtain ⟨a5, ea5, hg⟩ := b_nn_inv hf
        have hI0 := hI
        have hl0 := hl
        clear hf hI hl
        subst ea5
        have hf := hg
        have hI := hI0
        have hl := hl0
        clear hg hI0 hl0
        refine x_aald (t := 1) S hK hI rfl d_Pack_hasNamesOf_16 hf (fun r6 hf => ?_)
        refine x_aload_n (r := p0) S d_Pack_hasNamesOf_17 rfl (lv_at hl 1 rfl) ?_
        obtain ⟨a7, ea7, hg⟩ := b_nn_inv hf
        have hI0 := hI
        have hl0 := hl
        clear hf hI hl
        subst ea7
        have hf := hg
        have hI := hI0
        have hl := hl0
        clear hg hI0 hl0
        obtain ⟨⟨fs11, hefs11⟩, hf⟩ := b_is_inv hf
        obtain ⟨v8, N9, hg10, hf⟩ := b_call_inv hf
        refine x_call hI (hm_mo hg10) (va_runV (As := [va_rf p0]) (rest := []) S (c_Row_isOfFeature l hg10) (cwV 1 S.2.2.2.2 (gi_V wd_468 wd_469 wd_470 wd_157 wd_471) rfl rfl rfl (by decide +kernel) ⟨Nat.le_trans (Nat.le_of_ble_eq_true rfl) hRf.1, Nat.le_trans (Nat.le_of_ble_eq_true rfl) hRf.2⟩) ⟨hm_B.blind, va_recv hK (hI.1.one hefs11) (ci := 7) (q0 := 0) rfl rfl, fun U hU hW => ⟨rfl, hm_B.of hK hG hI hU hW⟩⟩ rfl rfl hl.1 rfl (lv_room (Nat.le_of_ble_eq_true rfl)) d_Pack_hasNamesOf_18 (hx_fit hI hR (hm_mo hg10) (hm_mo hf))) (fun H locs cells slots hI => ?_)
        refine W.eq (g2 := F0 m 21 ls [.int v8]) rfl ?_
        refine lv_if_eq (tgt := 26) S.1 S.2.1 d_Pack_hasNamesOf_21 (by decide) (fun hc => ?_) (fun hc => ?_)
        · have hf := b_if_t hc hf
          refine x_iinc (v := 1) (lv2 := [(0, .ref h0), (1, va_rf p0)]) S d_Pack_hasNamesOf_26 hl 2 rfl (by decide) (by decide) [0, 1] rfl ⟨⟨(by decide : (0 : Nat) ≠ 2), fun h => absurd (show (0 : Nat) + 1 = 2 from h) (by decide)⟩, ⟨⟨(by decide : (1 : Nat) ≠ 2), fun _ => rf_cat _⟩, trivial⟩⟩ (fun ls hl => ?_)
          refine lv_goto (tgt := 2) S.1 S.2.1 d_Pack_hasNamesOf_29 (by decide) ?_
          exact ih2 (x2 + 1) _ _ _ _ _ _ hf hI (lv_sub hl [1, 2, 0] rfl)
        · have hf := b_if_f hc hf
          refine lv_iconst (v := 1) S.1 S.2.1 d_Pack_hasNamesOf_24 (by decide) ?_
          exact hret _ _ _ _ _ _ _ _ d_Pack_hasNamesOf_25 hf hI
  refine lv_iconst (v := 0) S.1 S.2.1 d_Pack_hasNamesOf_0 (by decide) ?_
  refine x_istore_n (lv2 := [(0, .ref h0), (1, va_rf p0)]) S d_Pack_hasNamesOf_1 rfl hl (by decide) [0, 1] rfl ⟨⟨(by decide : (0 : Nat) ≠ 2), fun h => absurd (show (0 : Nat) + 1 = 2 from h) (by decide)⟩, ⟨⟨(by decide : (1 : Nat) ≠ 2), fun _ => rf_cat _⟩, trivial⟩⟩ (fun ls hl => ?_)
  exact w2 N 0 _ _ _ _ _ _ hf hI (lv_sub hl [1, 2, 0] rfl)
set_option maxHeartbeats 4000000 in
set_option maxRecDepth 100000 in
theorem c_Printer_putBareFeatures (l : Launch) {D : va_G} {dA : Nat → ClassId} {aK aV : Nat → Nat} {z : Nat} {N : Nat} {h0 : Nat} {p0 : Option Nat} {M : hM} {Z : Unit × hM} (hf : (f_Printer_putBareFeatures N h0 p0).1 M = some Z) : Met l y_Printer_putBareFeatures w_Printer_putBareFeatures ({ frames := 5, cells := Z.2.2.1 - M.2.1, slots := Z.2.2.2 - M.2.2, locals := 111 }) (va_Pc [.ref h0, va_rf p0] (hm_B D dA hCl (hTy dA) sT aK aV z M)) (hm_Q D dA hCl (hTy dA) sT aK aV z none Z.2) (Z.2.2.1 - M.2.1) (Z.2.2.2 - M.2.2) (fun q => z ≤ q) := by
  refine Met.ofW (cc := b_Printer_putBareFeatures) (maxL := 3) (ret := none) (by decide) rfl ?_
  intro p e s m args below meth c s₁ B hml hv
  obtain ⟨hav, hB⟩ := hv
  have S : CallFix p m c b_Printer_putBareFeatures 3 s args w_Printer_putBareFeatures R_Printer := ⟨B.exec, B.bytes, hml, findClass_of_methodNamed B.named, atoms_spec (ws := w_Printer_putBareFeatures) B.pre⟩
  have hr : meth.sig.returnType = none := B.returns
  have hlocks := B.notSynchronized
  have hK := hB.2.2.1
  have hG := hB.2.2.2.2.2
  have hI := hm_I.start hB
  rw [← hB.2.1]
  generalize M.2.2 = k1 at hI ⊢
  refine W.eq (g2 := F0 m 0 ((lg_sl ([.ref h0, va_rf p0]) ++ List.replicate (3 - (lg_sl ([.ref h0, va_rf p0])).length) Slot.unset).toArray) []) (by rw [hav]; exact lg_entry_eq m ([.ref h0, va_rf p0]) 3) ?_
  have hl := lv_entry ([.ref h0, va_rf p0]) (n := 3) (by cases p0 <;> exact Nat.le_of_ble_eq_true rfl)
  generalize (lg_sl ([.ref h0, va_rf p0]) ++ List.replicate (3 - (lg_sl ([.ref h0, va_rf p0])).length) Slot.unset).toArray = ls at hl ⊢
  simp only [lvA_nil, lvA_i, lvA_l, lvA_a, lvA_r, Nat.zero_add, Nat.reduceAdd] at hl
  have hret : ∀ (M : hM) (H : Heap) (locs : List Loc) (cells slots : Nat) (ls : Array Slot) (pc : Nat), decode b_Printer_putBareFeatures pc = .ok (.return_, 1) → (b_ret ()).1 M = some Z → hm_I D dA hCl z k1 s M H locs cells slots → W p l e (headSpec w_Printer_putBareFeatures { frames := 5, cells := Z.2.2.1 - s.heap.size, slots := Z.2.2.2 - k1, locals := 111 }).room s m args below meth c H locs cells slots (MQ below (hm_Q D dA hCl (hTy dA) sT aK aV z none Z.2) args s (Z.2.2.1 - s.heap.size) (Z.2.2.2 - k1) (fun q => z ≤ q)) (F0 m pc ls []) := fun M H locs cells slots ls pc hdg hf hI => x_retv S hK hG hI hr hlocks hdg hf
  have hR : Z.2.2.1 - s.heap.size ≤ (headSpec w_Printer_putBareFeatures { frames := 5, cells := Z.2.2.1 - s.heap.size, slots := Z.2.2.2 - k1, locals := 111 }).room.cells ∧ Z.2.2.2 - k1 ≤ (headSpec w_Printer_putBareFeatures { frames := 5, cells := Z.2.2.1 - s.heap.size, slots := Z.2.2.2 - k1, locals := 111 }).room.slots := ⟨Nat.le_refl _, Nat.le_refl _⟩
  have hRf : 5 ≤ (headSpec w_Printer_putBareFeatures { frames := 5, cells := Z.2.2.1 - s.heap.size, slots := Z.2.2.2 - k1, locals := 111 }).room.frames ∧ 111 ≤ (headSpec w_Printer_putBareFeatures { frames := 5, cells := Z.2.2.1 - s.heap.size, slots := Z.2.2.2 - k1, locals := 111 }).room.locals := ⟨Nat.le_refl _, Nat.le_refl _⟩
  generalize (headSpec w_Printer_putBareFeatures { frames := 5, cells := Z.2.2.1 - s.heap.size, slots := Z.2.2.2 - k1, locals := 111 }).room = R at hret hR hRf ⊢
  generalize (MQ below (hm_Q D dA hCl (hTy dA) sT aK aV z none Z.2) args s (Z.2.2.1 - s.heap.size) (Z.2.2.2 - k1) (fun q => z ≤ q)) = Q at hret ⊢
  rw [e_Printer_putBareFeatures] at hf
  have w2 : ∀ (n : Nat) (x2 : Int32) (M : hM) (H : Heap) (locs : List Loc) (ls : Array Slot) (cells slots : Nat), (f_Printer_putBareFeatures_2 N h0 p0  n x2).1 M = some Z → hm_I D dA hCl z k1 s M H locs cells slots → lv_has ls 3 [(0, .ref h0), (1, va_rf p0), (2, .int x2)] → W p l e R s m args below meth c H locs cells slots Q (F0 m 2 ls []) := by
    intro n
    induction n with
    | zero => intro x2 M H locs ls cells slots hf hI hl; cases hf
    | succ n2 ih2 =>
      intro x2 M H locs ls cells slots hf hI hl
      rw [e_Printer_putBareFeatures_2] at hf
      obtain ⟨J46, eJ46, hf⟩ := b_let_inv hf
      have w46 : ∀ (x2 : Int32) (M : hM) (H : Heap) (locs : List Loc) (ls : Array Slot) (cells slots : Nat), (J46 x2).1 M = some Z → hm_I D dA hCl z k1 s M H locs cells slots → lv_has ls 3 [(0, .ref h0), (1, va_rf p0), (2, .int x2)] → W p l e R s m args below meth c H locs cells slots Q (F0 m 46 ls []) := by
        intro x2 M H locs ls cells slots hf hI hl
        rw [eJ46] at hf
        refine x_iinc (v := 1) (lv2 := [(0, .ref h0), (1, va_rf p0)]) S d_Printer_putBareFeatures_46 hl 2 rfl (by decide) (by decide) [0, 1] rfl ⟨⟨(by decide : (0 : Nat) ≠ 2), fun h => absurd (show (0 : Nat) + 1 = 2 from h) (by decide)⟩, ⟨⟨(by decide : (1 : Nat) ≠ 2), fun _ => rf_cat _⟩, trivial⟩⟩ (fun ls hl => ?_)
        refine lv_goto (tgt := 2) S.1 S.2.1 d_Printer_putBareFeatures_49 (by decide) ?_
        exact ih2 (x2 + 1) _ _ _ _ _ _ hf hI (lv_sub hl [1, 2, 0] rfl)
      refine lv_iload_n S.1 S.2.1 d_Printer_putBareFeatures_2 rfl (lv_at hl 2 rfl) ?_
      refine x_aload_n (r := p0) S d_Printer_putBareFeatures_3 rfl (lv_at hl 1 rfl) ?_
      obtain ⟨a1, ea1, hg⟩ := b_nn_inv hf
      have hI0 := hI
      have hl0 := hl
      clear hf hI hl
      subst ea1
      have hf := hg
      have hI := hI0
      have hl := hl0
      clear hg hI0 hl0
      refine x_getR (ci := 3) (k := 2) S hK hI (fun w h => List.mem_cons_of_mem _ (i_Pack w h)) rfl (by decide) (List.mem_cons_of_mem _ wd_467) rfl d_Printer_putBareFeatures_4 hf (fun r2 hf => ?_)
      obtain ⟨a3, ea3, hg⟩ := b_nn_inv hf
      have hI0 := hI
      have hl0 := hl
      clear hf hI hl
      subst ea3
      have hf := hg
      have hI := hI0
      have hl := hl0
      clear hg hI0 hl0
      refine x_len (t := 3) S hK hI rfl d_Printer_putBareFeatures_7 hf (fun v4 hf => ?_)
      refine lv_icmp_ge (tgt := 52) S.1 S.2.1 d_Printer_putBareFeatures_8 (by decide) (fun hc => ?_) (fun hc => ?_)
      · have hf := b_if_t hc hf
        exact hret _ _ _ _ _ _ _ d_Printer_putBareFeatures_52 hf hI
      · have hf := b_if_f hc hf
        refine lv_aload_n S.1 S.2.1 d_Printer_putBareFeatures_11 rfl (lv_at hl 1 rfl) ?_
        refine lv_aload_n S.1 S.2.1 d_Printer_putBareFeatures_12 rfl (lv_at hl 1 rfl) ?_
        refine x_getR (ci := 3) (k := 2) S hK hI (fun w h => List.mem_cons_of_mem _ (i_Pack w h)) rfl (by decide) (List.mem_cons_of_mem _ wd_467) rfl d_Printer_putBareFeatures_13 hf (fun r5 hf => ?_)
        refine lv_iload_n S.1 S.2.1 d_Printer_putBareFeatures_16 rfl (lv_at hl 2 rfl) ?_
        obtain ⟨a6, ea6, hg⟩ := b_nn_inv hf
        have hI0 := hI
        have hl0 := hl
        clear hf hI hl
        subst ea6
        have hf := hg
        have hI := hI0
        have hl := hl0
        clear hg hI0 hl0
        refine x_aald (t := 3) S hK hI rfl d_Printer_putBareFeatures_17 hf (fun r7 hf => ?_)
        obtain ⟨⟨fs11, hefs11⟩, hf⟩ := b_is_inv hf
        obtain ⟨v8, N9, hg10, hf⟩ := b_call_inv hf
        refine x_call hI (hm_mo hg10) (va_runV (As := [va_rf r7]) (rest := []) S (c_Pack_hasNamesOf l hg10) (cwV 1 S.2.2.2.2 (gi_V wd_472 wd_473 wd_474 wd_273 wd_475) rfl rfl rfl (by decide +kernel) ⟨Nat.le_trans (Nat.le_of_ble_eq_true rfl) hRf.1, Nat.le_trans (Nat.le_of_ble_eq_true rfl) hRf.2⟩) ⟨hm_B.blind, va_recv hK (hI.1.one hefs11) (ci := 3) (q0 := 0) rfl rfl, fun U hU hW => ⟨rfl, hm_B.of hK hG hI hU hW⟩⟩ rfl rfl hl.1 rfl (lv_room (Nat.le_of_ble_eq_true rfl)) d_Printer_putBareFeatures_18 (hx_fit hI hR (hm_mo hg10) (hm_mo hf))) (fun H locs cells slots hI => ?_)
        refine W.eq (g2 := F0 m 21 ls [.int v8]) rfl ?_
        refine lv_if_ne (tgt := 46) S.1 S.2.1 d_Printer_putBareFeatures_21 (by decide) (fun hc => ?_) (fun hc => ?_)
        · have hf := b_if_f hc hf
          exact w46 x2 _ _ _ _ _ _ hf hI (lv_sub hl [0, 1, 2] rfl)
        · have hf := b_if_t hc hf
          refine lv_aload_n S.1 S.2.1 d_Printer_putBareFeatures_24 rfl (lv_at hl 0 rfl) ?_
          refine va_ldcS S.1 S.2.1 S.2.2.2.1 (hG.1 26 _ rfl).1 d_Printer_putBareFeatures_25 ?_
          obtain ⟨⟨fs15, hefs15⟩, hf⟩ := b_is_inv hf
          obtain ⟨r12, N13, hg14, hf⟩ := b_call_inv hf
          refine x_call hI (hm_mo hg14) (va_runV (As := [.ref (aK 26)]) (rest := []) S (c_Printer_putText l hg14) (cwV 1 S.2.2.2.2 (gi_V wd_447 wd_448 wd_449 wd_31 wd_450) rfl rfl rfl (by decide +kernel) ⟨Nat.le_trans (Nat.le_of_ble_eq_true rfl) hRf.1, Nat.le_trans (Nat.le_of_ble_eq_true rfl) hRf.2⟩) ⟨hm_B.blind, va_recv hK (hI.1.one hefs15) (ci := 5) (q0 := 0) rfl rfl, fun U hU hW => ⟨rfl, hm_B.of hK hG hI hU hW⟩⟩ rfl rfl hl.1 rfl (lv_room (Nat.le_of_ble_eq_true rfl)) d_Printer_putBareFeatures_27 (hx_fit hI hR (hm_mo hg14) (hm_mo hf))) (fun H locs cells slots hI => ?_)
          refine W.eq (g2 := F0 m 30 ls []) rfl ?_
          refine lv_aload_n S.1 S.2.1 d_Printer_putBareFeatures_30 rfl (lv_at hl 0 rfl) ?_
          refine lv_aload_n S.1 S.2.1 d_Printer_putBareFeatures_31 rfl (lv_at hl 1 rfl) ?_
          refine x_getR (ci := 3) (k := 2) S hK hI (fun w h => List.mem_cons_of_mem _ (i_Pack w h)) rfl (by decide) (List.mem_cons_of_mem _ wd_467) rfl d_Printer_putBareFeatures_32 hf (fun r16 hf => ?_)
          refine lv_iload_n S.1 S.2.1 d_Printer_putBareFeatures_35 rfl (lv_at hl 2 rfl) ?_
          obtain ⟨a17, ea17, hg⟩ := b_nn_inv hf
          have hI0 := hI
          have hl0 := hl
          clear hf hI hl
          subst ea17
          have hf := hg
          have hI := hI0
          have hl := hl0
          clear hg hI0 hl0
          refine x_aald (t := 3) S hK hI rfl d_Printer_putBareFeatures_36 hf (fun r18 hf => ?_)
          obtain ⟨⟨fs22, hefs22⟩, hf⟩ := b_is_inv hf
          obtain ⟨r19, N20, hg21, hf⟩ := b_call_inv hf
          refine x_call hI (hm_mo hg21) (va_runV (As := [va_rf r18]) (rest := []) S (c_Printer_putName l hg21) (cwV 1 S.2.2.2.2 (gi_V wd_424 wd_425 wd_426 wd_31 wd_427) rfl rfl rfl (by decide +kernel) ⟨Nat.le_trans (Nat.le_of_ble_eq_true rfl) hRf.1, Nat.le_trans (Nat.le_of_ble_eq_true rfl) hRf.2⟩) ⟨hm_B.blind, va_recv hK (hI.1.one hefs22) (ci := 5) (q0 := 0) rfl rfl, fun U hU hW => ⟨rfl, hm_B.of hK hG hI hU hW⟩⟩ rfl rfl hl.1 rfl (lv_room (Nat.le_of_ble_eq_true rfl)) d_Printer_putBareFeatures_37 (hx_fit hI hR (hm_mo hg21) (hm_mo hf))) (fun H locs cells slots hI => ?_)
          refine W.eq (g2 := F0 m 40 ls []) rfl ?_
          refine lv_aload_n S.1 S.2.1 d_Printer_putBareFeatures_40 rfl (lv_at hl 0 rfl) ?_
          refine lv_bipush (v := 58) S.1 S.2.1 d_Printer_putBareFeatures_41 (by decide) ?_
          obtain ⟨⟨fs26, hefs26⟩, hf⟩ := b_is_inv hf
          obtain ⟨r23, N24, hg25, hf⟩ := b_call_inv hf
          refine x_call hI (hm_mo hg25) (va_runV (As := [.int 58]) (rest := []) S (c_Printer_put l hg25) (cwV 1 S.2.2.2.2 (gi_V wd_420 wd_421 wd_422 wd_31 wd_423) rfl rfl rfl (by decide +kernel) ⟨Nat.le_trans (Nat.le_of_ble_eq_true rfl) hRf.1, Nat.le_trans (Nat.le_of_ble_eq_true rfl) hRf.2⟩) ⟨hm_B.blind, va_recv hK (hI.1.one hefs26) (ci := 5) (q0 := 0) rfl rfl, fun U hU hW => ⟨rfl, hm_B.of hK hG hI hU hW⟩⟩ rfl rfl hl.1 rfl (lv_room (Nat.le_of_ble_eq_true rfl)) d_Printer_putBareFeatures_43 (hx_fit hI hR (hm_mo hg25) (hm_mo hf))) (fun H locs cells slots hI => ?_)
          refine W.eq (g2 := F0 m 46 ls []) rfl ?_
          exact w46 x2 _ _ _ _ _ _ hf hI (lv_sub hl [0, 1, 2] rfl)
  refine lv_iconst (v := 0) S.1 S.2.1 d_Printer_putBareFeatures_0 (by decide) ?_
  refine x_istore_n (lv2 := [(0, .ref h0), (1, va_rf p0)]) S d_Printer_putBareFeatures_1 rfl hl (by decide) [0, 1] rfl ⟨⟨(by decide : (0 : Nat) ≠ 2), fun h => absurd (show (0 : Nat) + 1 = 2 from h) (by decide)⟩, ⟨⟨(by decide : (1 : Nat) ≠ 2), fun _ => rf_cat _⟩, trivial⟩⟩ (fun ls hl => ?_)
  exact w2 N 0 _ _ _ _ _ _ hf hI (lv_sub hl [1, 2, 0] rfl)
set_option maxHeartbeats 4000000 in
set_option maxRecDepth 100000 in
theorem c_Row_sharesTextRow (l : Launch) {D : va_G} {dA : Nat → ClassId} {aK aV : Nat → Nat} {z : Nat} {N : Nat} {h0 : Nat} {p0 : Option Nat} {M : hM} {Z : Int32 × hM} (hf : (f_Row_sharesTextRow N h0 p0).1 M = some Z) : Met l y_Row_sharesTextRow w_Row_sharesTextRow ({ frames := 4, cells := Z.2.2.1 - M.2.1, slots := Z.2.2.2 - M.2.2, locals := 89 }) (va_Pc [.ref h0, va_rf p0] (hm_B D dA hCl (hTy dA) sT aK aV z M)) (hm_Q D dA hCl (hTy dA) sT aK aV z (some (.int Z.1)) Z.2) (Z.2.2.1 - M.2.1) (Z.2.2.2 - M.2.2) (fun q => z ≤ q) := by
  refine Met.ofW (cc := b_Row_sharesTextRow) (maxL := 2) (ret := (some .boolean)) (by decide) rfl ?_
  intro p e s m args below meth c s₁ B hml hv
  obtain ⟨hav, hB⟩ := hv
  have S : CallFix p m c b_Row_sharesTextRow 2 s args w_Row_sharesTextRow R_Row := ⟨B.exec, B.bytes, hml, findClass_of_methodNamed B.named, atoms_spec (ws := w_Row_sharesTextRow) B.pre⟩
  have hr : meth.sig.returnType = (some .boolean) := B.returns
  have hlocks := B.notSynchronized
  have hK := hB.2.2.1
  have hG := hB.2.2.2.2.2
  have hI := hm_I.start hB
  rw [← hB.2.1]
  generalize M.2.2 = k1 at hI ⊢
  refine W.eq (g2 := F0 m 0 ((lg_sl ([.ref h0, va_rf p0]) ++ List.replicate (2 - (lg_sl ([.ref h0, va_rf p0])).length) Slot.unset).toArray) []) (by rw [hav]; exact lg_entry_eq m ([.ref h0, va_rf p0]) 2) ?_
  have hl := lv_entry ([.ref h0, va_rf p0]) (n := 2) (by cases p0 <;> exact Nat.le_of_ble_eq_true rfl)
  generalize (lg_sl ([.ref h0, va_rf p0]) ++ List.replicate (2 - (lg_sl ([.ref h0, va_rf p0])).length) Slot.unset).toArray = ls at hl ⊢
  simp only [lvA_nil, lvA_i, lvA_l, lvA_a, lvA_r, Nat.zero_add, Nat.reduceAdd] at hl
  have hret : ∀ (v : Int32) (M : hM) (H : Heap) (locs : List Loc) (cells slots : Nat) (ls : Array Slot) (pc : Nat), decode b_Row_sharesTextRow pc = .ok (.ireturn, 1) → (b_retN .boolean v).1 M = some Z → hm_I D dA hCl z k1 s M H locs cells slots → W p l e (headSpec w_Row_sharesTextRow { frames := 4, cells := Z.2.2.1 - s.heap.size, slots := Z.2.2.2 - k1, locals := 89 }).room s m args below meth c H locs cells slots (MQ below (hm_Q D dA hCl (hTy dA) sT aK aV z (some (.int Z.1)) Z.2) args s (Z.2.2.1 - s.heap.size) (Z.2.2.2 - k1) (fun q => z ≤ q)) (F0 m pc ls [.int v]) := fun v M H locs cells slots ls pc hdg hf hI => x_retn S hK hG hI hr hlocks hdg hf
  have hR : Z.2.2.1 - s.heap.size ≤ (headSpec w_Row_sharesTextRow { frames := 4, cells := Z.2.2.1 - s.heap.size, slots := Z.2.2.2 - k1, locals := 89 }).room.cells ∧ Z.2.2.2 - k1 ≤ (headSpec w_Row_sharesTextRow { frames := 4, cells := Z.2.2.1 - s.heap.size, slots := Z.2.2.2 - k1, locals := 89 }).room.slots := ⟨Nat.le_refl _, Nat.le_refl _⟩
  have hRf : 4 ≤ (headSpec w_Row_sharesTextRow { frames := 4, cells := Z.2.2.1 - s.heap.size, slots := Z.2.2.2 - k1, locals := 89 }).room.frames ∧ 89 ≤ (headSpec w_Row_sharesTextRow { frames := 4, cells := Z.2.2.1 - s.heap.size, slots := Z.2.2.2 - k1, locals := 89 }).room.locals := ⟨Nat.le_refl _, Nat.le_refl _⟩
  generalize (headSpec w_Row_sharesTextRow { frames := 4, cells := Z.2.2.1 - s.heap.size, slots := Z.2.2.2 - k1, locals := 89 }).room = R at hret hR hRf ⊢
  generalize (MQ below (hm_Q D dA hCl (hTy dA) sT aK aV z (some (.int Z.1)) Z.2) args s (Z.2.2.1 - s.heap.size) (Z.2.2.2 - k1) (fun q => z ≤ q)) = Q at hret ⊢
  rw [e_Row_sharesTextRow] at hf
  obtain ⟨J38, eJ38, hf⟩ := b_let_inv hf
  have w38 : ∀ (y0 : Int32) (M : hM) (H : Heap) (locs : List Loc) (ls : Array Slot) (cells slots : Nat), (J38 y0).1 M = some Z → hm_I D dA hCl z k1 s M H locs cells slots → lv_has ls 2 [] → W p l e R s m args below meth c H locs cells slots Q (F0 m 38 ls [.int y0]) := by
    intro y0 M H locs ls cells slots hf hI hl
    rw [eJ38] at hf
    exact hret _ _ _ _ _ _ _ _ d_Row_sharesTextRow_38 hf hI
  obtain ⟨J72, eJ72, hf⟩ := b_let_inv hf
  have w72 : ∀ (y0 : Int32) (M : hM) (H : Heap) (locs : List Loc) (ls : Array Slot) (cells slots : Nat), (J72 y0).1 M = some Z → hm_I D dA hCl z k1 s M H locs cells slots → lv_has ls 2 [] → W p l e R s m args below meth c H locs cells slots Q (F0 m 72 ls [.int y0]) := by
    intro y0 M H locs ls cells slots hf hI hl
    rw [eJ72] at hf
    exact hret _ _ _ _ _ _ _ _ d_Row_sharesTextRow_72 hf hI
  obtain ⟨J67, eJ67, hf⟩ := b_let_inv hf
  have w67 : ∀  (M : hM) (H : Heap) (locs : List Loc) (ls : Array Slot) (cells slots : Nat), (J67).1 M = some Z → hm_I D dA hCl z k1 s M H locs cells slots → lv_has ls 2 [] → W p l e R s m args below meth c H locs cells slots Q (F0 m 67 ls []) := by
    intro M H locs ls cells slots hf hI hl
    rw [eJ67] at hf
    refine lv_iconst (v := 1) S.1 S.2.1 d_Row_sharesTextRow_67 (by decide) ?_
    refine lv_goto (tgt := 72) S.1 S.2.1 d_Row_sharesTextRow_68 (by decide) ?_
    exact w72 1 _ _ _ _ _ _ hf hI (lv_sub hl [] rfl)
  obtain ⟨J71, eJ71, hf⟩ := b_let_inv hf
  have w71 : ∀  (M : hM) (H : Heap) (locs : List Loc) (ls : Array Slot) (cells slots : Nat), (J71).1 M = some Z → hm_I D dA hCl z k1 s M H locs cells slots → lv_has ls 2 [] → W p l e R s m args below meth c H locs cells slots Q (F0 m 71 ls []) := by
    intro M H locs ls cells slots hf hI hl
    rw [eJ71] at hf
    refine lv_iconst (v := 0) S.1 S.2.1 d_Row_sharesTextRow_71 (by decide) ?_
    exact w72 0 _ _ _ _ _ _ hf hI (lv_sub hl [] rfl)
  refine lv_aload_n S.1 S.2.1 d_Row_sharesTextRow_0 rfl (lv_at hl 0 rfl) ?_
  refine x_getI (ci := 7) (k := 0) S hK hI (fun w h => List.mem_cons_of_mem _ (i_Row w h)) rfl (by decide) (List.mem_cons_of_mem _ wd_150) rfl d_Row_sharesTextRow_1 hf (fun v1 hf => ?_)
  refine x_aload_n (r := p0) S d_Row_sharesTextRow_4 rfl (lv_at hl 1 rfl) ?_
  obtain ⟨a2, ea2, hg⟩ := b_nn_inv hf
  have hI0 := hI
  have hl0 := hl
  clear hf hI hl
  subst ea2
  have hf := hg
  have hI := hI0
  have hl := hl0
  clear hg hI0 hl0
  refine x_getI (ci := 7) (k := 0) S hK hI (fun w h => List.mem_cons_of_mem _ (i_Row w h)) rfl (by decide) (List.mem_cons_of_mem _ wd_150) rfl d_Row_sharesTextRow_5 hf (fun v3 hf => ?_)
  refine lv_icmp_eq (tgt := 13) S.1 S.2.1 d_Row_sharesTextRow_8 (by decide) (fun hc => ?_) (fun hc => ?_)
  · have hf := b_if_t hc hf
    refine lv_aload_n S.1 S.2.1 d_Row_sharesTextRow_13 rfl (lv_at hl 0 rfl) ?_
    refine x_getI (ci := 7) (k := 0) S hK hI (fun w h => List.mem_cons_of_mem _ (i_Row w h)) rfl (by decide) (List.mem_cons_of_mem _ wd_150) rfl d_Row_sharesTextRow_14 hf (fun v4 hf => ?_)
    refine lv_bipush (v := 8) S.1 S.2.1 d_Row_sharesTextRow_17 (by decide) ?_
    refine lv_icmp_ne (tgt := 39) S.1 S.2.1 d_Row_sharesTextRow_19 (by decide) (fun hc => ?_) (fun hc => ?_)
    · have hf := b_if_f hc hf
      refine lv_aload_n S.1 S.2.1 d_Row_sharesTextRow_39 rfl (lv_at hl 0 rfl) ?_
      refine x_getI (ci := 7) (k := 0) S hK hI (fun w h => List.mem_cons_of_mem _ (i_Row w h)) rfl (by decide) (List.mem_cons_of_mem _ wd_150) rfl d_Row_sharesTextRow_40 hf (fun v5 hf => ?_)
      obtain ⟨v6, N7, hg8, hf⟩ := b_call_inv hf
      refine x_call hI (hm_mo hg8) (va_runS (As := [.int v5]) (rest := []) S (c_Kind_isList l hg8) (va_cwS 1 S.2.2.2.2 (gi_S wd_480 wd_203 wd_204 wd_205) rfl rfl rfl (by decide +kernel) ⟨Nat.le_trans (Nat.le_of_ble_eq_true rfl) hRf.1, Nat.le_trans (Nat.le_of_ble_eq_true rfl) hRf.2⟩) ⟨hm_B.blind, fun U hU hW => ⟨rfl, hm_B.of hK hG hI hU hW⟩⟩ rfl rfl hl.1 rfl (lv_room (Nat.le_of_ble_eq_true rfl)) d_Row_sharesTextRow_43 (hx_fit hI hR (hm_mo hg8) (hm_mo hf))) (fun H locs cells slots hI => ?_)
      refine W.eq (g2 := F0 m 46 ls [.int v6]) rfl ?_
      refine lv_if_ne (tgt := 67) S.1 S.2.1 d_Row_sharesTextRow_46 (by decide) (fun hc => ?_) (fun hc => ?_)
      · have hf := b_if_f hc hf
        exact w67  _ _ _ _ _ _ hf hI (lv_sub hl [] rfl)
      · have hf := b_if_t hc hf
        refine lv_aload_n S.1 S.2.1 d_Row_sharesTextRow_49 rfl (lv_at hl 0 rfl) ?_
        refine x_getR (ci := 7) (k := 3) S hK hI (fun w h => List.mem_cons_of_mem _ (i_Row w h)) rfl (by decide) (List.mem_cons_of_mem _ wd_153) rfl d_Row_sharesTextRow_50 hf (fun r9 hf => ?_)
        refine x_ifnull (r := r9) (tgt := 71) S d_Row_sharesTextRow_53 (by decide) (fun hc => ?_) (fun hc => ?_)
        · have hf := b_if_t hc hf
          exact w71  _ _ _ _ _ _ hf hI (lv_sub hl [] rfl)
        · have hf := b_if_f hc hf
          refine lv_aload_n S.1 S.2.1 d_Row_sharesTextRow_56 rfl (lv_at hl 1 rfl) ?_
          refine lv_aload_n S.1 S.2.1 d_Row_sharesTextRow_57 rfl (lv_at hl 0 rfl) ?_
          refine x_getR (ci := 7) (k := 3) S hK hI (fun w h => List.mem_cons_of_mem _ (i_Row w h)) rfl (by decide) (List.mem_cons_of_mem _ wd_153) rfl d_Row_sharesTextRow_58 hf (fun r10 hf => ?_)
          obtain ⟨⟨fs14, hefs14⟩, hf⟩ := b_is_inv hf
          obtain ⟨v11, N12, hg13, hf⟩ := b_call_inv hf
          refine x_call hI (hm_mo hg13) (va_runV (As := [va_rf r10]) (rest := []) S (c_Row_isOfFeature l hg13) (cwV 1 S.2.2.2.2 (gi_V wd_481 wd_469 wd_470 wd_157 wd_471) rfl rfl rfl (by decide +kernel) ⟨Nat.le_trans (Nat.le_of_ble_eq_true rfl) hRf.1, Nat.le_trans (Nat.le_of_ble_eq_true rfl) hRf.2⟩) ⟨hm_B.blind, va_recv hK (hI.1.one hefs14) (ci := 7) (q0 := 0) rfl rfl, fun U hU hW => ⟨rfl, hm_B.of hK hG hI hU hW⟩⟩ rfl rfl hl.1 rfl (lv_room (Nat.le_of_ble_eq_true rfl)) d_Row_sharesTextRow_61 (hx_fit hI hR (hm_mo hg13) (hm_mo hf))) (fun H locs cells slots hI => ?_)
          refine W.eq (g2 := F0 m 64 ls [.int v11]) rfl ?_
          refine lv_if_eq (tgt := 71) S.1 S.2.1 d_Row_sharesTextRow_64 (by decide) (fun hc => ?_) (fun hc => ?_)
          · have hf := b_if_t hc hf
            exact w71  _ _ _ _ _ _ hf hI (lv_sub hl [] rfl)
          · have hf := b_if_f hc hf
            exact w67  _ _ _ _ _ _ hf hI (lv_sub hl [] rfl)
    · have hf := b_if_t hc hf
      refine lv_aload_n S.1 S.2.1 d_Row_sharesTextRow_22 rfl (lv_at hl 0 rfl) ?_
      refine x_getI (ci := 7) (k := 1) S hK hI (fun w h => List.mem_cons_of_mem _ (i_Row w h)) rfl (by decide) (List.mem_cons_of_mem _ wd_151) rfl d_Row_sharesTextRow_23 hf (fun v15 hf => ?_)
      refine lv_aload_n S.1 S.2.1 d_Row_sharesTextRow_26 rfl (lv_at hl 1 rfl) ?_
      refine x_getI (ci := 7) (k := 1) S hK hI (fun w h => List.mem_cons_of_mem _ (i_Row w h)) rfl (by decide) (List.mem_cons_of_mem _ wd_151) rfl d_Row_sharesTextRow_27 hf (fun v16 hf => ?_)
      refine lv_icmp_ne (tgt := 37) S.1 S.2.1 d_Row_sharesTextRow_30 (by decide) (fun hc => ?_) (fun hc => ?_)
      · have hf := b_if_f hc hf
        refine lv_iconst (v := 0) S.1 S.2.1 d_Row_sharesTextRow_37 (by decide) ?_
        exact w38 0 _ _ _ _ _ _ hf hI (lv_sub hl [] rfl)
      · have hf := b_if_t hc hf
        refine lv_iconst (v := 1) S.1 S.2.1 d_Row_sharesTextRow_33 (by decide) ?_
        refine lv_goto (tgt := 38) S.1 S.2.1 d_Row_sharesTextRow_34 (by decide) ?_
        exact w38 1 _ _ _ _ _ _ hf hI (lv_sub hl [] rfl)
  · have hf := b_if_f hc hf
    refine lv_iconst (v := 0) S.1 S.2.1 d_Row_sharesTextRow_11 (by decide) ?_
    exact hret _ _ _ _ _ _ _ _ d_Row_sharesTextRow_12 hf hI
set_option maxHeartbeats 4000000 in
set_option maxRecDepth 100000 in
theorem c_Printer_printPack (l : Launch) {D : va_G} {dA : Nat → ClassId} {aK aV : Nat → Nat} {z : Nat} {N : Nat} {h0 : Nat} {p0 : Option Nat} {M : hM} {Z : Unit × hM} (hf : (f_Printer_printPack N h0 p0).1 M = some Z) : Met l y_Printer_printPack w_Printer_printPack ({ frames := 7, cells := Z.2.2.1 - M.2.1, slots := Z.2.2.2 - M.2.2, locals := 152 }) (va_Pc [.ref h0, va_rf p0] (hm_B D dA hCl (hTy dA) sT aK aV z M)) (hm_Q D dA hCl (hTy dA) sT aK aV z none Z.2) (Z.2.2.1 - M.2.1) (Z.2.2.2 - M.2.2) (fun q => z ≤ q) := by
  refine Met.ofW (cc := b_Printer_printPack) (maxL := 4) (ret := none) (by decide) rfl ?_
  intro p e s m args below meth c s₁ B hml hv
  obtain ⟨hav, hB⟩ := hv
  have S : CallFix p m c b_Printer_printPack 4 s args w_Printer_printPack R_Printer := ⟨B.exec, B.bytes, hml, findClass_of_methodNamed B.named, atoms_spec (ws := w_Printer_printPack) B.pre⟩
  have hr : meth.sig.returnType = none := B.returns
  have hlocks := B.notSynchronized
  have hK := hB.2.2.1
  have hG := hB.2.2.2.2.2
  have hI := hm_I.start hB
  rw [← hB.2.1]
  generalize M.2.2 = k1 at hI ⊢
  refine W.eq (g2 := F0 m 0 ((lg_sl ([.ref h0, va_rf p0]) ++ List.replicate (4 - (lg_sl ([.ref h0, va_rf p0])).length) Slot.unset).toArray) []) (by rw [hav]; exact lg_entry_eq m ([.ref h0, va_rf p0]) 4) ?_
  have hl := lv_entry ([.ref h0, va_rf p0]) (n := 4) (by cases p0 <;> exact Nat.le_of_ble_eq_true rfl)
  generalize (lg_sl ([.ref h0, va_rf p0]) ++ List.replicate (4 - (lg_sl ([.ref h0, va_rf p0])).length) Slot.unset).toArray = ls at hl ⊢
  simp only [lvA_nil, lvA_i, lvA_l, lvA_a, lvA_r, Nat.zero_add, Nat.reduceAdd] at hl
  have hret : ∀ (M : hM) (H : Heap) (locs : List Loc) (cells slots : Nat) (ls : Array Slot) (pc : Nat), decode b_Printer_printPack pc = .ok (.return_, 1) → (b_ret ()).1 M = some Z → hm_I D dA hCl z k1 s M H locs cells slots → W p l e (headSpec w_Printer_printPack { frames := 7, cells := Z.2.2.1 - s.heap.size, slots := Z.2.2.2 - k1, locals := 152 }).room s m args below meth c H locs cells slots (MQ below (hm_Q D dA hCl (hTy dA) sT aK aV z none Z.2) args s (Z.2.2.1 - s.heap.size) (Z.2.2.2 - k1) (fun q => z ≤ q)) (F0 m pc ls []) := fun M H locs cells slots ls pc hdg hf hI => x_retv S hK hG hI hr hlocks hdg hf
  have hR : Z.2.2.1 - s.heap.size ≤ (headSpec w_Printer_printPack { frames := 7, cells := Z.2.2.1 - s.heap.size, slots := Z.2.2.2 - k1, locals := 152 }).room.cells ∧ Z.2.2.2 - k1 ≤ (headSpec w_Printer_printPack { frames := 7, cells := Z.2.2.1 - s.heap.size, slots := Z.2.2.2 - k1, locals := 152 }).room.slots := ⟨Nat.le_refl _, Nat.le_refl _⟩
  have hRf : 7 ≤ (headSpec w_Printer_printPack { frames := 7, cells := Z.2.2.1 - s.heap.size, slots := Z.2.2.2 - k1, locals := 152 }).room.frames ∧ 152 ≤ (headSpec w_Printer_printPack { frames := 7, cells := Z.2.2.1 - s.heap.size, slots := Z.2.2.2 - k1, locals := 152 }).room.locals := ⟨Nat.le_refl _, Nat.le_refl _⟩
  generalize (headSpec w_Printer_printPack { frames := 7, cells := Z.2.2.1 - s.heap.size, slots := Z.2.2.2 - k1, locals := 152 }).room = R at hret hR hRf ⊢
  generalize (MQ below (hm_Q D dA hCl (hTy dA) sT aK aV z none Z.2) args s (Z.2.2.1 - s.heap.size) (Z.2.2.2 - k1) (fun q => z ≤ q)) = Q at hret ⊢
  rw [e_Printer_printPack] at hf
  have w35 : ∀ (n : Nat) (x2 : Int32) (M : hM) (H : Heap) (locs : List Loc) (ls : Array Slot) (cells slots : Nat), (f_Printer_printPack_35 N h0 p0  n x2).1 M = some Z → hm_I D dA hCl z k1 s M H locs cells slots → lv_has ls 4 [(0, .ref h0), (1, va_rf p0), (2, .int x2)] → W p l e R s m args below meth c H locs cells slots Q (F0 m 35 ls []) := by
    intro n
    induction n with
    | zero => intro x2 M H locs ls cells slots hf hI hl; cases hf
    | succ n35 ih35 =>
      intro x2 M H locs ls cells slots hf hI hl
      rw [e_Printer_printPack_35] at hf
      obtain ⟨J104, eJ104, hf⟩ := b_let_inv hf
      have w104 : ∀ (x2 : Int32) (x3 : Option Nat) (M : hM) (H : Heap) (locs : List Loc) (ls : Array Slot) (cells slots : Nat), (J104 x2 x3).1 M = some Z → hm_I D dA hCl z k1 s M H locs cells slots → lv_has ls 4 [(0, .ref h0), (1, va_rf p0), (2, .int x2), (3, va_rf x3)] → W p l e R s m args below meth c H locs cells slots Q (F0 m 104 ls []) := by
        intro x2 x3 M H locs ls cells slots hf hI hl
        rw [eJ104] at hf
        refine lv_aload_n S.1 S.2.1 d_Printer_printPack_104 rfl (lv_at hl 0 rfl) ?_
        refine x_aload_n (r := x3) S d_Printer_printPack_105 rfl (lv_at hl 3 rfl) ?_
        obtain ⟨a1, ea1, hg⟩ := b_nn_inv hf
        have hI0 := hI
        have hl0 := hl
        clear hf hI hl
        subst ea1
        have hf := hg
        have hI := hI0
        have hl := hl0
        clear hg hI0 hl0
        refine x_getR (ci := 7) (k := 2) S hK hI (fun w h => List.mem_cons_of_mem _ (i_Row w h)) rfl (by decide) (List.mem_cons_of_mem _ wd_417) rfl d_Printer_printPack_106 hf (fun r2 hf => ?_)
        obtain ⟨⟨fs6, hefs6⟩, hf⟩ := b_is_inv hf
        obtain ⟨r3, N4, hg5, hf⟩ := b_call_inv hf
        refine x_call hI (hm_mo hg5) (va_runV (As := [va_rf r2]) (rest := []) S (c_Printer_putName l hg5) (cwV 1 S.2.2.2.2 (gi_V wd_424 wd_425 wd_426 wd_31 wd_427) rfl rfl rfl (by decide +kernel) ⟨Nat.le_trans (Nat.le_of_ble_eq_true rfl) hRf.1, Nat.le_trans (Nat.le_of_ble_eq_true rfl) hRf.2⟩) ⟨hm_B.blind, va_recv hK (hI.1.one hefs6) (ci := 5) (q0 := 0) rfl rfl, fun U hU hW => ⟨rfl, hm_B.of hK hG hI hU hW⟩⟩ rfl rfl hl.1 rfl (lv_room (Nat.le_of_ble_eq_true rfl)) d_Printer_printPack_109 (hx_fit hI hR (hm_mo hg5) (hm_mo hf))) (fun H locs cells slots hI => ?_)
        refine W.eq (g2 := F0 m 112 ls []) rfl ?_
        refine lv_aload_n S.1 S.2.1 d_Printer_printPack_112 rfl (lv_at hl 0 rfl) ?_
        refine lv_aload_n S.1 S.2.1 d_Printer_printPack_113 rfl (lv_at hl 3 rfl) ?_
        obtain ⟨⟨fs10, hefs10⟩, hf⟩ := b_is_inv hf
        obtain ⟨r7, N8, hg9, hf⟩ := b_call_inv hf
        refine x_call hI (hm_mo hg9) (va_runV (As := [.ref a1]) (rest := []) S (c_Printer_putRest l hg9) (cwV 1 S.2.2.2.2 (gi_V wd_455 wd_456 wd_457 wd_31 wd_458) rfl rfl rfl (by decide +kernel) ⟨Nat.le_trans (Nat.le_of_ble_eq_true rfl) hRf.1, Nat.le_trans (Nat.le_of_ble_eq_true rfl) hRf.2⟩) ⟨hm_B.blind, va_recv hK (hI.1.one hefs10) (ci := 5) (q0 := 0) rfl rfl, fun U hU hW => ⟨rfl, hm_B.of hK hG hI hU hW⟩⟩ rfl rfl hl.1 rfl (lv_room (Nat.le_of_ble_eq_true rfl)) d_Printer_printPack_114 (hx_fit hI hR (hm_mo hg9) (hm_mo hf))) (fun H locs cells slots hI => ?_)
        refine W.eq (g2 := F0 m 117 ls []) rfl ?_
        refine x_iinc (v := 1) (lv2 := [(0, .ref h0), (1, va_rf p0), (3, .ref a1)]) S d_Printer_printPack_117 hl 2 rfl (by decide) (by decide) [0, 1, 3] rfl ⟨⟨(by decide : (0 : Nat) ≠ 2), fun h => absurd (show (0 : Nat) + 1 = 2 from h) (by decide)⟩, ⟨⟨(by decide : (1 : Nat) ≠ 2), fun _ => rf_cat _⟩, ⟨⟨(by decide : (3 : Nat) ≠ 2), fun h => absurd (show (3 : Nat) + 1 = 2 from h) (by decide)⟩, trivial⟩⟩⟩ (fun ls hl => ?_)
        refine lv_goto (tgt := 35) S.1 S.2.1 d_Printer_printPack_120 (by decide) ?_
        exact ih35 (x2 + 1) _ _ _ _ _ _ hf hI (lv_sub hl [1, 2, 0] rfl)
      obtain ⟨J87, eJ87, hf⟩ := b_let_inv hf
      have w87 : ∀ (x2 : Int32) (x3 : Option Nat) (y0 : Option Nat) (y1 : Option Nat) (M : hM) (H : Heap) (locs : List Loc) (ls : Array Slot) (cells slots : Nat), (J87 x2 x3 y0 y1).1 M = some Z → hm_I D dA hCl z k1 s M H locs cells slots → lv_has ls 4 [(0, .ref h0), (1, va_rf p0), (2, .int x2), (3, va_rf x3)] → W p l e R s m args below meth c H locs cells slots Q (F0 m 87 ls [va_rf (Option.map aK y0), va_rf y1]) := by
        intro x2 x3 y0 y1 M H locs ls cells slots hf hI hl
        rw [eJ87] at hf
        obtain ⟨a11, ea11, hg⟩ := b_nn_inv hf
        have hI0 := hI
        have hl0 := hl
        clear hf hI hl
        subst ea11
        have hf := hg
        have hI := hI0
        have hl := hl0
        clear hg hI0 hl0
        obtain ⟨⟨fs15, hefs15⟩, hf⟩ := b_is_inv hf
        obtain ⟨r12, N13, hg14, hf⟩ := b_call_inv hf
        refine x_call hI (hm_mo hg14) (va_runV (As := [va_rf (Option.map aK y0)]) (rest := []) S (c_Printer_putText l hg14) (cwV 1 S.2.2.2.2 (gi_V wd_447 wd_448 wd_449 wd_31 wd_450) rfl rfl rfl (by decide +kernel) ⟨Nat.le_trans (Nat.le_of_ble_eq_true rfl) hRf.1, Nat.le_trans (Nat.le_of_ble_eq_true rfl) hRf.2⟩) ⟨hm_B.blind, va_recv hK (hI.1.one hefs15) (ci := 5) (q0 := 0) rfl rfl, fun U hU hW => ⟨rfl, hm_B.of hK hG hI hU hW⟩⟩ rfl rfl hl.1 rfl (lv_room (Nat.le_of_ble_eq_true rfl)) d_Printer_printPack_87 (hx_fit hI hR (hm_mo hg14) (hm_mo hf))) (fun H locs cells slots hI => ?_)
        refine W.eq (g2 := F0 m 90 ls []) rfl ?_
        refine lv_goto (tgt := 104) S.1 S.2.1 d_Printer_printPack_90 (by decide) ?_
        exact w104 x2 x3 _ _ _ _ _ _ hf hI (lv_sub hl [0, 1, 2, 3] rfl)
      obtain ⟨J93, eJ93, hf⟩ := b_let_inv hf
      have w93 : ∀ (x2 : Int32) (x3 : Option Nat) (M : hM) (H : Heap) (locs : List Loc) (ls : Array Slot) (cells slots : Nat), (J93 x2 x3).1 M = some Z → hm_I D dA hCl z k1 s M H locs cells slots → lv_has ls 4 [(0, .ref h0), (1, va_rf p0), (2, .int x2), (3, va_rf x3)] → W p l e R s m args below meth c H locs cells slots Q (F0 m 93 ls []) := by
        intro x2 x3 M H locs ls cells slots hf hI hl
        rw [eJ93] at hf
        refine lv_aload_n S.1 S.2.1 d_Printer_printPack_93 rfl (lv_at hl 0 rfl) ?_
        refine va_ldcS S.1 S.2.1 S.2.2.2.1 (hG.1 21 _ rfl).1 d_Printer_printPack_94 ?_
        obtain ⟨⟨fs19, hefs19⟩, hf⟩ := b_is_inv hf
        obtain ⟨r16, N17, hg18, hf⟩ := b_call_inv hf
        refine x_call hI (hm_mo hg18) (va_runV (As := [.ref (aK 21)]) (rest := []) S (c_Printer_putText l hg18) (cwV 1 S.2.2.2.2 (gi_V wd_447 wd_448 wd_449 wd_31 wd_450) rfl rfl rfl (by decide +kernel) ⟨Nat.le_trans (Nat.le_of_ble_eq_true rfl) hRf.1, Nat.le_trans (Nat.le_of_ble_eq_true rfl) hRf.2⟩) ⟨hm_B.blind, va_recv hK (hI.1.one hefs19) (ci := 5) (q0 := 0) rfl rfl, fun U hU hW => ⟨rfl, hm_B.of hK hG hI hU hW⟩⟩ rfl rfl hl.1 rfl (lv_room (Nat.le_of_ble_eq_true rfl)) d_Printer_printPack_96 (hx_fit hI hR (hm_mo hg18) (hm_mo hf))) (fun H locs cells slots hI => ?_)
        refine W.eq (g2 := F0 m 99 ls []) rfl ?_
        refine lv_aload_n S.1 S.2.1 d_Printer_printPack_99 rfl (lv_at hl 0 rfl) ?_
        refine x_aload_n (r := x3) S d_Printer_printPack_100 rfl (lv_at hl 3 rfl) ?_
        obtain ⟨⟨fs23, hefs23⟩, hf⟩ := b_is_inv hf
        obtain ⟨r20, N21, hg22, hf⟩ := b_call_inv hf
        refine x_call hI (hm_mo hg22) (va_runV (As := [va_rf x3]) (rest := []) S (c_Printer_putBeginning l hg22) (cwV 1 S.2.2.2.2 (gi_V wd_462 wd_463 wd_464 wd_31 wd_465) rfl rfl rfl (by decide +kernel) ⟨Nat.le_trans (Nat.le_of_ble_eq_true rfl) hRf.1, Nat.le_trans (Nat.le_of_ble_eq_true rfl) hRf.2⟩) ⟨hm_B.blind, va_recv hK (hI.1.one hefs23) (ci := 5) (q0 := 0) rfl rfl, fun U hU hW => ⟨rfl, hm_B.of hK hG hI hU hW⟩⟩ rfl rfl hl.1 rfl (lv_room (Nat.le_of_ble_eq_true rfl)) d_Printer_printPack_101 (hx_fit hI hR (hm_mo hg22) (hm_mo hf))) (fun H locs cells slots hI => ?_)
        refine W.eq (g2 := F0 m 104 ls []) rfl ?_
        exact w104 x2 x3 _ _ _ _ _ _ hf hI (lv_sub hl [0, 1, 2, 3] rfl)
      refine lv_iload_n S.1 S.2.1 d_Printer_printPack_35 rfl (lv_at hl 2 rfl) ?_
      refine x_aload_n (r := p0) S d_Printer_printPack_36 rfl (lv_at hl 1 rfl) ?_
      obtain ⟨a24, ea24, hg⟩ := b_nn_inv hf
      have hI0 := hI
      have hl0 := hl
      clear hf hI hl
      subst ea24
      have hf := hg
      have hI := hI0
      have hl := hl0
      clear hg hI0 hl0
      refine x_getR (ci := 3) (k := 3) S hK hI (fun w h => List.mem_cons_of_mem _ (i_Pack w h)) rfl (by decide) (List.mem_cons_of_mem _ wd_466) rfl d_Printer_printPack_37 hf (fun r25 hf => ?_)
      obtain ⟨a26, ea26, hg⟩ := b_nn_inv hf
      have hI0 := hI
      have hl0 := hl
      clear hf hI hl
      subst ea26
      have hf := hg
      have hI := hI0
      have hl := hl0
      clear hg hI0 hl0
      refine x_len (t := 1) S hK hI rfl d_Printer_printPack_40 hf (fun v27 hf => ?_)
      refine lv_icmp_ge (tgt := 123) S.1 S.2.1 d_Printer_printPack_41 (by decide) (fun hc => ?_) (fun hc => ?_)
      · have hf := b_if_t hc hf
        refine lv_aload_n S.1 S.2.1 d_Printer_printPack_123 rfl (lv_at hl 0 rfl) ?_
        refine lv_aload_n S.1 S.2.1 d_Printer_printPack_124 rfl (lv_at hl 1 rfl) ?_
        obtain ⟨⟨fs31, hefs31⟩, hf⟩ := b_is_inv hf
        obtain ⟨r28, N29, hg30, hf⟩ := b_call_inv hf
        refine x_call hI (hm_mo hg30) (va_runV (As := [.ref a24]) (rest := []) S (c_Printer_putBareFeatures l hg30) (cwV 1 S.2.2.2.2 (gi_V wd_476 wd_477 wd_478 wd_31 wd_479) rfl rfl rfl (by decide +kernel) ⟨Nat.le_trans (Nat.le_of_ble_eq_true rfl) hRf.1, Nat.le_trans (Nat.le_of_ble_eq_true rfl) hRf.2⟩) ⟨hm_B.blind, va_recv hK (hI.1.one hefs31) (ci := 5) (q0 := 0) rfl rfl, fun U hU hW => ⟨rfl, hm_B.of hK hG hI hU hW⟩⟩ rfl rfl hl.1 rfl (lv_room (Nat.le_of_ble_eq_true rfl)) d_Printer_printPack_125 (hx_fit hI hR (hm_mo hg30) (hm_mo hf))) (fun H locs cells slots hI => ?_)
        refine W.eq (g2 := F0 m 128 ls []) rfl ?_
        refine lv_aload_n S.1 S.2.1 d_Printer_printPack_128 rfl (lv_at hl 0 rfl) ?_
        refine lv_bipush (v := 59) S.1 S.2.1 d_Printer_printPack_129 (by decide) ?_
        obtain ⟨⟨fs35, hefs35⟩, hf⟩ := b_is_inv hf
        obtain ⟨r32, N33, hg34, hf⟩ := b_call_inv hf
        refine x_call hI (hm_mo hg34) (va_runV (As := [.int 59]) (rest := []) S (c_Printer_put l hg34) (cwV 1 S.2.2.2.2 (gi_V wd_420 wd_421 wd_422 wd_31 wd_423) rfl rfl rfl (by decide +kernel) ⟨Nat.le_trans (Nat.le_of_ble_eq_true rfl) hRf.1, Nat.le_trans (Nat.le_of_ble_eq_true rfl) hRf.2⟩) ⟨hm_B.blind, va_recv hK (hI.1.one hefs35) (ci := 5) (q0 := 0) rfl rfl, fun U hU hW => ⟨rfl, hm_B.of hK hG hI hU hW⟩⟩ rfl rfl hl.1 rfl (lv_room (Nat.le_of_ble_eq_true rfl)) d_Printer_printPack_131 (hx_fit hI hR (hm_mo hg34) (hm_mo hf))) (fun H locs cells slots hI => ?_)
        refine W.eq (g2 := F0 m 134 ls []) rfl ?_
        exact hret _ _ _ _ _ _ _ d_Printer_printPack_134 hf hI
      · have hf := b_if_f hc hf
        refine lv_aload_n S.1 S.2.1 d_Printer_printPack_44 rfl (lv_at hl 1 rfl) ?_
        refine x_getR (ci := 3) (k := 3) S hK hI (fun w h => List.mem_cons_of_mem _ (i_Pack w h)) rfl (by decide) (List.mem_cons_of_mem _ wd_466) rfl d_Printer_printPack_45 hf (fun r36 hf => ?_)
        refine lv_iload_n S.1 S.2.1 d_Printer_printPack_48 rfl (lv_at hl 2 rfl) ?_
        obtain ⟨a37, ea37, hg⟩ := b_nn_inv hf
        have hI0 := hI
        have hl0 := hl
        clear hf hI hl
        subst ea37
        have hf := hg
        have hI := hI0
        have hl := hl0
        clear hg hI0 hl0
        refine x_aald (t := 1) S hK hI rfl d_Printer_printPack_49 hf (fun r38 hf => ?_)
        refine x_astore_n (r := r38) (lv2 := [(0, .ref h0), (1, .ref a24), (2, .int x2)]) S d_Printer_printPack_50 rfl hl (by decide) [0, 1, 2] rfl ⟨⟨(by decide : (0 : Nat) ≠ 3), fun h => absurd (show (0 : Nat) + 1 = 3 from h) (by decide)⟩, ⟨⟨(by decide : (1 : Nat) ≠ 3), fun h => absurd (show (1 : Nat) + 1 = 3 from h) (by decide)⟩, ⟨⟨(by decide : (2 : Nat) ≠ 3), fun _ => rfl⟩, trivial⟩⟩⟩ (fun ls hl => ?_)
        refine lv_iload_n S.1 S.2.1 d_Printer_printPack_51 rfl (lv_at hl 3 rfl) ?_
        refine lv_if_le (tgt := 93) S.1 S.2.1 d_Printer_printPack_52 (by decide) (fun hc => ?_) (fun hc => ?_)
        · have hf := b_if_t hc hf
          exact w93 x2 r38 _ _ _ _ _ _ hf hI (lv_sub hl [1, 2, 3, 0] rfl)
        · have hf := b_if_f hc hf
          refine lv_aload_n S.1 S.2.1 d_Printer_printPack_55 rfl (lv_at hl 2 rfl) ?_
          refine x_getR (ci := 3) (k := 3) S hK hI (fun w h => List.mem_cons_of_mem _ (i_Pack w h)) rfl (by decide) (List.mem_cons_of_mem _ wd_466) rfl d_Printer_printPack_56 hf (fun r39 hf => ?_)
          refine lv_iload_n S.1 S.2.1 d_Printer_printPack_59 rfl (lv_at hl 3 rfl) ?_
          refine lv_iconst (v := 1) S.1 S.2.1 d_Printer_printPack_60 (by decide) ?_
          refine lv_isub S.1 S.2.1 d_Printer_printPack_61 ?_
          obtain ⟨a40, ea40, hg⟩ := b_nn_inv hf
          have hI0 := hI
          have hl0 := hl
          clear hf hI hl
          subst ea40
          have hf := hg
          have hI := hI0
          have hl := hl0
          clear hg hI0 hl0
          refine x_aald (t := 1) S hK hI rfl d_Printer_printPack_62 hf (fun r41 hf => ?_)
          refine x_aload_n (r := r38) S d_Printer_printPack_63 rfl (lv_at hl 0 rfl) ?_
          obtain ⟨a42, ea42, hg⟩ := b_nn_inv hf
          have hI0 := hI
          have hl0 := hl
          clear hf hI hl
          subst ea42
          have hf := hg
          have hI := hI0
          have hl := hl0
          clear hg hI0 hl0
          obtain ⟨⟨fs46, hefs46⟩, hf⟩ := b_is_inv hf
          obtain ⟨v43, N44, hg45, hf⟩ := b_call_inv hf
          refine x_call hI (hm_mo hg45) (va_runV (As := [va_rf r38]) (rest := []) S (c_Row_sharesTextRow l hg45) (cwV 1 S.2.2.2.2 (gi_V wd_482 wd_483 wd_484 wd_157 wd_485) rfl rfl rfl (by decide +kernel) ⟨Nat.le_trans (Nat.le_of_ble_eq_true rfl) hRf.1, Nat.le_trans (Nat.le_of_ble_eq_true rfl) hRf.2⟩) ⟨hm_B.blind, va_recv hK (hI.1.one hefs46) (ci := 7) (q0 := 0) rfl rfl, fun U hU hW => ⟨rfl, hm_B.of hK hG hI hU hW⟩⟩ rfl rfl hl.1 rfl (lv_room (Nat.le_of_ble_eq_true rfl)) d_Printer_printPack_64 (hx_fit hI hR (hm_mo hg45) (hm_mo hf))) (fun H locs cells slots hI => ?_)
          refine W.eq (g2 := F0 m 67 ls [.int v43]) rfl ?_
          refine lv_if_eq (tgt := 93) S.1 S.2.1 d_Printer_printPack_67 (by decide) (fun hc => ?_) (fun hc => ?_)
          · have hf := b_if_t hc hf
            exact w93 x2 r38 _ _ _ _ _ _ hf hI (lv_sub hl [1, 2, 3, 0] rfl)
          · have hf := b_if_f hc hf
            refine lv_aload_n S.1 S.2.1 d_Printer_printPack_70 rfl (lv_at hl 1 rfl) ?_
            refine x_aload_n (r := r38) S d_Printer_printPack_71 rfl (lv_at hl 0 rfl) ?_
            obtain ⟨a47, ea47, hg⟩ := b_nn_inv hf
            have hI0 := hI
            have hl0 := hl
            clear hf hI hl
            subst ea47
            have hf := hg
            have hI := hI0
            have hl := hl0
            clear hg hI0 hl0
            refine x_getI (ci := 7) (k := 0) S hK hI (fun w h => List.mem_cons_of_mem _ (i_Row w h)) rfl (by decide) (List.mem_cons_of_mem _ wd_428) rfl d_Printer_printPack_72 hf (fun v48 hf => ?_)
            refine lv_bipush (v := 8) S.1 S.2.1 d_Printer_printPack_75 (by decide) ?_
            refine lv_icmp_ne (tgt := 85) S.1 S.2.1 d_Printer_printPack_77 (by decide) (fun hc => ?_) (fun hc => ?_)
            · have hf := b_if_f hc hf
              refine va_ldcS S.1 S.2.1 S.2.2.2.1 (hG.1 20 _ rfl).1 d_Printer_printPack_85 ?_
              exact w87 x2 (some a47) (some 20) (some h0) _ _ _ _ _ _ hf hI (lv_sub hl [1, 2, 3, 0] rfl)
            · have hf := b_if_t hc hf
              refine va_ldcS S.1 S.2.1 S.2.2.2.1 (hG.1 19 _ rfl).1 d_Printer_printPack_80 ?_
              refine lv_goto (tgt := 87) S.1 S.2.1 d_Printer_printPack_82 (by decide) ?_
              exact w87 x2 (some a47) (some 19) (some h0) _ _ _ _ _ _ hf hI (lv_sub hl [1, 2, 3, 0] rfl)
  refine lv_aload_n S.1 S.2.1 d_Printer_printPack_0 rfl (lv_at hl 0 rfl) ?_
  refine lv_iconst (v := 0) S.1 S.2.1 d_Printer_printPack_1 (by decide) ?_
  refine x_put (ci := 5) (k := 1) S hK hI (fun w h => List.mem_cons_of_mem _ (i_Printer w h)) t_Printer t_Printer_ok n_Printer rfl (by decide) (List.mem_cons_of_mem _ wd_419) rfl (Or.inl rfl) (by rfl) rfl d_Printer_printPack_2 hf (fun M H locs hf hI => ?_)
  refine lv_aload_n S.1 S.2.1 d_Printer_printPack_5 rfl (lv_at hl 0 rfl) ?_
  refine va_ldcS S.1 S.2.1 S.2.2.2.1 (hG.1 18 _ rfl).1 d_Printer_printPack_6 ?_
  obtain ⟨⟨fs52, hefs52⟩, hf⟩ := b_is_inv hf
  obtain ⟨r49, N50, hg51, hf⟩ := b_call_inv hf
  refine x_call hI (hm_mo hg51) (va_runV (As := [.ref (aK 18)]) (rest := []) S (c_Printer_putText l hg51) (cwV 1 S.2.2.2.2 (gi_V wd_447 wd_448 wd_449 wd_31 wd_450) rfl rfl rfl (by decide +kernel) ⟨Nat.le_trans (Nat.le_of_ble_eq_true rfl) hRf.1, Nat.le_trans (Nat.le_of_ble_eq_true rfl) hRf.2⟩) ⟨hm_B.blind, va_recv hK (hI.1.one hefs52) (ci := 5) (q0 := 0) rfl rfl, fun U hU hW => ⟨rfl, hm_B.of hK hG hI hU hW⟩⟩ rfl rfl hl.1 rfl (lv_room (Nat.le_of_ble_eq_true rfl)) d_Printer_printPack_8 (hx_fit hI hR (hm_mo hg51) (hm_mo hf))) (fun H locs cells slots hI => ?_)
  refine W.eq (g2 := F0 m 11 ls []) rfl ?_
  refine lv_aload_n S.1 S.2.1 d_Printer_printPack_11 rfl (lv_at hl 0 rfl) ?_
  refine x_aload_n (r := p0) S d_Printer_printPack_12 rfl (lv_at hl 1 rfl) ?_
  obtain ⟨a53, ea53, hg⟩ := b_nn_inv hf
  have hI0 := hI
  have hl0 := hl
  clear hf hI hl
  subst ea53
  have hf := hg
  have hI := hI0
  have hl := hl0
  clear hg hI0 hl0
  refine x_getR (ci := 3) (k := 0) S hK hI (fun w h => List.mem_cons_of_mem _ (i_Pack w h)) rfl (by decide) (List.mem_cons_of_mem _ wd_486) rfl d_Printer_printPack_13 hf (fun r54 hf => ?_)
  obtain ⟨⟨fs58, hefs58⟩, hf⟩ := b_is_inv hf
  obtain ⟨r55, N56, hg57, hf⟩ := b_call_inv hf
  refine x_call hI (hm_mo hg57) (va_runV (As := [va_rf r54]) (rest := []) S (c_Printer_putName l hg57) (cwV 1 S.2.2.2.2 (gi_V wd_424 wd_425 wd_426 wd_31 wd_427) rfl rfl rfl (by decide +kernel) ⟨Nat.le_trans (Nat.le_of_ble_eq_true rfl) hRf.1, Nat.le_trans (Nat.le_of_ble_eq_true rfl) hRf.2⟩) ⟨hm_B.blind, va_recv hK (hI.1.one hefs58) (ci := 5) (q0 := 0) rfl rfl, fun U hU hW => ⟨rfl, hm_B.of hK hG hI hU hW⟩⟩ rfl rfl hl.1 rfl (lv_room (Nat.le_of_ble_eq_true rfl)) d_Printer_printPack_16 (hx_fit hI hR (hm_mo hg57) (hm_mo hf))) (fun H locs cells slots hI => ?_)
  refine W.eq (g2 := F0 m 19 ls []) rfl ?_
  refine lv_aload_n S.1 S.2.1 d_Printer_printPack_19 rfl (lv_at hl 0 rfl) ?_
  refine lv_bipush (v := 32) S.1 S.2.1 d_Printer_printPack_20 (by decide) ?_
  obtain ⟨⟨fs62, hefs62⟩, hf⟩ := b_is_inv hf
  obtain ⟨r59, N60, hg61, hf⟩ := b_call_inv hf
  refine x_call hI (hm_mo hg61) (va_runV (As := [.int 32]) (rest := []) S (c_Printer_put l hg61) (cwV 1 S.2.2.2.2 (gi_V wd_420 wd_421 wd_422 wd_31 wd_423) rfl rfl rfl (by decide +kernel) ⟨Nat.le_trans (Nat.le_of_ble_eq_true rfl) hRf.1, Nat.le_trans (Nat.le_of_ble_eq_true rfl) hRf.2⟩) ⟨hm_B.blind, va_recv hK (hI.1.one hefs62) (ci := 5) (q0 := 0) rfl rfl, fun U hU hW => ⟨rfl, hm_B.of hK hG hI hU hW⟩⟩ rfl rfl hl.1 rfl (lv_room (Nat.le_of_ble_eq_true rfl)) d_Printer_printPack_22 (hx_fit hI hR (hm_mo hg61) (hm_mo hf))) (fun H locs cells slots hI => ?_)
  refine W.eq (g2 := F0 m 25 ls []) rfl ?_
  refine lv_aload_n S.1 S.2.1 d_Printer_printPack_25 rfl (lv_at hl 0 rfl) ?_
  refine lv_aload_n S.1 S.2.1 d_Printer_printPack_26 rfl (lv_at hl 1 rfl) ?_
  refine x_getL (ci := 3) (k := 1) S hK hI (fun w h => List.mem_cons_of_mem _ (i_Pack w h)) rfl (by decide) (List.mem_cons_of_mem _ wd_487) rfl d_Printer_printPack_27 hf (fun v63 hf => ?_)
  obtain ⟨⟨fs67, hefs67⟩, hf⟩ := b_is_inv hf
  obtain ⟨r64, N65, hg66, hf⟩ := b_call_inv hf
  refine x_call hI (hm_mo hg66) (va_runV (As := [.long v63]) (rest := []) S (c_Printer_putVersion l hg66) (cwV 1 S.2.2.2.2 (gi_V wd_439 wd_440 wd_441 wd_31 wd_442) rfl rfl rfl (by decide +kernel) ⟨Nat.le_trans (Nat.le_of_ble_eq_true rfl) hRf.1, Nat.le_trans (Nat.le_of_ble_eq_true rfl) hRf.2⟩) ⟨hm_B.blind, va_recv hK (hI.1.one hefs67) (ci := 5) (q0 := 0) rfl rfl, fun U hU hW => ⟨rfl, hm_B.of hK hG hI hU hW⟩⟩ rfl rfl hl.1 rfl (lv_room (Nat.le_of_ble_eq_true rfl)) d_Printer_printPack_30 (hx_fit hI hR (hm_mo hg66) (hm_mo hf))) (fun H locs cells slots hI => ?_)
  refine W.eq (g2 := F0 m 33 ls []) rfl ?_
  refine lv_iconst (v := 0) S.1 S.2.1 d_Printer_printPack_33 (by decide) ?_
  refine x_istore_n (lv2 := [(0, .ref h0), (1, .ref a53)]) S d_Printer_printPack_34 rfl hl (by decide) [0, 1] rfl ⟨⟨(by decide : (0 : Nat) ≠ 2), fun h => absurd (show (0 : Nat) + 1 = 2 from h) (by decide)⟩, ⟨⟨(by decide : (1 : Nat) ≠ 2), fun _ => rfl⟩, trivial⟩⟩ (fun ls hl => ?_)
  exact w35 N 0 _ _ _ _ _ _ hf hI (lv_sub hl [1, 2, 0] rfl)
set_option maxHeartbeats 4000000 in
set_option maxRecDepth 100000 in
theorem c_PR_print (l : Launch) {D : va_G} {dA : Nat → ClassId} {aK aV : Nat → Nat} {z : Nat} {N : Nat} {h0 : Nat} {p0 : Int32} {M : hM} {Z : Int32 × hM} (hf : (f_PR_print N h0 p0).1 M = some Z) : Met l y_PR_print w_PR_print ({ frames := 8, cells := Z.2.2.1 - M.2.1, slots := Z.2.2.2 - M.2.2, locals := 175 }) (va_Pc [.ref h0, .int p0] (hm_B D dA hCl (hTy dA) sT aK aV z M)) (hm_Q D dA hCl (hTy dA) sT aK aV z (some (.int Z.1)) Z.2) (Z.2.2.1 - M.2.1) (Z.2.2.2 - M.2.2) (fun q => z ≤ q) := by
  refine Met.ofW (cc := b_PR_print) (maxL := 3) (ret := (some .int)) (by decide) rfl ?_
  intro p e s m args below meth c s₁ B hml hv
  obtain ⟨hav, hB⟩ := hv
  have S : CallFix p m c b_PR_print 3 s args w_PR_print R_PR := ⟨B.exec, B.bytes, hml, findClass_of_methodNamed B.named, atoms_spec (ws := w_PR_print) B.pre⟩
  have hr : meth.sig.returnType = (some .int) := B.returns
  have hlocks := B.notSynchronized
  have hK := hB.2.2.1
  have hG := hB.2.2.2.2.2
  have hI := hm_I.start hB
  rw [← hB.2.1]
  generalize M.2.2 = k1 at hI ⊢
  refine W.eq (g2 := F0 m 0 ((lg_sl ([.ref h0, .int p0]) ++ List.replicate (3 - (lg_sl ([.ref h0, .int p0])).length) Slot.unset).toArray) []) (by rw [hav]; exact lg_entry_eq m ([.ref h0, .int p0]) 3) ?_
  have hl := lv_entry ([.ref h0, .int p0]) (n := 3) (Nat.le_of_ble_eq_true rfl)
  generalize (lg_sl ([.ref h0, .int p0]) ++ List.replicate (3 - (lg_sl ([.ref h0, .int p0])).length) Slot.unset).toArray = ls at hl ⊢
  simp only [lvA_nil, lvA_i, lvA_l, lvA_a, lvA_r, Nat.zero_add, Nat.reduceAdd] at hl
  have hret : ∀ (v : Int32) (M : hM) (H : Heap) (locs : List Loc) (cells slots : Nat) (ls : Array Slot) (pc : Nat), decode b_PR_print pc = .ok (.ireturn, 1) → (b_ret v).1 M = some Z → hm_I D dA hCl z k1 s M H locs cells slots → W p l e (headSpec w_PR_print { frames := 8, cells := Z.2.2.1 - s.heap.size, slots := Z.2.2.2 - k1, locals := 175 }).room s m args below meth c H locs cells slots (MQ below (hm_Q D dA hCl (hTy dA) sT aK aV z (some (.int Z.1)) Z.2) args s (Z.2.2.1 - s.heap.size) (Z.2.2.2 - k1) (fun q => z ≤ q)) (F0 m pc ls [.int v]) := fun v M H locs cells slots ls pc hdg hf hI => x_reti S hK hG hI hr hlocks hdg hf
  have hR : Z.2.2.1 - s.heap.size ≤ (headSpec w_PR_print { frames := 8, cells := Z.2.2.1 - s.heap.size, slots := Z.2.2.2 - k1, locals := 175 }).room.cells ∧ Z.2.2.2 - k1 ≤ (headSpec w_PR_print { frames := 8, cells := Z.2.2.1 - s.heap.size, slots := Z.2.2.2 - k1, locals := 175 }).room.slots := ⟨Nat.le_refl _, Nat.le_refl _⟩
  have hRf : 8 ≤ (headSpec w_PR_print { frames := 8, cells := Z.2.2.1 - s.heap.size, slots := Z.2.2.2 - k1, locals := 175 }).room.frames ∧ 175 ≤ (headSpec w_PR_print { frames := 8, cells := Z.2.2.1 - s.heap.size, slots := Z.2.2.2 - k1, locals := 175 }).room.locals := ⟨Nat.le_refl _, Nat.le_refl _⟩
  generalize (headSpec w_PR_print { frames := 8, cells := Z.2.2.1 - s.heap.size, slots := Z.2.2.2 - k1, locals := 175 }).room = R at hret hR hRf ⊢
  generalize (MQ below (hm_Q D dA hCl (hTy dA) sT aK aV z (some (.int Z.1)) Z.2) args s (Z.2.2.1 - s.heap.size) (Z.2.2.2 - k1) (fun q => z ≤ q)) = Q at hret ⊢
  rw [e_PR_print] at hf
  refine lv_aload_n S.1 S.2.1 d_PR_print_0 rfl (lv_at hl 0 rfl) ?_
  refine lv_iload_n S.1 S.2.1 d_PR_print_1 rfl (lv_at hl 1 rfl) ?_
  obtain ⟨⟨fs4, hefs4⟩, hf⟩ := b_is_inv hf
  obtain ⟨r1, N2, hg3, hf⟩ := b_call_inv hf
  refine x_call hI (hm_mo hg3) (va_runV (As := [.int p0]) (rest := []) S (c_PR_packOf l hg3) (cwV 1 S.2.2.2.2 (gi_V wd_359 wd_360 wd_361 wd_362 wd_363) rfl rfl rfl (by decide +kernel) ⟨Nat.le_trans (Nat.le_of_ble_eq_true rfl) hRf.1, Nat.le_trans (Nat.le_of_ble_eq_true rfl) hRf.2⟩) ⟨hm_B.blind, va_recv hK (hI.1.one hefs4) (ci := 0) (q0 := 0) rfl rfl, fun U hU hW => ⟨rfl, hm_B.of hK hG hI hU hW⟩⟩ rfl rfl hl.1 rfl (lv_room (Nat.le_of_ble_eq_true rfl)) d_PR_print_2 (hx_fit hI hR (hm_mo hg3) (hm_mo hf))) (fun H locs cells slots hI => ?_)
  refine W.eq (g2 := F0 m 5 ls [va_rf r1]) rfl ?_
  refine x_astore_n (r := r1) (lv2 := [(0, .ref h0), (1, .int p0)]) S d_PR_print_5 rfl hl (by decide) [0, 1] rfl ⟨⟨(by decide : (0 : Nat) ≠ 2), fun h => absurd (show (0 : Nat) + 1 = 2 from h) (by decide)⟩, ⟨⟨(by decide : (1 : Nat) ≠ 2), fun _ => rfl⟩, trivial⟩⟩ (fun ls hl => ?_)
  refine x_aload_n (r := r1) S d_PR_print_6 rfl (lv_at hl 0 rfl) ?_
  refine x_ifnonnull (r := r1) (tgt := 12) S d_PR_print_7 (by decide) (fun hc => ?_) (fun hc => ?_)
  · have hf := b_if_f hc hf
    refine lv_aload_n S.1 S.2.1 d_PR_print_12 rfl (lv_at hl 1 rfl) ?_
    refine x_getR (ci := 0) (k := 4) S hK hI (fun w h => List.mem_cons_of_mem _ (i_PR w h)) rfl (by decide) (List.mem_cons_of_mem _ wd_36) rfl d_PR_print_13 hf (fun r5 hf => ?_)
    refine x_aload_n (r := r1) S d_PR_print_16 rfl (lv_at hl 0 rfl) ?_
    obtain ⟨a6, ea6, hg⟩ := b_nn_inv hf
    have hI0 := hI
    have hl0 := hl
    clear hf hI hl
    subst ea6
    have hf := hg
    have hI := hI0
    have hl := hl0
    clear hg hI0 hl0
    obtain ⟨⟨fs10, hefs10⟩, hf⟩ := b_is_inv hf
    obtain ⟨r7, N8, hg9, hf⟩ := b_call_inv hf
    refine x_call hI (hm_mo hg9) (va_runV (As := [va_rf r1]) (rest := []) S (c_Printer_printPack l hg9) (cwV 1 S.2.2.2.2 (gi_V wd_488 wd_489 wd_490 wd_31 wd_491) rfl rfl rfl (by decide +kernel) ⟨Nat.le_trans (Nat.le_of_ble_eq_true rfl) hRf.1, Nat.le_trans (Nat.le_of_ble_eq_true rfl) hRf.2⟩) ⟨hm_B.blind, va_recv hK (hI.1.one hefs10) (ci := 5) (q0 := 0) rfl rfl, fun U hU hW => ⟨rfl, hm_B.of hK hG hI hU hW⟩⟩ rfl rfl hl.1 rfl (lv_room (Nat.le_of_ble_eq_true rfl)) d_PR_print_17 (hx_fit hI hR (hm_mo hg9) (hm_mo hf))) (fun H locs cells slots hI => ?_)
    refine W.eq (g2 := F0 m 20 ls []) rfl ?_
    refine lv_aload_n S.1 S.2.1 d_PR_print_20 rfl (lv_at hl 1 rfl) ?_
    refine x_getR (ci := 0) (k := 4) S hK hI (fun w h => List.mem_cons_of_mem _ (i_PR w h)) rfl (by decide) (List.mem_cons_of_mem _ wd_36) rfl d_PR_print_21 hf (fun r11 hf => ?_)
    obtain ⟨a12, ea12, hg⟩ := b_nn_inv hf
    have hI0 := hI
    have hl0 := hl
    clear hf hI hl
    subst ea12
    have hf := hg
    have hI := hI0
    have hl := hl0
    clear hg hI0 hl0
    refine x_getI (ci := 5) (k := 1) S hK hI (fun w h => List.mem_cons_of_mem _ (i_Printer w h)) rfl (by decide) (List.mem_cons_of_mem _ wd_492) rfl d_PR_print_24 hf (fun v13 hf => ?_)
    exact hret _ _ _ _ _ _ _ _ d_PR_print_27 hf hI
  · have hf := b_if_t hc hf
    refine lv_iconst (v := (-1)) S.1 S.2.1 d_PR_print_10 (by decide) ?_
    exact hret _ _ _ _ _ _ _ _ d_PR_print_11 hf hI
set_option maxHeartbeats 4000000 in
set_option maxRecDepth 100000 in
theorem c_Printer_printFolded (l : Launch) {D : va_G} {dA : Nat → ClassId} {aK aV : Nat → Nat} {z : Nat} {N : Nat} {h0 : Nat} {p0 : Option Nat} {M : hM} {Z : Unit × hM} (hf : (f_Printer_printFolded N h0 p0).1 M = some Z) : Met l y_Printer_printFolded w_Printer_printFolded ({ frames := 1, cells := Z.2.2.1 - M.2.1, slots := Z.2.2.2 - M.2.2, locals := 21 }) (va_Pc [.ref h0, va_rf p0] (hm_B D dA hCl (hTy dA) sT aK aV z M)) (hm_Q D dA hCl (hTy dA) sT aK aV z none Z.2) (Z.2.2.1 - M.2.1) (Z.2.2.2 - M.2.2) (fun q => z ≤ q) := by
  refine Met.ofW (cc := b_Printer_printFolded) (maxL := 3) (ret := none) (by decide) rfl ?_
  intro p e s m args below meth c s₁ B hml hv
  obtain ⟨hav, hB⟩ := hv
  have S : CallFix p m c b_Printer_printFolded 3 s args w_Printer_printFolded R_Printer := ⟨B.exec, B.bytes, hml, findClass_of_methodNamed B.named, atoms_spec (ws := w_Printer_printFolded) B.pre⟩
  have hr : meth.sig.returnType = none := B.returns
  have hlocks := B.notSynchronized
  have hK := hB.2.2.1
  have hG := hB.2.2.2.2.2
  have hI := hm_I.start hB
  rw [← hB.2.1]
  generalize M.2.2 = k1 at hI ⊢
  refine W.eq (g2 := F0 m 0 ((lg_sl ([.ref h0, va_rf p0]) ++ List.replicate (3 - (lg_sl ([.ref h0, va_rf p0])).length) Slot.unset).toArray) []) (by rw [hav]; exact lg_entry_eq m ([.ref h0, va_rf p0]) 3) ?_
  have hl := lv_entry ([.ref h0, va_rf p0]) (n := 3) (by cases p0 <;> exact Nat.le_of_ble_eq_true rfl)
  generalize (lg_sl ([.ref h0, va_rf p0]) ++ List.replicate (3 - (lg_sl ([.ref h0, va_rf p0])).length) Slot.unset).toArray = ls at hl ⊢
  simp only [lvA_nil, lvA_i, lvA_l, lvA_a, lvA_r, Nat.zero_add, Nat.reduceAdd] at hl
  have hret : ∀ (M : hM) (H : Heap) (locs : List Loc) (cells slots : Nat) (ls : Array Slot) (pc : Nat), decode b_Printer_printFolded pc = .ok (.return_, 1) → (b_ret ()).1 M = some Z → hm_I D dA hCl z k1 s M H locs cells slots → W p l e (headSpec w_Printer_printFolded { frames := 1, cells := Z.2.2.1 - s.heap.size, slots := Z.2.2.2 - k1, locals := 21 }).room s m args below meth c H locs cells slots (MQ below (hm_Q D dA hCl (hTy dA) sT aK aV z none Z.2) args s (Z.2.2.1 - s.heap.size) (Z.2.2.2 - k1) (fun q => z ≤ q)) (F0 m pc ls []) := fun M H locs cells slots ls pc hdg hf hI => x_retv S hK hG hI hr hlocks hdg hf
  have hR : Z.2.2.1 - s.heap.size ≤ (headSpec w_Printer_printFolded { frames := 1, cells := Z.2.2.1 - s.heap.size, slots := Z.2.2.2 - k1, locals := 21 }).room.cells ∧ Z.2.2.2 - k1 ≤ (headSpec w_Printer_printFolded { frames := 1, cells := Z.2.2.1 - s.heap.size, slots := Z.2.2.2 - k1, locals := 21 }).room.slots := ⟨Nat.le_refl _, Nat.le_refl _⟩
  have hRf : 1 ≤ (headSpec w_Printer_printFolded { frames := 1, cells := Z.2.2.1 - s.heap.size, slots := Z.2.2.2 - k1, locals := 21 }).room.frames ∧ 21 ≤ (headSpec w_Printer_printFolded { frames := 1, cells := Z.2.2.1 - s.heap.size, slots := Z.2.2.2 - k1, locals := 21 }).room.locals := ⟨Nat.le_refl _, Nat.le_refl _⟩
  generalize (headSpec w_Printer_printFolded { frames := 1, cells := Z.2.2.1 - s.heap.size, slots := Z.2.2.2 - k1, locals := 21 }).room = R at hret hR hRf ⊢
  generalize (MQ below (hm_Q D dA hCl (hTy dA) sT aK aV z none Z.2) args s (Z.2.2.1 - s.heap.size) (Z.2.2.2 - k1) (fun q => z ≤ q)) = Q at hret ⊢
  rw [e_Printer_printFolded] at hf
  have w7 : ∀ (n : Nat) (x2 : Int32) (M : hM) (H : Heap) (locs : List Loc) (ls : Array Slot) (cells slots : Nat), (f_Printer_printFolded_7 N h0 p0  n x2).1 M = some Z → hm_I D dA hCl z k1 s M H locs cells slots → lv_has ls 3 [(0, .ref h0), (1, va_rf p0), (2, .int x2)] → W p l e R s m args below meth c H locs cells slots Q (F0 m 7 ls []) := by
    intro n
    induction n with
    | zero => intro x2 M H locs ls cells slots hf hI hl; cases hf
    | succ n7 ih7 =>
      intro x2 M H locs ls cells slots hf hI hl
      rw [e_Printer_printFolded_7] at hf
      refine lv_iload_n S.1 S.2.1 d_Printer_printFolded_7 rfl (lv_at hl 2 rfl) ?_
      refine x_aload_n (r := p0) S d_Printer_printFolded_8 rfl (lv_at hl 1 rfl) ?_
      obtain ⟨a1, ea1, hg⟩ := b_nn_inv hf
      have hI0 := hI
      have hl0 := hl
      clear hf hI hl
      subst ea1
      have hf := hg
      have hI := hI0
      have hl := hl0
      clear hg hI0 hl0
      refine x_getI (ci := 2) (k := 2) S hK hI (fun w h => List.mem_cons_of_mem _ (i_Name w h)) rfl (by decide) (List.mem_cons_of_mem _ wd_494) rfl d_Printer_printFolded_9 hf (fun v2 hf => ?_)
      refine lv_icmp_ge (tgt := 31) S.1 S.2.1 d_Printer_printFolded_12 (by decide) (fun hc => ?_) (fun hc => ?_)
      · have hf := b_if_t hc hf
        exact hret _ _ _ _ _ _ _ d_Printer_printFolded_31 hf hI
      · have hf := b_if_f hc hf
        refine lv_aload_n S.1 S.2.1 d_Printer_printFolded_15 rfl (lv_at hl 0 rfl) ?_
        refine lv_aload_n S.1 S.2.1 d_Printer_printFolded_16 rfl (lv_at hl 1 rfl) ?_
        refine x_getR (ci := 2) (k := 1) S hK hI (fun w h => List.mem_cons_of_mem _ (i_Name w h)) rfl (by decide) (List.mem_cons_of_mem _ wd_495) rfl d_Printer_printFolded_17 hf (fun r3 hf => ?_)
        refine lv_iload_n S.1 S.2.1 d_Printer_printFolded_20 rfl (lv_at hl 2 rfl) ?_
        obtain ⟨a4, ea4, hg⟩ := b_nn_inv hf
        have hI0 := hI
        have hl0 := hl
        clear hf hI hl
        subst ea4
        have hf := hg
        have hI := hI0
        have hl := hl0
        clear hg hI0 hl0
        refine x_cald (t := 0) S hK hI rfl d_Printer_printFolded_21 hf (fun v5 hf => ?_)
        obtain ⟨⟨fs9, hefs9⟩, hf⟩ := b_is_inv hf
        obtain ⟨r6, N7, hg8, hf⟩ := b_call_inv hf
        refine x_call hI (hm_mo hg8) (va_runV (As := [.int v5]) (rest := []) S (c_Printer_put l hg8) (cwV 1 S.2.2.2.2 (gi_V wd_420 wd_421 wd_422 wd_31 wd_423) rfl rfl rfl (by decide +kernel) ⟨Nat.le_trans (Nat.le_of_ble_eq_true rfl) hRf.1, Nat.le_trans (Nat.le_of_ble_eq_true rfl) hRf.2⟩) ⟨hm_B.blind, va_recv hK (hI.1.one hefs9) (ci := 5) (q0 := 0) rfl rfl, fun U hU hW => ⟨rfl, hm_B.of hK hG hI hU hW⟩⟩ rfl rfl hl.1 rfl (lv_room (Nat.le_of_ble_eq_true rfl)) d_Printer_printFolded_22 (hx_fit hI hR (hm_mo hg8) (hm_mo hf))) (fun H locs cells slots hI => ?_)
        refine W.eq (g2 := F0 m 25 ls []) rfl ?_
        refine x_iinc (v := 1) (lv2 := [(0, .ref h0), (1, .ref a1)]) S d_Printer_printFolded_25 hl 2 rfl (by decide) (by decide) [0, 1] rfl ⟨⟨(by decide : (0 : Nat) ≠ 2), fun h => absurd (show (0 : Nat) + 1 = 2 from h) (by decide)⟩, ⟨⟨(by decide : (1 : Nat) ≠ 2), fun _ => rfl⟩, trivial⟩⟩ (fun ls hl => ?_)
        refine lv_goto (tgt := 7) S.1 S.2.1 d_Printer_printFolded_28 (by decide) ?_
        exact ih7 (x2 + 1) _ _ _ _ _ _ hf hI (lv_sub hl [1, 2, 0] rfl)
  refine lv_aload_n S.1 S.2.1 d_Printer_printFolded_0 rfl (lv_at hl 0 rfl) ?_
  refine lv_iconst (v := 0) S.1 S.2.1 d_Printer_printFolded_1 (by decide) ?_
  refine x_put (ci := 5) (k := 1) S hK hI (fun w h => List.mem_cons_of_mem _ (i_Printer w h)) t_Printer t_Printer_ok n_Printer rfl (by decide) (List.mem_cons_of_mem _ wd_419) rfl (Or.inl rfl) (by rfl) rfl d_Printer_printFolded_2 hf (fun M H locs hf hI => ?_)
  refine lv_iconst (v := 0) S.1 S.2.1 d_Printer_printFolded_5 (by decide) ?_
  refine x_istore_n (lv2 := [(0, .ref h0), (1, va_rf p0)]) S d_Printer_printFolded_6 rfl hl (by decide) [0, 1] rfl ⟨⟨(by decide : (0 : Nat) ≠ 2), fun h => absurd (show (0 : Nat) + 1 = 2 from h) (by decide)⟩, ⟨⟨(by decide : (1 : Nat) ≠ 2), fun _ => rf_cat _⟩, trivial⟩⟩ (fun ls hl => ?_)
  exact w7 N 0 _ _ _ _ _ _ hf hI (lv_sub hl [1, 2, 0] rfl)
set_option maxHeartbeats 4000000 in
set_option maxRecDepth 100000 in
theorem c_Scan_takeEnd (l : Launch) {D : va_G} {dA : Nat → ClassId} {aK aV : Nat → Nat} {z : Nat} {N : Nat} {h0 : Nat} {M : hM} {Z : Int32 × hM} (hf : (f_Scan_takeEnd N h0 ).1 M = some Z) : Met l y_Scan_takeEnd w_Scan_takeEnd ({ frames := 2, cells := Z.2.2.1 - M.2.1, slots := Z.2.2.2 - M.2.2, locals := 40 }) (va_Pc [.ref h0] (hm_B D dA hCl (hTy dA) sT aK aV z M)) (hm_Q D dA hCl (hTy dA) sT aK aV z (some (.int Z.1)) Z.2) (Z.2.2.1 - M.2.1) (Z.2.2.2 - M.2.2) (fun q => z ≤ q) := by
  refine Met.ofW (cc := b_Scan_takeEnd) (maxL := 1) (ret := (some .boolean)) (by decide) rfl ?_
  intro p e s m args below meth c s₁ B hml hv
  obtain ⟨hav, hB⟩ := hv
  have S : CallFix p m c b_Scan_takeEnd 1 s args w_Scan_takeEnd R_Scan := ⟨B.exec, B.bytes, hml, findClass_of_methodNamed B.named, atoms_spec (ws := w_Scan_takeEnd) B.pre⟩
  have hr : meth.sig.returnType = (some .boolean) := B.returns
  have hlocks := B.notSynchronized
  have hK := hB.2.2.1
  have hG := hB.2.2.2.2.2
  have hI := hm_I.start hB
  rw [← hB.2.1]
  generalize M.2.2 = k1 at hI ⊢
  refine W.eq (g2 := F0 m 0 ((lg_sl ([.ref h0]) ++ List.replicate (1 - (lg_sl ([.ref h0])).length) Slot.unset).toArray) []) (by rw [hav]; exact lg_entry_eq m ([.ref h0]) 1) ?_
  have hl := lv_entry ([.ref h0]) (n := 1) (Nat.le_of_ble_eq_true rfl)
  generalize (lg_sl ([.ref h0]) ++ List.replicate (1 - (lg_sl ([.ref h0])).length) Slot.unset).toArray = ls at hl ⊢
  simp only [lvA_nil, lvA_i, lvA_l, lvA_a, lvA_r, Nat.zero_add, Nat.reduceAdd] at hl
  have hret : ∀ (v : Int32) (M : hM) (H : Heap) (locs : List Loc) (cells slots : Nat) (ls : Array Slot) (pc : Nat), decode b_Scan_takeEnd pc = .ok (.ireturn, 1) → (b_retN .boolean v).1 M = some Z → hm_I D dA hCl z k1 s M H locs cells slots → W p l e (headSpec w_Scan_takeEnd { frames := 2, cells := Z.2.2.1 - s.heap.size, slots := Z.2.2.2 - k1, locals := 40 }).room s m args below meth c H locs cells slots (MQ below (hm_Q D dA hCl (hTy dA) sT aK aV z (some (.int Z.1)) Z.2) args s (Z.2.2.1 - s.heap.size) (Z.2.2.2 - k1) (fun q => z ≤ q)) (F0 m pc ls [.int v]) := fun v M H locs cells slots ls pc hdg hf hI => x_retn S hK hG hI hr hlocks hdg hf
  have hR : Z.2.2.1 - s.heap.size ≤ (headSpec w_Scan_takeEnd { frames := 2, cells := Z.2.2.1 - s.heap.size, slots := Z.2.2.2 - k1, locals := 40 }).room.cells ∧ Z.2.2.2 - k1 ≤ (headSpec w_Scan_takeEnd { frames := 2, cells := Z.2.2.1 - s.heap.size, slots := Z.2.2.2 - k1, locals := 40 }).room.slots := ⟨Nat.le_refl _, Nat.le_refl _⟩
  have hRf : 2 ≤ (headSpec w_Scan_takeEnd { frames := 2, cells := Z.2.2.1 - s.heap.size, slots := Z.2.2.2 - k1, locals := 40 }).room.frames ∧ 40 ≤ (headSpec w_Scan_takeEnd { frames := 2, cells := Z.2.2.1 - s.heap.size, slots := Z.2.2.2 - k1, locals := 40 }).room.locals := ⟨Nat.le_refl _, Nat.le_refl _⟩
  generalize (headSpec w_Scan_takeEnd { frames := 2, cells := Z.2.2.1 - s.heap.size, slots := Z.2.2.2 - k1, locals := 40 }).room = R at hret hR hRf ⊢
  generalize (MQ below (hm_Q D dA hCl (hTy dA) sT aK aV z (some (.int Z.1)) Z.2) args s (Z.2.2.1 - s.heap.size) (Z.2.2.2 - k1) (fun q => z ≤ q)) = Q at hret ⊢
  rw [e_Scan_takeEnd] at hf
  obtain ⟨J23, eJ23, hf⟩ := b_let_inv hf
  have w23 : ∀ (y0 : Int32) (M : hM) (H : Heap) (locs : List Loc) (ls : Array Slot) (cells slots : Nat), (J23 y0).1 M = some Z → hm_I D dA hCl z k1 s M H locs cells slots → lv_has ls 1 [] → W p l e R s m args below meth c H locs cells slots Q (F0 m 23 ls [.int y0]) := by
    intro y0 M H locs ls cells slots hf hI hl
    rw [eJ23] at hf
    exact hret _ _ _ _ _ _ _ _ d_Scan_takeEnd_23 hf hI
  obtain ⟨J18, eJ18, hf⟩ := b_let_inv hf
  have w18 : ∀  (M : hM) (H : Heap) (locs : List Loc) (ls : Array Slot) (cells slots : Nat), (J18).1 M = some Z → hm_I D dA hCl z k1 s M H locs cells slots → lv_has ls 1 [] → W p l e R s m args below meth c H locs cells slots Q (F0 m 18 ls []) := by
    intro M H locs ls cells slots hf hI hl
    rw [eJ18] at hf
    refine lv_iconst (v := 1) S.1 S.2.1 d_Scan_takeEnd_18 (by decide) ?_
    refine lv_goto (tgt := 23) S.1 S.2.1 d_Scan_takeEnd_19 (by decide) ?_
    exact w23 1 _ _ _ _ _ _ hf hI (lv_sub hl [] rfl)
  refine lv_aload_n S.1 S.2.1 d_Scan_takeEnd_0 rfl (lv_at hl 0 rfl) ?_
  obtain ⟨⟨fs4, hefs4⟩, hf⟩ := b_is_inv hf
  obtain ⟨v1, N2, hg3, hf⟩ := b_call_inv hf
  refine x_call hI (hm_mo hg3) (va_runV (As := []) (rest := []) S (c_Scan_atEnd l hg3) (cwV 0 S.2.2.2.2 (gi_V wd_501 wd_94 wd_95 wd_9 wd_96) rfl rfl rfl (by decide +kernel) ⟨Nat.le_trans (Nat.le_of_ble_eq_true rfl) hRf.1, Nat.le_trans (Nat.le_of_ble_eq_true rfl) hRf.2⟩) ⟨hm_B.blind, va_recv hK (hI.1.one hefs4) (ci := 8) (q0 := 0) rfl rfl, fun U hU hW => ⟨rfl, hm_B.of hK hG hI hU hW⟩⟩ rfl rfl hl.1 rfl (lv_room (Nat.le_of_ble_eq_true rfl)) d_Scan_takeEnd_1 (hx_fit hI hR (hm_mo hg3) (hm_mo hf))) (fun H locs cells slots hI => ?_)
  refine W.eq (g2 := F0 m 4 ls [.int v1]) rfl ?_
  refine lv_if_ne (tgt := 18) S.1 S.2.1 d_Scan_takeEnd_4 (by decide) (fun hc => ?_) (fun hc => ?_)
  · have hf := b_if_f hc hf
    exact w18  _ _ _ _ _ _ hf hI (lv_sub hl [] rfl)
  · have hf := b_if_t hc hf
    refine lv_aload_n S.1 S.2.1 d_Scan_takeEnd_7 rfl (lv_at hl 0 rfl) ?_
    refine lv_aload_n S.1 S.2.1 d_Scan_takeEnd_8 rfl (lv_at hl 0 rfl) ?_
    refine x_getI (ci := 8) (k := 2) S hK hI (fun w h => List.mem_cons_of_mem _ (i_Scan w h)) rfl (by decide) (List.mem_cons_of_mem _ wd_54) rfl d_Scan_takeEnd_9 hf (fun v5 hf => ?_)
    obtain ⟨⟨fs9, hefs9⟩, hf⟩ := b_is_inv hf
    obtain ⟨v6, N7, hg8, hf⟩ := b_call_inv hf
    refine x_call hI (hm_mo hg8) (va_runV (As := [.int v5]) (rest := []) S (c_Scan_refuse l hg8) (cwV 1 S.2.2.2.2 (gi_V wd_98 wd_82 wd_83 wd_9 wd_84) rfl rfl rfl (by decide +kernel) ⟨Nat.le_trans (Nat.le_of_ble_eq_true rfl) hRf.1, Nat.le_trans (Nat.le_of_ble_eq_true rfl) hRf.2⟩) ⟨hm_B.blind, va_recv hK (hI.1.one hefs9) (ci := 8) (q0 := 0) rfl rfl, fun U hU hW => ⟨rfl, hm_B.of hK hG hI hU hW⟩⟩ rfl rfl hl.1 rfl (lv_room (Nat.le_of_ble_eq_true rfl)) d_Scan_takeEnd_12 (hx_fit hI hR (hm_mo hg8) (hm_mo hf))) (fun H locs cells slots hI => ?_)
    refine W.eq (g2 := F0 m 15 ls [.int v6]) rfl ?_
    refine lv_if_eq (tgt := 22) S.1 S.2.1 d_Scan_takeEnd_15 (by decide) (fun hc => ?_) (fun hc => ?_)
    · have hf := b_if_t hc hf
      refine lv_iconst (v := 0) S.1 S.2.1 d_Scan_takeEnd_22 (by decide) ?_
      exact w23 0 _ _ _ _ _ _ hf hI (lv_sub hl [] rfl)
    · have hf := b_if_f hc hf
      exact w18  _ _ _ _ _ _ hf hI (lv_sub hl [] rfl)
set_option maxHeartbeats 4000000 in
set_option maxRecDepth 100000 in
theorem c_PR_fold (l : Launch) {D : va_G} {dA : Nat → ClassId} {aK aV : Nat → Nat} {z : Nat} {N : Nat} {h0 : Nat} {M : hM} {Z : Int32 × hM} (hf : (f_PR_fold N h0 ).1 M = some Z) : Met l y_PR_fold w_PR_fold ({ frames := 3, cells := Z.2.2.1 - M.2.1, slots := Z.2.2.2 - M.2.2, locals := 68 }) (va_Pc [.ref h0] (hm_B D dA hCl (hTy dA) sT aK aV z M)) (hm_Q D dA hCl (hTy dA) sT aK aV z (some (.int Z.1)) Z.2) (Z.2.2.1 - M.2.1) (Z.2.2.2 - M.2.2) (fun q => z ≤ q) := by
  refine Met.ofW (cc := b_PR_fold) (maxL := 2) (ret := (some .int)) (by decide) rfl ?_
  intro p e s m args below meth c s₁ B hml hv
  obtain ⟨hav, hB⟩ := hv
  have S : CallFix p m c b_PR_fold 2 s args w_PR_fold R_PR := ⟨B.exec, B.bytes, hml, findClass_of_methodNamed B.named, atoms_spec (ws := w_PR_fold) B.pre⟩
  have hr : meth.sig.returnType = (some .int) := B.returns
  have hlocks := B.notSynchronized
  have hK := hB.2.2.1
  have hG := hB.2.2.2.2.2
  have hI := hm_I.start hB
  rw [← hB.2.1]
  generalize M.2.2 = k1 at hI ⊢
  refine W.eq (g2 := F0 m 0 ((lg_sl ([.ref h0]) ++ List.replicate (2 - (lg_sl ([.ref h0])).length) Slot.unset).toArray) []) (by rw [hav]; exact lg_entry_eq m ([.ref h0]) 2) ?_
  have hl := lv_entry ([.ref h0]) (n := 2) (Nat.le_of_ble_eq_true rfl)
  generalize (lg_sl ([.ref h0]) ++ List.replicate (2 - (lg_sl ([.ref h0])).length) Slot.unset).toArray = ls at hl ⊢
  simp only [lvA_nil, lvA_i, lvA_l, lvA_a, lvA_r, Nat.zero_add, Nat.reduceAdd] at hl
  have hret : ∀ (v : Int32) (M : hM) (H : Heap) (locs : List Loc) (cells slots : Nat) (ls : Array Slot) (pc : Nat), decode b_PR_fold pc = .ok (.ireturn, 1) → (b_ret v).1 M = some Z → hm_I D dA hCl z k1 s M H locs cells slots → W p l e (headSpec w_PR_fold { frames := 3, cells := Z.2.2.1 - s.heap.size, slots := Z.2.2.2 - k1, locals := 68 }).room s m args below meth c H locs cells slots (MQ below (hm_Q D dA hCl (hTy dA) sT aK aV z (some (.int Z.1)) Z.2) args s (Z.2.2.1 - s.heap.size) (Z.2.2.2 - k1) (fun q => z ≤ q)) (F0 m pc ls [.int v]) := fun v M H locs cells slots ls pc hdg hf hI => x_reti S hK hG hI hr hlocks hdg hf
  have hR : Z.2.2.1 - s.heap.size ≤ (headSpec w_PR_fold { frames := 3, cells := Z.2.2.1 - s.heap.size, slots := Z.2.2.2 - k1, locals := 68 }).room.cells ∧ Z.2.2.2 - k1 ≤ (headSpec w_PR_fold { frames := 3, cells := Z.2.2.1 - s.heap.size, slots := Z.2.2.2 - k1, locals := 68 }).room.slots := ⟨Nat.le_refl _, Nat.le_refl _⟩
  have hRf : 3 ≤ (headSpec w_PR_fold { frames := 3, cells := Z.2.2.1 - s.heap.size, slots := Z.2.2.2 - k1, locals := 68 }).room.frames ∧ 68 ≤ (headSpec w_PR_fold { frames := 3, cells := Z.2.2.1 - s.heap.size, slots := Z.2.2.2 - k1, locals := 68 }).room.locals := ⟨Nat.le_refl _, Nat.le_refl _⟩
  generalize (headSpec w_PR_fold { frames := 3, cells := Z.2.2.1 - s.heap.size, slots := Z.2.2.2 - k1, locals := 68 }).room = R at hret hR hRf ⊢
  generalize (MQ below (hm_Q D dA hCl (hTy dA) sT aK aV z (some (.int Z.1)) Z.2) args s (Z.2.2.1 - s.heap.size) (Z.2.2.2 - k1) (fun q => z ≤ q)) = Q at hret ⊢
  rw [e_PR_fold] at hf
  obtain ⟨J32, eJ32, hf⟩ := b_let_inv hf
  have w32 : ∀ (y0 : Int32) (M : hM) (H : Heap) (locs : List Loc) (ls : Array Slot) (cells slots : Nat), (J32 y0).1 M = some Z → hm_I D dA hCl z k1 s M H locs cells slots → lv_has ls 2 [(0, .ref h0)] → W p l e R s m args below meth c H locs cells slots Q (F0 m 32 ls [.int y0]) := by
    intro y0 M H locs ls cells slots hf hI hl
    rw [eJ32] at hf
    refine x_istore_n (lv2 := [(0, .ref h0)]) S d_PR_fold_32 rfl hl (by decide) [0] rfl ⟨⟨(by decide : (0 : Nat) ≠ 1), fun _ => rfl⟩, trivial⟩ (fun ls hl => ?_)
    refine lv_aload_n S.1 S.2.1 d_PR_fold_33 rfl (lv_at hl 1 rfl) ?_
    refine x_getR (ci := 0) (k := 1) S hK hI (fun w h => List.mem_cons_of_mem _ (i_PR w h)) rfl (by decide) (List.mem_cons_of_mem _ wd_26) rfl d_PR_fold_34 hf (fun r1 hf => ?_)
    obtain ⟨a2, ea2, hg⟩ := b_nn_inv hf
    have hI0 := hI
    have hl0 := hl
    clear hf hI hl
    subst ea2
    have hf := hg
    have hI := hI0
    have hl := hl0
    clear hg hI0 hl0
    obtain ⟨⟨fs6, hefs6⟩, hf⟩ := b_is_inv hf
    obtain ⟨r3, N4, hg5, hf⟩ := b_call_inv hf
    refine x_call hI (hm_mo hg5) (va_runV (As := []) (rest := []) S (c_Scan_useUp l hg5) (cwV 0 S.2.2.2.2 (gi_V wd_266 wd_267 wd_268 wd_9 wd_269) rfl rfl rfl (by decide +kernel) ⟨Nat.le_trans (Nat.le_of_ble_eq_true rfl) hRf.1, Nat.le_trans (Nat.le_of_ble_eq_true rfl) hRf.2⟩) ⟨hm_B.blind, va_recv hK (hI.1.one hefs6) (ci := 8) (q0 := 0) rfl rfl, fun U hU hW => ⟨rfl, hm_B.of hK hG hI hU hW⟩⟩ rfl rfl hl.1 rfl (lv_room (Nat.le_of_ble_eq_true rfl)) d_PR_fold_37 (hx_fit hI hR (hm_mo hg5) (hm_mo hf))) (fun H locs cells slots hI => ?_)
    refine W.eq (g2 := F0 m 40 ls []) rfl ?_
    refine lv_iload_n S.1 S.2.1 d_PR_fold_40 rfl (lv_at hl 0 rfl) ?_
    refine lv_if_ne (tgt := 52) S.1 S.2.1 d_PR_fold_41 (by decide) (fun hc => ?_) (fun hc => ?_)
    · have hf := b_if_f hc hf
      refine lv_aload_n S.1 S.2.1 d_PR_fold_52 rfl (lv_at hl 1 rfl) ?_
      refine x_getR (ci := 0) (k := 4) S hK hI (fun w h => List.mem_cons_of_mem _ (i_PR w h)) rfl (by decide) (List.mem_cons_of_mem _ wd_36) rfl d_PR_fold_53 hf (fun r7 hf => ?_)
      refine lv_aload_n S.1 S.2.1 d_PR_fold_56 rfl (lv_at hl 1 rfl) ?_
      refine x_getR (ci := 0) (k := 1) S hK hI (fun w h => List.mem_cons_of_mem _ (i_PR w h)) rfl (by decide) (List.mem_cons_of_mem _ wd_26) rfl d_PR_fold_57 hf (fun r8 hf => ?_)
      obtain ⟨a9, ea9, hg⟩ := b_nn_inv hf
      have hI0 := hI
      have hl0 := hl
      clear hf hI hl
      subst ea9
      have hf := hg
      have hI := hI0
      have hl := hl0
      clear hg hI0 hl0
      obtain ⟨⟨fs13, hefs13⟩, hf⟩ := b_is_inv hf
      obtain ⟨r10, N11, hg12, hf⟩ := b_call_inv hf
      refine x_call hI (hm_mo hg12) (va_runV (As := []) (rest := [va_rf r7]) S (c_Scan_takenName l hg12) (cwV 0 S.2.2.2.2 (gi_V wd_493 wd_132 wd_133 wd_9 wd_134) rfl rfl rfl (by decide +kernel) ⟨Nat.le_trans (Nat.le_of_ble_eq_true rfl) hRf.1, Nat.le_trans (Nat.le_of_ble_eq_true rfl) hRf.2⟩) ⟨hm_B.blind, va_recv hK (hI.1.one hefs13) (ci := 8) (q0 := 0) rfl rfl, fun U hU hW => ⟨rfl, hm_B.of hK hG hI hU hW⟩⟩ rfl rfl hl.1 rfl (lv_room (by simp only [List.map_cons, List.map_nil, List.sum_cons, List.sum_nil, rf_cat, cat_i, cat_l, cat_a, cat_n]; exact Nat.le_of_ble_eq_true rfl)) d_PR_fold_60 (hx_fit hI hR (hm_mo hg12) (hm_mo hf))) (fun H locs cells slots hI => ?_)
      refine W.eq (g2 := F0 m 63 ls [va_rf r10, va_rf r7]) rfl ?_
      obtain ⟨a14, ea14, hg⟩ := b_nn_inv hf
      have hI0 := hI
      have hl0 := hl
      clear hf hI hl
      subst ea14
      have hf := hg
      have hI := hI0
      have hl := hl0
      clear hg hI0 hl0
      obtain ⟨⟨fs18, hefs18⟩, hf⟩ := b_is_inv hf
      obtain ⟨r15, N16, hg17, hf⟩ := b_call_inv hf
      refine x_call hI (hm_mo hg17) (va_runV (As := [va_rf r10]) (rest := []) S (c_Printer_printFolded l hg17) (cwV 1 S.2.2.2.2 (gi_V wd_496 wd_497 wd_498 wd_31 wd_499) rfl rfl rfl (by decide +kernel) ⟨Nat.le_trans (Nat.le_of_ble_eq_true rfl) hRf.1, Nat.le_trans (Nat.le_of_ble_eq_true rfl) hRf.2⟩) ⟨hm_B.blind, va_recv hK (hI.1.one hefs18) (ci := 5) (q0 := 0) rfl rfl, fun U hU hW => ⟨rfl, hm_B.of hK hG hI hU hW⟩⟩ rfl rfl hl.1 rfl (lv_room (Nat.le_of_ble_eq_true rfl)) d_PR_fold_63 (hx_fit hI hR (hm_mo hg17) (hm_mo hf))) (fun H locs cells slots hI => ?_)
      refine W.eq (g2 := F0 m 66 ls []) rfl ?_
      refine lv_aload_n S.1 S.2.1 d_PR_fold_66 rfl (lv_at hl 1 rfl) ?_
      refine x_getR (ci := 0) (k := 4) S hK hI (fun w h => List.mem_cons_of_mem _ (i_PR w h)) rfl (by decide) (List.mem_cons_of_mem _ wd_36) rfl d_PR_fold_67 hf (fun r19 hf => ?_)
      obtain ⟨a20, ea20, hg⟩ := b_nn_inv hf
      have hI0 := hI
      have hl0 := hl
      clear hf hI hl
      subst ea20
      have hf := hg
      have hI := hI0
      have hl := hl0
      clear hg hI0 hl0
      refine x_getI (ci := 5) (k := 1) S hK hI (fun w h => List.mem_cons_of_mem _ (i_Printer w h)) rfl (by decide) (List.mem_cons_of_mem _ wd_492) rfl d_PR_fold_70 hf (fun v21 hf => ?_)
      exact hret _ _ _ _ _ _ _ _ d_PR_fold_73 hf hI
    · have hf := b_if_t hc hf
      refine lv_aload_n S.1 S.2.1 d_PR_fold_44 rfl (lv_at hl 1 rfl) ?_
      refine x_getR (ci := 0) (k := 1) S hK hI (fun w h => List.mem_cons_of_mem _ (i_PR w h)) rfl (by decide) (List.mem_cons_of_mem _ wd_26) rfl d_PR_fold_45 hf (fun r22 hf => ?_)
      obtain ⟨a23, ea23, hg⟩ := b_nn_inv hf
      have hI0 := hI
      have hl0 := hl
      clear hf hI hl
      subst ea23
      have hf := hg
      have hI := hI0
      have hl := hl0
      clear hg hI0 hl0
      obtain ⟨⟨fs27, hefs27⟩, hf⟩ := b_is_inv hf
      obtain ⟨v24, N25, hg26, hf⟩ := b_call_inv hf
      refine x_call hI (hm_mo hg26) (va_runV (As := []) (rest := []) S (c_Scan_refusal l hg26) (cwV 0 S.2.2.2.2 (gi_V wd_355 wd_356 wd_357 wd_9 wd_358) rfl rfl rfl (by decide +kernel) ⟨Nat.le_trans (Nat.le_of_ble_eq_true rfl) hRf.1, Nat.le_trans (Nat.le_of_ble_eq_true rfl) hRf.2⟩) ⟨hm_B.blind, va_recv hK (hI.1.one hefs27) (ci := 8) (q0 := 0) rfl rfl, fun U hU hW => ⟨rfl, hm_B.of hK hG hI hU hW⟩⟩ rfl rfl hl.1 rfl (lv_room (Nat.le_of_ble_eq_true rfl)) d_PR_fold_48 (hx_fit hI hR (hm_mo hg26) (hm_mo hf))) (fun H locs cells slots hI => ?_)
      refine W.eq (g2 := F0 m 51 ls [.int v24]) rfl ?_
      exact hret _ _ _ _ _ _ _ _ d_PR_fold_51 hf hI
  obtain ⟨J31, eJ31, hf⟩ := b_let_inv hf
  have w31 : ∀  (M : hM) (H : Heap) (locs : List Loc) (ls : Array Slot) (cells slots : Nat), (J31).1 M = some Z → hm_I D dA hCl z k1 s M H locs cells slots → lv_has ls 2 [(0, .ref h0)] → W p l e R s m args below meth c H locs cells slots Q (F0 m 31 ls []) := by
    intro M H locs ls cells slots hf hI hl
    rw [eJ31] at hf
    refine lv_iconst (v := 0) S.1 S.2.1 d_PR_fold_31 (by decide) ?_
    exact w32 0 _ _ _ _ _ _ hf hI (lv_sub hl [0] rfl)
  refine lv_aload_n S.1 S.2.1 d_PR_fold_0 rfl (lv_at hl 0 rfl) ?_
  refine x_getR (ci := 0) (k := 1) S hK hI (fun w h => List.mem_cons_of_mem _ (i_PR w h)) rfl (by decide) (List.mem_cons_of_mem _ wd_26) rfl d_PR_fold_1 hf (fun r28 hf => ?_)
  obtain ⟨a29, ea29, hg⟩ := b_nn_inv hf
  have hI0 := hI
  have hl0 := hl
  clear hf hI hl
  subst ea29
  have hf := hg
  have hI := hI0
  have hl := hl0
  clear hg hI0 hl0
  obtain ⟨⟨fs33, hefs33⟩, hf⟩ := b_is_inv hf
  obtain ⟨r30, N31, hg32, hf⟩ := b_call_inv hf
  refine x_call hI (hm_mo hg32) (va_runV (As := []) (rest := []) S (c_Scan_begin l hg32) (cwV 0 S.2.2.2.2 (gi_V wd_58 wd_59 wd_60 wd_9 wd_61) rfl rfl rfl (by decide +kernel) ⟨Nat.le_trans (Nat.le_of_ble_eq_true rfl) hRf.1, Nat.le_trans (Nat.le_of_ble_eq_true rfl) hRf.2⟩) ⟨hm_B.blind, va_recv hK (hI.1.one hefs33) (ci := 8) (q0 := 0) rfl rfl, fun U hU hW => ⟨rfl, hm_B.of hK hG hI hU hW⟩⟩ rfl rfl hl.1 rfl (lv_room (Nat.le_of_ble_eq_true rfl)) d_PR_fold_4 (hx_fit hI hR (hm_mo hg32) (hm_mo hf))) (fun H locs cells slots hI => ?_)
  refine W.eq (g2 := F0 m 7 ls []) rfl ?_
  refine lv_aload_n S.1 S.2.1 d_PR_fold_7 rfl (lv_at hl 0 rfl) ?_
  refine x_getR (ci := 0) (k := 1) S hK hI (fun w h => List.mem_cons_of_mem _ (i_PR w h)) rfl (by decide) (List.mem_cons_of_mem _ wd_26) rfl d_PR_fold_8 hf (fun r34 hf => ?_)
  obtain ⟨a35, ea35, hg⟩ := b_nn_inv hf
  have hI0 := hI
  have hl0 := hl
  clear hf hI hl
  subst ea35
  have hf := hg
  have hI := hI0
  have hl := hl0
  clear hg hI0 hl0
  obtain ⟨⟨fs39, hefs39⟩, hf⟩ := b_is_inv hf
  obtain ⟨v36, N37, hg38, hf⟩ := b_call_inv hf
  refine x_call hI (hm_mo hg38) (va_runV (As := []) (rest := []) S (c_Scan_takeName l hg38) (cwV 0 S.2.2.2.2 (gi_V wd_500 wd_117 wd_118 wd_9 wd_119) rfl rfl rfl (by decide +kernel) ⟨Nat.le_trans (Nat.le_of_ble_eq_true rfl) hRf.1, Nat.le_trans (Nat.le_of_ble_eq_true rfl) hRf.2⟩) ⟨hm_B.blind, va_recv hK (hI.1.one hefs39) (ci := 8) (q0 := 0) rfl rfl, fun U hU hW => ⟨rfl, hm_B.of hK hG hI hU hW⟩⟩ rfl rfl hl.1 rfl (lv_room (Nat.le_of_ble_eq_true rfl)) d_PR_fold_11 (hx_fit hI hR (hm_mo hg38) (hm_mo hf))) (fun H locs cells slots hI => ?_)
  refine W.eq (g2 := F0 m 14 ls [.int v36]) rfl ?_
  refine lv_if_eq (tgt := 31) S.1 S.2.1 d_PR_fold_14 (by decide) (fun hc => ?_) (fun hc => ?_)
  · have hf := b_if_t hc hf
    exact w31  _ _ _ _ _ _ hf hI (lv_sub hl [0] rfl)
  · have hf := b_if_f hc hf
    refine lv_aload_n S.1 S.2.1 d_PR_fold_17 rfl (lv_at hl 0 rfl) ?_
    refine x_getR (ci := 0) (k := 1) S hK hI (fun w h => List.mem_cons_of_mem _ (i_PR w h)) rfl (by decide) (List.mem_cons_of_mem _ wd_26) rfl d_PR_fold_18 hf (fun r40 hf => ?_)
    obtain ⟨a41, ea41, hg⟩ := b_nn_inv hf
    have hI0 := hI
    have hl0 := hl
    clear hf hI hl
    subst ea41
    have hf := hg
    have hI := hI0
    have hl := hl0
    clear hg hI0 hl0
    obtain ⟨⟨fs45, hefs45⟩, hf⟩ := b_is_inv hf
    obtain ⟨v42, N43, hg44, hf⟩ := b_call_inv hf
    refine x_call hI (hm_mo hg44) (va_runV (As := []) (rest := []) S (c_Scan_takeEnd l hg44) (cwV 0 S.2.2.2.2 (gi_V wd_502 wd_503 wd_504 wd_9 wd_505) rfl rfl rfl (by decide +kernel) ⟨Nat.le_trans (Nat.le_of_ble_eq_true rfl) hRf.1, Nat.le_trans (Nat.le_of_ble_eq_true rfl) hRf.2⟩) ⟨hm_B.blind, va_recv hK (hI.1.one hefs45) (ci := 8) (q0 := 0) rfl rfl, fun U hU hW => ⟨rfl, hm_B.of hK hG hI hU hW⟩⟩ rfl rfl hl.1 rfl (lv_room (Nat.le_of_ble_eq_true rfl)) d_PR_fold_21 (hx_fit hI hR (hm_mo hg44) (hm_mo hf))) (fun H locs cells slots hI => ?_)
    refine W.eq (g2 := F0 m 24 ls [.int v42]) rfl ?_
    refine lv_if_eq (tgt := 31) S.1 S.2.1 d_PR_fold_24 (by decide) (fun hc => ?_) (fun hc => ?_)
    · have hf := b_if_t hc hf
      exact w31  _ _ _ _ _ _ hf hI (lv_sub hl [0] rfl)
    · have hf := b_if_f hc hf
      refine lv_iconst (v := 1) S.1 S.2.1 d_PR_fold_27 (by decide) ?_
      refine lv_goto (tgt := 32) S.1 S.2.1 d_PR_fold_28 (by decide) ?_
      exact w32 1 _ _ _ _ _ _ hf hI (lv_sub hl [0] rfl)
set_option maxHeartbeats 4000000 in
set_option maxRecDepth 100000 in
theorem c_PR_at (l : Launch) {D : va_G} {dA : Nat → ClassId} {aK aV : Nat → Nat} {z : Nat} {N : Nat} {h0 : Nat} {p0 : Int32} {M : hM} {Z : Int32 × hM} (hf : (f_PR_at N h0 p0).1 M = some Z) : Met l y_PR_at w_PR_at ({ frames := 0, cells := Z.2.2.1 - M.2.1, slots := Z.2.2.2 - M.2.2, locals := 0 }) (va_Pc [.ref h0, .int p0] (hm_B D dA hCl (hTy dA) sT aK aV z M)) (hm_Q D dA hCl (hTy dA) sT aK aV z (some (.int Z.1)) Z.2) (Z.2.2.1 - M.2.1) (Z.2.2.2 - M.2.2) (fun q => z ≤ q) := by
  refine Met.ofW (cc := b_PR_at) (maxL := 2) (ret := (some .int)) (by decide) rfl ?_
  intro p e s m args below meth c s₁ B hml hv
  obtain ⟨hav, hB⟩ := hv
  have S : CallFix p m c b_PR_at 2 s args w_PR_at R_PR := ⟨B.exec, B.bytes, hml, findClass_of_methodNamed B.named, atoms_spec (ws := w_PR_at) B.pre⟩
  have hr : meth.sig.returnType = (some .int) := B.returns
  have hlocks := B.notSynchronized
  have hK := hB.2.2.1
  have hG := hB.2.2.2.2.2
  have hI := hm_I.start hB
  rw [← hB.2.1]
  generalize M.2.2 = k1 at hI ⊢
  refine W.eq (g2 := F0 m 0 ((lg_sl ([.ref h0, .int p0]) ++ List.replicate (2 - (lg_sl ([.ref h0, .int p0])).length) Slot.unset).toArray) []) (by rw [hav]; exact lg_entry_eq m ([.ref h0, .int p0]) 2) ?_
  have hl := lv_entry ([.ref h0, .int p0]) (n := 2) (Nat.le_of_ble_eq_true rfl)
  generalize (lg_sl ([.ref h0, .int p0]) ++ List.replicate (2 - (lg_sl ([.ref h0, .int p0])).length) Slot.unset).toArray = ls at hl ⊢
  simp only [lvA_nil, lvA_i, lvA_l, lvA_a, lvA_r, Nat.zero_add, Nat.reduceAdd] at hl
  have hret : ∀ (v : Int32) (M : hM) (H : Heap) (locs : List Loc) (cells slots : Nat) (ls : Array Slot) (pc : Nat), decode b_PR_at pc = .ok (.ireturn, 1) → (b_ret v).1 M = some Z → hm_I D dA hCl z k1 s M H locs cells slots → W p l e (headSpec w_PR_at { frames := 0, cells := Z.2.2.1 - s.heap.size, slots := Z.2.2.2 - k1, locals := 0 }).room s m args below meth c H locs cells slots (MQ below (hm_Q D dA hCl (hTy dA) sT aK aV z (some (.int Z.1)) Z.2) args s (Z.2.2.1 - s.heap.size) (Z.2.2.2 - k1) (fun q => z ≤ q)) (F0 m pc ls [.int v]) := fun v M H locs cells slots ls pc hdg hf hI => x_reti S hK hG hI hr hlocks hdg hf
  have hR : Z.2.2.1 - s.heap.size ≤ (headSpec w_PR_at { frames := 0, cells := Z.2.2.1 - s.heap.size, slots := Z.2.2.2 - k1, locals := 0 }).room.cells ∧ Z.2.2.2 - k1 ≤ (headSpec w_PR_at { frames := 0, cells := Z.2.2.1 - s.heap.size, slots := Z.2.2.2 - k1, locals := 0 }).room.slots := ⟨Nat.le_refl _, Nat.le_refl _⟩
  have hRf : 0 ≤ (headSpec w_PR_at { frames := 0, cells := Z.2.2.1 - s.heap.size, slots := Z.2.2.2 - k1, locals := 0 }).room.frames ∧ 0 ≤ (headSpec w_PR_at { frames := 0, cells := Z.2.2.1 - s.heap.size, slots := Z.2.2.2 - k1, locals := 0 }).room.locals := ⟨Nat.le_refl _, Nat.le_refl _⟩
  generalize (headSpec w_PR_at { frames := 0, cells := Z.2.2.1 - s.heap.size, slots := Z.2.2.2 - k1, locals := 0 }).room = R at hret hR hRf ⊢
  generalize (MQ below (hm_Q D dA hCl (hTy dA) sT aK aV z (some (.int Z.1)) Z.2) args s (Z.2.2.1 - s.heap.size) (Z.2.2.2 - k1) (fun q => z ≤ q)) = Q at hret ⊢
  rw [e_PR_at] at hf
  obtain ⟨J28, eJ28, hf⟩ := b_let_inv hf
  have w28 : ∀ (y0 : Int32) (M : hM) (H : Heap) (locs : List Loc) (ls : Array Slot) (cells slots : Nat), (J28 y0).1 M = some Z → hm_I D dA hCl z k1 s M H locs cells slots → lv_has ls 2 [] → W p l e R s m args below meth c H locs cells slots Q (F0 m 28 ls [.int y0]) := by
    intro y0 M H locs ls cells slots hf hI hl
    rw [eJ28] at hf
    exact hret _ _ _ _ _ _ _ _ d_PR_at_28 hf hI
  obtain ⟨J15, eJ15, hf⟩ := b_let_inv hf
  have w15 : ∀  (M : hM) (H : Heap) (locs : List Loc) (ls : Array Slot) (cells slots : Nat), (J15).1 M = some Z → hm_I D dA hCl z k1 s M H locs cells slots → lv_has ls 2 [] → W p l e R s m args below meth c H locs cells slots Q (F0 m 15 ls []) := by
    intro M H locs ls cells slots hf hI hl
    rw [eJ15] at hf
    refine lv_iconst (v := (-1)) S.1 S.2.1 d_PR_at_15 (by decide) ?_
    refine lv_goto (tgt := 28) S.1 S.2.1 d_PR_at_16 (by decide) ?_
    exact w28 (-1) _ _ _ _ _ _ hf hI (lv_sub hl [] rfl)
  refine lv_iload_n S.1 S.2.1 d_PR_at_0 rfl (lv_at hl 1 rfl) ?_
  refine lv_if_lt (tgt := 15) S.1 S.2.1 d_PR_at_1 (by decide) (fun hc => ?_) (fun hc => ?_)
  · have hf := b_if_t hc hf
    exact w15  _ _ _ _ _ _ hf hI (lv_sub hl [] rfl)
  · have hf := b_if_f hc hf
    refine lv_iload_n S.1 S.2.1 d_PR_at_4 rfl (lv_at hl 1 rfl) ?_
    refine lv_aload_n S.1 S.2.1 d_PR_at_5 rfl (lv_at hl 0 rfl) ?_
    refine x_getR (ci := 0) (k := 4) S hK hI (fun w h => List.mem_cons_of_mem _ (i_PR w h)) rfl (by decide) (List.mem_cons_of_mem _ wd_36) rfl d_PR_at_6 hf (fun r1 hf => ?_)
    obtain ⟨a2, ea2, hg⟩ := b_nn_inv hf
    have hI0 := hI
    have hl0 := hl
    clear hf hI hl
    subst ea2
    have hf := hg
    have hI := hI0
    have hl := hl0
    clear hg hI0 hl0
    refine x_getI (ci := 5) (k := 1) S hK hI (fun w h => List.mem_cons_of_mem _ (i_Printer w h)) rfl (by decide) (List.mem_cons_of_mem _ wd_492) rfl d_PR_at_9 hf (fun v3 hf => ?_)
    refine lv_icmp_lt (tgt := 19) S.1 S.2.1 d_PR_at_12 (by decide) (fun hc => ?_) (fun hc => ?_)
    · have hf := b_if_t hc hf
      refine lv_aload_n S.1 S.2.1 d_PR_at_19 rfl (lv_at hl 0 rfl) ?_
      refine x_getR (ci := 0) (k := 4) S hK hI (fun w h => List.mem_cons_of_mem _ (i_PR w h)) rfl (by decide) (List.mem_cons_of_mem _ wd_36) rfl d_PR_at_20 hf (fun r4 hf => ?_)
      obtain ⟨a5, ea5, hg⟩ := b_nn_inv hf
      have hI0 := hI
      have hl0 := hl
      clear hf hI hl
      subst ea5
      have hf := hg
      have hI := hI0
      have hl := hl0
      clear hg hI0 hl0
      refine x_getR (ci := 5) (k := 0) S hK hI (fun w h => List.mem_cons_of_mem _ (i_Printer w h)) rfl (by decide) (List.mem_cons_of_mem _ wd_506) rfl d_PR_at_23 hf (fun r6 hf => ?_)
      refine lv_iload_n S.1 S.2.1 d_PR_at_26 rfl (lv_at hl 1 rfl) ?_
      obtain ⟨a7, ea7, hg⟩ := b_nn_inv hf
      have hI0 := hI
      have hl0 := hl
      clear hf hI hl
      subst ea7
      have hf := hg
      have hI := hI0
      have hl := hl0
      clear hg hI0 hl0
      refine x_cald (t := 0) S hK hI rfl d_PR_at_27 hf (fun v8 hf => ?_)
      exact w28 v8 _ _ _ _ _ _ hf hI (lv_sub hl [] rfl)
    · have hf := b_if_f hc hf
      exact w15  _ _ _ _ _ _ hf hI (lv_sub hl [] rfl)
