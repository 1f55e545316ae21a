set_option maxHeartbeats 4000000 in
set_option maxRecDepth 100000 in
theorem c_Scan_takeName (l : Launch) {D : va_G} {dA : Nat → ClassId} {aK aV : Nat → Nat} {z : Nat} {N : Nat} {h0 : Nat} {M : hM} {Z : Int32 × hM} (hf : (f_Scan_takeName N h0 ).1 M = some Z) : Met l y_Scan_takeName w_Scan_takeName ({ frames := 2, cells := Z.2.2.1 - M.2.1, slots := Z.2.2.2 - M.2.2, locals := 41 }) (va_Pc [.ref h0] (hm_B D dA hCl (hTy dA) sT aK aV z M)) (hm_Q D dA hCl (hTy dA) sT aK aV z (some (.int Z.1)) Z.2) (Z.2.2.1 - M.2.1) (Z.2.2.2 - M.2.2) (fun q => z ≤ q) := by
  refine Met.ofW (cc := b_Scan_takeName) (maxL := 1) (ret := (some .boolean)) (by decide) rfl ?_
  intro p e s m args below meth c s₁ B hml hv
  obtain ⟨hav, hB⟩ := hv
  have S : CallFix p m c b_Scan_takeName 1 s args w_Scan_takeName R_Scan := ⟨B.exec, B.bytes, hml, findClass_of_methodNamed B.named, atoms_spec (ws := w_Scan_takeName) B.pre⟩
  have hr : meth.sig.returnType = (some .boolean) := B.returns
  have hlocks := B.notSynchronized
  have hK := hB.2.2.1
  have hG := hB.2.2.2.2.2
  have hI := hm_I.start hB
  rw [← hB.2.1]
  generalize M.2.2 = k1 at hI ⊢
  refine W.eq (g2 := F0 m 0 ((lg_sl ([.ref h0]) ++ List.replicate (1 - (lg_sl ([.ref h0])).length) Slot.unset).toArray) []) (by rw [hav]; exact lg_entry_eq m ([.ref h0]) 1) ?_
  have hl := lv_entry ([.ref h0]) (n := 1) (Nat.le_of_ble_eq_true rfl)
  generalize (lg_sl ([.ref h0]) ++ List.replicate (1 - (lg_sl ([.ref h0])).length) Slot.unset).toArray = ls at hl ⊢
  simp only [lvA_nil, lvA_i, lvA_l, lvA_a, lvA_r, Nat.zero_add, Nat.reduceAdd] at hl
  have hret : ∀ (v : Int32) (M : hM) (H : Heap) (locs : List Loc) (cells slots : Nat) (ls : Array Slot) (pc : Nat), decode b_Scan_takeName pc = .ok (.ireturn, 1) → (b_retN .boolean v).1 M = some Z → hm_I D dA hCl z k1 s M H locs cells slots → W p l e (headSpec w_Scan_takeName { frames := 2, cells := Z.2.2.1 - s.heap.size, slots := Z.2.2.2 - k1, locals := 41 }).room s m args below meth c H locs cells slots (MQ below (hm_Q D dA hCl (hTy dA) sT aK aV z (some (.int Z.1)) Z.2) args s (Z.2.2.1 - s.heap.size) (Z.2.2.2 - k1) (fun q => z ≤ q)) (F0 m pc ls [.int v]) := fun v M H locs cells slots ls pc hdg hf hI => x_retn S hK hG hI hr hlocks hdg hf
  have hR : Z.2.2.1 - s.heap.size ≤ (headSpec w_Scan_takeName { frames := 2, cells := Z.2.2.1 - s.heap.size, slots := Z.2.2.2 - k1, locals := 41 }).room.cells ∧ Z.2.2.2 - k1 ≤ (headSpec w_Scan_takeName { frames := 2, cells := Z.2.2.1 - s.heap.size, slots := Z.2.2.2 - k1, locals := 41 }).room.slots := ⟨Nat.le_refl _, Nat.le_refl _⟩
  have hRf : 2 ≤ (headSpec w_Scan_takeName { frames := 2, cells := Z.2.2.1 - s.heap.size, slots := Z.2.2.2 - k1, locals := 41 }).room.frames ∧ 41 ≤ (headSpec w_Scan_takeName { frames := 2, cells := Z.2.2.1 - s.heap.size, slots := Z.2.2.2 - k1, locals := 41 }).room.locals := ⟨Nat.le_refl _, Nat.le_refl _⟩
  generalize (headSpec w_Scan_takeName { frames := 2, cells := Z.2.2.1 - s.heap.size, slots := Z.2.2.2 - k1, locals := 41 }).room = R at hret hR hRf ⊢
  generalize (MQ below (hm_Q D dA hCl (hTy dA) sT aK aV z (some (.int Z.1)) Z.2) args s (Z.2.2.1 - s.heap.size) (Z.2.2.2 - k1) (fun q => z ≤ q)) = Q at hret ⊢
  rw [e_Scan_takeName] at hf
  obtain ⟨J40, eJ40, hf⟩ := b_let_inv hf
  have w40 : ∀  (M : hM) (H : Heap) (locs : List Loc) (ls : Array Slot) (cells slots : Nat), (J40).1 M = some Z → hm_I D dA hCl z k1 s M H locs cells slots → lv_has ls 1 [(0, .ref h0)] → W p l e R s m args below meth c H locs cells slots Q (F0 m 40 ls []) := by
    intro M H locs ls cells slots hf hI hl
    rw [eJ40] at hf
    refine lv_aload_n S.1 S.2.1 d_Scan_takeName_40 rfl (lv_at hl 0 rfl) ?_
    refine lv_aload_n S.1 S.2.1 d_Scan_takeName_41 rfl (lv_at hl 0 rfl) ?_
    refine x_getI (ci := 8) (k := 4) S hK hI (fun w h => List.mem_cons_of_mem _ (i_Scan w h)) rfl (by decide) (List.mem_cons_of_mem _ wd_56) rfl d_Scan_takeName_42 hf (fun v1 hf => ?_)
    obtain ⟨⟨fs5, hefs5⟩, hf⟩ := b_is_inv hf
    obtain ⟨v2, N3, hg4, hf⟩ := b_call_inv hf
    refine x_call hI (hm_mo hg4) (va_runV (As := [.int v1]) (rest := []) S (c_Scan_refuse l hg4) (cwV 1 S.2.2.2.2 (gi_V wd_98 wd_82 wd_83 wd_9 wd_84) rfl rfl rfl (by decide +kernel) ⟨Nat.le_trans (Nat.le_of_ble_eq_true rfl) hRf.1, Nat.le_trans (Nat.le_of_ble_eq_true rfl) hRf.2⟩) ⟨hm_B.blind, va_recv hK (hI.1.one hefs5) (ci := 8) (q0 := 0) rfl rfl, fun U hU hW => ⟨rfl, hm_B.of hK hG hI hU hW⟩⟩ rfl rfl hl.1 rfl (lv_room (Nat.le_of_ble_eq_true rfl)) d_Scan_takeName_45 (hx_fit hI hR (hm_mo hg4) (hm_mo hf))) (fun H locs cells slots hI => ?_)
    refine W.eq (g2 := F0 m 48 ls [.int v2]) rfl ?_
    exact hret _ _ _ _ _ _ _ _ d_Scan_takeName_48 hf hI
  refine lv_aload_n S.1 S.2.1 d_Scan_takeName_0 rfl (lv_at hl 0 rfl) ?_
  obtain ⟨⟨fs9, hefs9⟩, hf⟩ := b_is_inv hf
  obtain ⟨v6, N7, hg8, hf⟩ := b_call_inv hf
  refine x_call hI (hm_mo hg8) (va_runV (As := []) (rest := []) S (c_Scan_takeWord l hg8) (cwV 0 S.2.2.2.2 (gi_V wd_112 wd_113 wd_114 wd_9 wd_115) rfl rfl rfl (by decide +kernel) ⟨Nat.le_trans (Nat.le_of_ble_eq_true rfl) hRf.1, Nat.le_trans (Nat.le_of_ble_eq_true rfl) hRf.2⟩) ⟨hm_B.blind, va_recv hK (hI.1.one hefs9) (ci := 8) (q0 := 0) rfl rfl, fun U hU hW => ⟨rfl, hm_B.of hK hG hI hU hW⟩⟩ rfl rfl hl.1 rfl (lv_room (Nat.le_of_ble_eq_true rfl)) d_Scan_takeName_1 (hx_fit hI hR (hm_mo hg8) (hm_mo hf))) (fun H locs cells slots hI => ?_)
  refine W.eq (g2 := F0 m 4 ls [.int v6]) rfl ?_
  refine lv_if_ne (tgt := 9) S.1 S.2.1 d_Scan_takeName_4 (by decide) (fun hc => ?_) (fun hc => ?_)
  · have hf := b_if_f hc hf
    refine lv_aload_n S.1 S.2.1 d_Scan_takeName_9 rfl (lv_at hl 0 rfl) ?_
    refine x_getI (ci := 8) (k := 5) S hK hI (fun w h => List.mem_cons_of_mem _ (i_Scan w h)) rfl (by decide) (List.mem_cons_of_mem _ wd_57) rfl d_Scan_takeName_10 hf (fun v10 hf => ?_)
    refine lv_aload_n S.1 S.2.1 d_Scan_takeName_13 rfl (lv_at hl 0 rfl) ?_
    refine x_getI (ci := 8) (k := 4) S hK hI (fun w h => List.mem_cons_of_mem _ (i_Scan w h)) rfl (by decide) (List.mem_cons_of_mem _ wd_56) rfl d_Scan_takeName_14 hf (fun v11 hf => ?_)
    refine lv_isub S.1 S.2.1 d_Scan_takeName_17 ?_
    refine lv_bipush (v := 20) S.1 S.2.1 d_Scan_takeName_18 (by decide) ?_
    refine lv_icmp_gt (tgt := 40) S.1 S.2.1 d_Scan_takeName_20 (by decide) (fun hc => ?_) (fun hc => ?_)
    · have hf := b_if_t hc hf
      exact w40  _ _ _ _ _ _ hf hI (lv_sub hl [0] rfl)
    · have hf := b_if_f hc hf
      refine lv_aload_n S.1 S.2.1 d_Scan_takeName_23 rfl (lv_at hl 0 rfl) ?_
      refine x_getR (ci := 8) (k := 0) S hK hI (fun w h => List.mem_cons_of_mem _ (i_Scan w h)) rfl (by decide) (List.mem_cons_of_mem _ wd_12) rfl d_Scan_takeName_24 hf (fun r12 hf => ?_)
      refine lv_aload_n S.1 S.2.1 d_Scan_takeName_27 rfl (lv_at hl 0 rfl) ?_
      refine x_getI (ci := 8) (k := 5) S hK hI (fun w h => List.mem_cons_of_mem _ (i_Scan w h)) rfl (by decide) (List.mem_cons_of_mem _ wd_57) rfl d_Scan_takeName_28 hf (fun v13 hf => ?_)
      refine lv_iconst (v := 1) S.1 S.2.1 d_Scan_takeName_31 (by decide) ?_
      refine lv_isub S.1 S.2.1 d_Scan_takeName_32 ?_
      obtain ⟨a14, ea14, hg⟩ := b_nn_inv hf
      have hI0 := hI
      have hl0 := hl
      clear hf hI hl
      subst ea14
      have hf := hg
      have hI := hI0
      have hl := hl0
      clear hg hI0 hl0
      refine x_cald (t := 0) S hK hI rfl d_Scan_takeName_33 hf (fun v15 hf => ?_)
      obtain ⟨v16, N17, hg18, hf⟩ := b_call_inv hf
      refine x_call hI (hm_mo hg18) (va_runS (As := [.int v15]) (rest := []) S (c_Name_isBar l hg18) (va_cwS 1 S.2.2.2.2 (gi_S wd_105 wd_106 wd_75 wd_107) rfl rfl rfl (by decide +kernel) ⟨Nat.le_trans (Nat.le_of_ble_eq_true rfl) hRf.1, Nat.le_trans (Nat.le_of_ble_eq_true rfl) hRf.2⟩) ⟨hm_B.blind, fun U hU hW => ⟨rfl, hm_B.of hK hG hI hU hW⟩⟩ rfl rfl hl.1 rfl (lv_room (Nat.le_of_ble_eq_true rfl)) d_Scan_takeName_34 (hx_fit hI hR (hm_mo hg18) (hm_mo hf))) (fun H locs cells slots hI => ?_)
      refine W.eq (g2 := F0 m 37 ls [.int v16]) rfl ?_
      refine lv_if_eq (tgt := 49) S.1 S.2.1 d_Scan_takeName_37 (by decide) (fun hc => ?_) (fun hc => ?_)
      · have hf := b_if_t hc hf
        refine lv_iconst (v := 1) S.1 S.2.1 d_Scan_takeName_49 (by decide) ?_
        exact hret _ _ _ _ _ _ _ _ d_Scan_takeName_50 hf hI
      · have hf := b_if_f hc hf
        exact w40  _ _ _ _ _ _ hf hI (lv_sub hl [0] rfl)
  · have hf := b_if_t hc hf
    refine lv_iconst (v := 0) S.1 S.2.1 d_Scan_takeName_7 (by decide) ?_
    exact hret _ _ _ _ _ _ _ _ d_Scan_takeName_8 hf hI
set_option maxHeartbeats 4000000 in
set_option maxRecDepth 100000 in
theorem c_Name_smallLetter (l : Launch) {D : va_G} {dA : Nat → ClassId} {aK aV : Nat → Nat} {z : Nat} {N : Nat} {p0 : Int32} {M : hM} {Z : Int32 × hM} (hf : (f_Name_smallLetter N p0).1 M = some Z) : Met l y_Name_smallLetter w_Name_smallLetter ({ frames := 0, cells := Z.2.2.1 - M.2.1, slots := Z.2.2.2 - M.2.2, locals := 0 }) (va_Pc [.int p0] (hm_B D dA hCl (hTy dA) sT aK aV z M)) (hm_Q D dA hCl (hTy dA) sT aK aV z (some (.int Z.1)) Z.2) (Z.2.2.1 - M.2.1) (Z.2.2.2 - M.2.2) (fun q => z ≤ q) := by
  refine Met.ofW (cc := b_Name_smallLetter) (maxL := 1) (ret := (some .char)) (by decide) rfl ?_
  intro p e s m args below meth c s₁ B hml hv
  obtain ⟨hav, hB⟩ := hv
  have S : CallFix p m c b_Name_smallLetter 1 s args w_Name_smallLetter R_Name := ⟨B.exec, B.bytes, hml, findClass_of_methodNamed B.named, atoms_spec (ws := w_Name_smallLetter) B.pre⟩
  have hr : meth.sig.returnType = (some .char) := B.returns
  have hlocks := B.notSynchronized
  have hK := hB.2.2.1
  have hG := hB.2.2.2.2.2
  have hI := hm_I.start hB
  rw [← hB.2.1]
  generalize M.2.2 = k1 at hI ⊢
  refine W.eq (g2 := F0 m 0 ((lg_sl ([.int p0]) ++ List.replicate (1 - (lg_sl ([.int p0])).length) Slot.unset).toArray) []) (by rw [hav]; exact lg_entry_eq m ([.int p0]) 1) ?_
  have hl := lv_entry ([.int p0]) (n := 1) (Nat.le_of_ble_eq_true rfl)
  generalize (lg_sl ([.int p0]) ++ List.replicate (1 - (lg_sl ([.int p0])).length) Slot.unset).toArray = ls at hl ⊢
  simp only [lvA_nil, lvA_i, lvA_l, lvA_a, lvA_r, Nat.zero_add, Nat.reduceAdd] at hl
  have hret : ∀ (v : Int32) (M : hM) (H : Heap) (locs : List Loc) (cells slots : Nat) (ls : Array Slot) (pc : Nat), decode b_Name_smallLetter pc = .ok (.ireturn, 1) → (b_retN .char v).1 M = some Z → hm_I D dA hCl z k1 s M H locs cells slots → W p l e (headSpec w_Name_smallLetter { frames := 0, cells := Z.2.2.1 - s.heap.size, slots := Z.2.2.2 - k1, locals := 0 }).room s m args below meth c H locs cells slots (MQ below (hm_Q D dA hCl (hTy dA) sT aK aV z (some (.int Z.1)) Z.2) args s (Z.2.2.1 - s.heap.size) (Z.2.2.2 - k1) (fun q => z ≤ q)) (F0 m pc ls [.int v]) := fun v M H locs cells slots ls pc hdg hf hI => x_retn S hK hG hI hr hlocks hdg hf
  have hR : Z.2.2.1 - s.heap.size ≤ (headSpec w_Name_smallLetter { frames := 0, cells := Z.2.2.1 - s.heap.size, slots := Z.2.2.2 - k1, locals := 0 }).room.cells ∧ Z.2.2.2 - k1 ≤ (headSpec w_Name_smallLetter { frames := 0, cells := Z.2.2.1 - s.heap.size, slots := Z.2.2.2 - k1, locals := 0 }).room.slots := ⟨Nat.le_refl _, Nat.le_refl _⟩
  have hRf : 0 ≤ (headSpec w_Name_smallLetter { frames := 0, cells := Z.2.2.1 - s.heap.size, slots := Z.2.2.2 - k1, locals := 0 }).room.frames ∧ 0 ≤ (headSpec w_Name_smallLetter { frames := 0, cells := Z.2.2.1 - s.heap.size, slots := Z.2.2.2 - k1, locals := 0 }).room.locals := ⟨Nat.le_refl _, Nat.le_refl _⟩
  generalize (headSpec w_Name_smallLetter { frames := 0, cells := Z.2.2.1 - s.heap.size, slots := Z.2.2.2 - k1, locals := 0 }).room = R at hret hR hRf ⊢
  generalize (MQ below (hm_Q D dA hCl (hTy dA) sT aK aV z (some (.int Z.1)) Z.2) args s (Z.2.2.1 - s.heap.size) (Z.2.2.2 - k1) (fun q => z ≤ q)) = Q at hret ⊢
  rw [e_Name_smallLetter] at hf
  obtain ⟨J24, eJ24, hf⟩ := b_let_inv hf
  have w24 : ∀ (y0 : Int32) (M : hM) (H : Heap) (locs : List Loc) (ls : Array Slot) (cells slots : Nat), (J24 y0).1 M = some Z → hm_I D dA hCl z k1 s M H locs cells slots → lv_has ls 1 [] → W p l e R s m args below meth c H locs cells slots Q (F0 m 24 ls [.int y0]) := by
    intro y0 M H locs ls cells slots hf hI hl
    rw [eJ24] at hf
    exact hret _ _ _ _ _ _ _ _ d_Name_smallLetter_24 hf hI
  obtain ⟨J23, eJ23, hf⟩ := b_let_inv hf
  have w23 : ∀  (M : hM) (H : Heap) (locs : List Loc) (ls : Array Slot) (cells slots : Nat), (J23).1 M = some Z → hm_I D dA hCl z k1 s M H locs cells slots → lv_has ls 1 [(0, .int p0)] → W p l e R s m args below meth c H locs cells slots Q (F0 m 23 ls []) := by
    intro M H locs ls cells slots hf hI hl
    rw [eJ23] at hf
    refine lv_iload_n S.1 S.2.1 d_Name_smallLetter_23 rfl (lv_at hl 0 rfl) ?_
    exact w24 p0 _ _ _ _ _ _ hf hI (lv_sub hl [] rfl)
  refine lv_iload_n S.1 S.2.1 d_Name_smallLetter_0 rfl (lv_at hl 0 rfl) ?_
  refine lv_bipush (v := 65) S.1 S.2.1 d_Name_smallLetter_1 (by decide) ?_
  refine lv_icmp_lt (tgt := 23) S.1 S.2.1 d_Name_smallLetter_3 (by decide) (fun hc => ?_) (fun hc => ?_)
  · have hf := b_if_t hc hf
    exact w23  _ _ _ _ _ _ hf hI (lv_sub hl [0] rfl)
  · have hf := b_if_f hc hf
    refine lv_iload_n S.1 S.2.1 d_Name_smallLetter_6 rfl (lv_at hl 0 rfl) ?_
    refine lv_bipush (v := 90) S.1 S.2.1 d_Name_smallLetter_7 (by decide) ?_
    refine lv_icmp_gt (tgt := 23) S.1 S.2.1 d_Name_smallLetter_9 (by decide) (fun hc => ?_) (fun hc => ?_)
    · have hf := b_if_t hc hf
      exact w23  _ _ _ _ _ _ hf hI (lv_sub hl [0] rfl)
    · have hf := b_if_f hc hf
      refine lv_iload_n S.1 S.2.1 d_Name_smallLetter_12 rfl (lv_at hl 0 rfl) ?_
      refine lv_bipush (v := 65) S.1 S.2.1 d_Name_smallLetter_13 (by decide) ?_
      refine lv_isub S.1 S.2.1 d_Name_smallLetter_15 ?_
      refine lv_bipush (v := 97) S.1 S.2.1 d_Name_smallLetter_16 (by decide) ?_
      refine lv_iadd S.1 S.2.1 d_Name_smallLetter_18 ?_
      refine lv_i2c S.1 S.2.1 d_Name_smallLetter_19 rfl ?_
      refine lv_goto (tgt := 24) S.1 S.2.1 d_Name_smallLetter_20 (by decide) ?_
      exact w24 (((((p0 - 65) + 97) : Int32).toUInt32 % 65536).toInt32) _ _ _ _ _ _ hf hI (lv_sub hl [] rfl)
set_option maxHeartbeats 4000000 in
set_option maxRecDepth 100000 in
theorem c_Name_init (l : Launch) {D : va_G} {dA : Nat → ClassId} {aK aV : Nat → Nat} {z : Nat} {N : Nat} {h0 : Nat} {p0 : Option Nat} {p1 : Int32} {p2 : Int32} {M : hM} {Z : Unit × hM} (hf : (f_Name_init N h0 p0 p1 p2).1 M = some Z) : Met l y_Name_init w_Name_init ({ frames := 1, cells := Z.2.2.1 - M.2.1, slots := Z.2.2.2 - M.2.2, locals := 20 }) (va_Pc [.ref h0, va_rf p0, .int p1, .int p2] (hm_B D dA hCl (hTy dA) sT aK aV z M)) (hm_Q D dA hCl (hTy dA) sT aK aV z none Z.2) (Z.2.2.1 - M.2.1) (Z.2.2.2 - M.2.2) (fun q => z ≤ q) := by
  refine Met.ofW (cc := b_Name_init) (maxL := 9) (ret := none) (by decide) rfl ?_
  intro p e s m args below meth c s₁ B hml hv
  obtain ⟨hav, hB⟩ := hv
  have S : CallFix p m c b_Name_init 9 s args w_Name_init R_Name := ⟨B.exec, B.bytes, hml, findClass_of_methodNamed B.named, atoms_spec (ws := w_Name_init) B.pre⟩
  have hr : meth.sig.returnType = none := B.returns
  have hlocks := B.notSynchronized
  have hin : meth.name = "<init>" := (name_of_methodNamed B.named B.method).1
  have hK := hB.2.2.1
  have hG := hB.2.2.2.2.2
  have hI := hm_I.start hB
  rw [← hB.2.1]
  generalize M.2.2 = k1 at hI ⊢
  refine W.eq (g2 := F0 m 0 ((lg_sl ([.ref h0, va_rf p0, .int p1, .int p2]) ++ List.replicate (9 - (lg_sl ([.ref h0, va_rf p0, .int p1, .int p2])).length) Slot.unset).toArray) []) (by rw [hav]; exact lg_entry_eq m ([.ref h0, va_rf p0, .int p1, .int p2]) 9) ?_
  have hl := lv_entry ([.ref h0, va_rf p0, .int p1, .int p2]) (n := 9) (by cases p0 <;> exact Nat.le_of_ble_eq_true rfl)
  generalize (lg_sl ([.ref h0, va_rf p0, .int p1, .int p2]) ++ List.replicate (9 - (lg_sl ([.ref h0, va_rf p0, .int p1, .int p2])).length) Slot.unset).toArray = ls at hl ⊢
  simp only [lvA_nil, lvA_i, lvA_l, lvA_a, lvA_r, Nat.zero_add, Nat.reduceAdd] at hl
  have hret : ∀ (M : hM) (H : Heap) (locs : List Loc) (cells slots : Nat) (ls : Array Slot) (pc : Nat), decode b_Name_init pc = .ok (.return_, 1) → (b_ret ()).1 M = some Z → hm_I D dA hCl z k1 s M H locs cells slots → W p l e (headSpec w_Name_init { frames := 1, cells := Z.2.2.1 - s.heap.size, slots := Z.2.2.2 - k1, locals := 20 }).room s m args below meth c H locs cells slots (MQ below (hm_Q D dA hCl (hTy dA) sT aK aV z none Z.2) args s (Z.2.2.1 - s.heap.size) (Z.2.2.2 - k1) (fun q => z ≤ q)) (F0 m pc ls []) := fun M H locs cells slots ls pc hdg hf hI => x_retv S hK hG hI hr hlocks hdg hf
  have hR : Z.2.2.1 - s.heap.size ≤ (headSpec w_Name_init { frames := 1, cells := Z.2.2.1 - s.heap.size, slots := Z.2.2.2 - k1, locals := 20 }).room.cells ∧ Z.2.2.2 - k1 ≤ (headSpec w_Name_init { frames := 1, cells := Z.2.2.1 - s.heap.size, slots := Z.2.2.2 - k1, locals := 20 }).room.slots := ⟨Nat.le_refl _, Nat.le_refl _⟩
  have hRf : 1 ≤ (headSpec w_Name_init { frames := 1, cells := Z.2.2.1 - s.heap.size, slots := Z.2.2.2 - k1, locals := 20 }).room.frames ∧ 20 ≤ (headSpec w_Name_init { frames := 1, cells := Z.2.2.1 - s.heap.size, slots := Z.2.2.2 - k1, locals := 20 }).room.locals := ⟨Nat.le_refl _, Nat.le_refl _⟩
  generalize (headSpec w_Name_init { frames := 1, cells := Z.2.2.1 - s.heap.size, slots := Z.2.2.2 - k1, locals := 20 }).room = R at hret hR hRf ⊢
  generalize (MQ below (hm_Q D dA hCl (hTy dA) sT aK aV z none Z.2) args s (Z.2.2.1 - s.heap.size) (Z.2.2.2 - k1) (fun q => z ≤ q)) = Q at hret ⊢
  rw [e_Name_init] at hf
  obtain ⟨J26, eJ26, hf⟩ := b_let_inv hf
  have w26 : ∀ (y0 : Int32) (M : hM) (H : Heap) (locs : List Loc) (ls : Array Slot) (cells slots : Nat), (J26 y0).1 M = some Z → hm_I D dA hCl z k1 s M H locs cells slots → lv_has ls 9 [(0, .ref h0), (1, va_rf p0), (2, .int p1)] → W p l e R s m args below meth c H locs cells slots Q (F0 m 26 ls [.int y0]) := by
    intro y0 M H locs ls cells slots hf hI hl
    rw [eJ26] at hf
    have w50 : ∀ (n : Nat) (x4 : Int32) (x5 : Int32) (x6 : Int32) (M : hM) (H : Heap) (locs : List Loc) (ls : Array Slot) (cells slots : Nat), (f_Name_init_50 N h0 p0 p1 p2  n x4 x5 x6).1 M = some Z → hm_I D dA hCl z k1 s M H locs cells slots → lv_has ls 9 [(0, .ref h0), (1, va_rf p0), (2, .int p1), (4, .int x4), (5, .int x5), (6, .int x6)] → W p l e R s m args below meth c H locs cells slots Q (F0 m 50 ls []) := by
      intro n
      induction n with
      | zero => intro x4 x5 x6 M H locs ls cells slots hf hI hl; cases hf
      | succ n50 ih50 =>
        intro x4 x5 x6 M H locs ls cells slots hf hI hl
        rw [e_Name_init_50] at hf
        obtain ⟨J92, eJ92, hf⟩ := b_let_inv hf
        have w92 : ∀ (x4 : Int32) (x5 : Int32) (x6 : Int32) (y0 : Int32) (M : hM) (H : Heap) (locs : List Loc) (ls : Array Slot) (cells slots : Nat), (J92 x4 x5 x6 y0).1 M = some Z → hm_I D dA hCl z k1 s M H locs cells slots → lv_has ls 9 [(0, .ref h0), (1, va_rf p0), (2, .int p1), (4, .int x4), (5, .int x5), (6, .int x6)] → W p l e R s m args below meth c H locs cells slots Q (F0 m 92 ls [.int y0]) := by
          intro x4 x5 x6 y0 M H locs ls cells slots hf hI hl
          rw [eJ92] at hf
          obtain ⟨J132, eJ132, hf⟩ := b_let_inv hf
          have w132 : ∀ (x4 : Int32) (x5 : Int32) (x6 : Int32) (M : hM) (H : Heap) (locs : List Loc) (ls : Array Slot) (cells slots : Nat), (J132 x4 x5 x6).1 M = some Z → hm_I D dA hCl z k1 s M H locs cells slots → lv_has ls 9 [(0, .ref h0), (1, va_rf p0), (2, .int p1), (4, .int x4), (5, .int x5), (6, .int x6)] → W p l e R s m args below meth c H locs cells slots Q (F0 m 132 ls []) := by
            intro x4 x5 x6 M H locs ls cells slots hf hI hl
            rw [eJ132] at hf
            refine x_iinc (v := 1) (lv2 := [(0, .ref h0), (1, va_rf p0), (2, .int p1), (4, .int x4), (5, .int x5)]) S d_Name_init_132 hl 5 rfl (by decide) (by decide) [0, 1, 2, 3, 4] rfl ⟨⟨(by decide : (0 : Nat) ≠ 6), fun h => absurd (show (0 : Nat) + 1 = 6 from h) (by decide)⟩, ⟨⟨(by decide : (1 : Nat) ≠ 6), fun h => absurd (show (1 : Nat) + 1 = 6 from h) (by decide)⟩, ⟨⟨(by decide : (2 : Nat) ≠ 6), fun h => absurd (show (2 : Nat) + 1 = 6 from h) (by decide)⟩, ⟨⟨(by decide : (4 : Nat) ≠ 6), fun h => absurd (show (4 : Nat) + 1 = 6 from h) (by decide)⟩, ⟨⟨(by decide : (5 : Nat) ≠ 6), fun _ => rfl⟩, trivial⟩⟩⟩⟩⟩ (fun ls hl => ?_)
            refine lv_goto (tgt := 50) S.1 S.2.1 d_Name_init_135 (by decide) ?_
            exact ih50 x4 x5 (x6 + 1) _ _ _ _ _ _ hf hI (lv_sub hl [1, 2, 3, 4, 5, 0] rfl)
          obtain ⟨J120, eJ120, hf⟩ := b_let_inv hf
          have w120 : ∀ (x4 : Int32) (x5 : Int32) (x6 : Int32) (x8 : Int32) (M : hM) (H : Heap) (locs : List Loc) (ls : Array Slot) (cells slots : Nat), (J120 x4 x5 x6 x8).1 M = some Z → hm_I D dA hCl z k1 s M H locs cells slots → lv_has ls 9 [(0, .ref h0), (1, va_rf p0), (2, .int p1), (4, .int x4), (5, .int x5), (6, .int x6), (8, .int x8)] → W p l e R s m args below meth c H locs cells slots Q (F0 m 120 ls []) := by
            intro x4 x5 x6 x8 M H locs ls cells slots hf hI hl
            rw [eJ120] at hf
            refine lv_aload_n S.1 S.2.1 d_Name_init_120 rfl (lv_at hl 0 rfl) ?_
            refine x_getR (ci := 2) (k := 1) S hK hI (fun w h => List.mem_cons_of_mem _ (i_Name w h)) rfl (by decide) (List.mem_cons_of_mem _ wd_67) rfl d_Name_init_121 hf (fun r1 hf => ?_)
            refine lv_iload S.1 S.2.1 d_Name_init_124 (lv_at hl 4 rfl) ?_
            refine lv_iload S.1 S.2.1 d_Name_init_126 (lv_at hl 6 rfl) ?_
            obtain ⟨a2, ea2, hg⟩ := b_nn_inv hf
            have hI0 := hI
            have hl0 := hl
            clear hf hI hl
            subst ea2
            have hf := hg
            have hI := hI0
            have hl := hl0
            clear hg hI0 hl0
            refine x_cast (t := 0) S hK hI rfl d_Name_init_128 hf (fun M H locs hf hI => ?_)
            refine x_iinc (v := 1) (lv2 := [(0, .ref h0), (1, va_rf p0), (2, .int p1), (4, .int x4), (6, .int x6), (8, .int x8)]) S d_Name_init_129 hl 4 rfl (by decide) (by decide) [0, 1, 2, 3, 5, 6] rfl ⟨⟨(by decide : (0 : Nat) ≠ 5), fun h => absurd (show (0 : Nat) + 1 = 5 from h) (by decide)⟩, ⟨⟨(by decide : (1 : Nat) ≠ 5), fun h => absurd (show (1 : Nat) + 1 = 5 from h) (by decide)⟩, ⟨⟨(by decide : (2 : Nat) ≠ 5), fun h => absurd (show (2 : Nat) + 1 = 5 from h) (by decide)⟩, ⟨⟨(by decide : (4 : Nat) ≠ 5), fun _ => rfl⟩, ⟨⟨(by decide : (6 : Nat) ≠ 5), fun h => absurd (show (6 : Nat) + 1 = 5 from h) (by decide)⟩, ⟨⟨(by decide : (8 : Nat) ≠ 5), fun h => absurd (show (8 : Nat) + 1 = 5 from h) (by decide)⟩, trivial⟩⟩⟩⟩⟩⟩ (fun ls hl => ?_)
            exact w132 x4 (x5 + 1) x6 _ _ _ _ _ _ hf hI (lv_sub hl [1, 2, 3, 4, 0, 5] rfl)
          refine x_istore (lv2 := [(0, .ref h0), (1, va_rf p0), (2, .int p1), (4, .int x4), (5, .int x5), (6, .int x6)]) S d_Name_init_92 hl (by decide) [0, 1, 2, 3, 4, 5] rfl ⟨⟨(by decide : (0 : Nat) ≠ 8), fun h => absurd (show (0 : Nat) + 1 = 8 from h) (by decide)⟩, ⟨⟨(by decide : (1 : Nat) ≠ 8), fun h => absurd (show (1 : Nat) + 1 = 8 from h) (by decide)⟩, ⟨⟨(by decide : (2 : Nat) ≠ 8), fun h => absurd (show (2 : Nat) + 1 = 8 from h) (by decide)⟩, ⟨⟨(by decide : (4 : Nat) ≠ 8), fun h => absurd (show (4 : Nat) + 1 = 8 from h) (by decide)⟩, ⟨⟨(by decide : (5 : Nat) ≠ 8), fun h => absurd (show (5 : Nat) + 1 = 8 from h) (by decide)⟩, ⟨⟨(by decide : (6 : Nat) ≠ 8), fun h => absurd (show (6 : Nat) + 1 = 8 from h) (by decide)⟩, trivial⟩⟩⟩⟩⟩⟩ (fun ls hl => ?_)
          refine lv_iload S.1 S.2.1 d_Name_init_94 (lv_at hl 0 rfl) ?_
          refine lv_bipush (v := 45) S.1 S.2.1 d_Name_init_96 (by decide) ?_
          refine lv_icmp_ne (tgt := 120) S.1 S.2.1 d_Name_init_98 (by decide) (fun hc => ?_) (fun hc => ?_)
          · have hf := b_if_f hc hf
            exact w120 x4 x5 x6 y0 _ _ _ _ _ _ hf hI (lv_sub hl [1, 2, 3, 4, 5, 6, 0] rfl)
          · have hf := b_if_t hc hf
            refine lv_iload S.1 S.2.1 d_Name_init_101 (lv_at hl 5 rfl) ?_
            refine lv_if_eq (tgt := 120) S.1 S.2.1 d_Name_init_103 (by decide) (fun hc => ?_) (fun hc => ?_)
            · have hf := b_if_t hc hf
              exact w120 x4 x5 x6 y0 _ _ _ _ _ _ hf hI (lv_sub hl [1, 2, 3, 4, 5, 6, 0] rfl)
            · have hf := b_if_f hc hf
              refine lv_aload_n S.1 S.2.1 d_Name_init_106 rfl (lv_at hl 1 rfl) ?_
              refine x_getR (ci := 2) (k := 1) S hK hI (fun w h => List.mem_cons_of_mem _ (i_Name w h)) rfl (by decide) (List.mem_cons_of_mem _ wd_67) rfl d_Name_init_107 hf (fun r3 hf => ?_)
              refine lv_iload S.1 S.2.1 d_Name_init_110 (lv_at hl 5 rfl) ?_
              refine lv_iconst (v := 1) S.1 S.2.1 d_Name_init_112 (by decide) ?_
              refine lv_isub S.1 S.2.1 d_Name_init_113 ?_
              obtain ⟨a4, ea4, hg⟩ := b_nn_inv hf
              have hI0 := hI
              have hl0 := hl
              clear hf hI hl
              subst ea4
              have hf := hg
              have hI := hI0
              have hl := hl0
              clear hg hI0 hl0
              refine x_cald (t := 0) S hK hI rfl d_Name_init_114 hf (fun v5 hf => ?_)
              refine lv_bipush (v := 45) S.1 S.2.1 d_Name_init_115 (by decide) ?_
              refine lv_icmp_eq (tgt := 132) S.1 S.2.1 d_Name_init_117 (by decide) (fun hc => ?_) (fun hc => ?_)
              · have hf := b_if_t hc hf
                exact w132 x4 x5 x6 _ _ _ _ _ _ hf hI (lv_sub hl [1, 2, 3, 4, 5, 6] rfl)
              · have hf := b_if_f hc hf
                exact w120 x4 x5 x6 y0 _ _ _ _ _ _ hf hI (lv_sub hl [1, 2, 3, 4, 5, 6, 0] rfl)
        refine lv_iload S.1 S.2.1 d_Name_init_50 (lv_at hl 5 rfl) ?_
        refine lv_iload S.1 S.2.1 d_Name_init_52 (lv_at hl 3 rfl) ?_
        refine lv_icmp_ge (tgt := 138) S.1 S.2.1 d_Name_init_54 (by decide) (fun hc => ?_) (fun hc => ?_)
        · have hf := b_if_t hc hf
          refine lv_aload_n S.1 S.2.1 d_Name_init_138 rfl (lv_at hl 0 rfl) ?_
          refine lv_iload S.1 S.2.1 d_Name_init_139 (lv_at hl 4 rfl) ?_
          refine x_put (ci := 2) (k := 2) S hK hI (fun w h => List.mem_cons_of_mem _ (i_Name w h)) t_Name t_Name_ok n_Name rfl (by decide) (List.mem_cons_of_mem _ wd_66) rfl (Or.inr ⟨rfl, hin, rfl⟩) (by rfl) rfl d_Name_init_141 hf (fun M H locs hf hI => ?_)
          exact hret _ _ _ _ _ _ _ d_Name_init_144 hf hI
        · have hf := b_if_f hc hf
          refine x_aload_n (r := p0) S d_Name_init_57 rfl (lv_at hl 1 rfl) ?_
          refine lv_iload_n S.1 S.2.1 d_Name_init_58 rfl (lv_at hl 2 rfl) ?_
          refine lv_iload S.1 S.2.1 d_Name_init_59 (lv_at hl 5 rfl) ?_
          refine lv_iadd S.1 S.2.1 d_Name_init_61 ?_
          obtain ⟨a6, ea6, hg⟩ := b_nn_inv hf
          have hI0 := hI
          have hl0 := hl
          clear hf hI hl
          subst ea6
          have hf := hg
          have hI := hI0
          have hl := hl0
          clear hg hI0 hl0
          refine x_cald (t := 0) S hK hI rfl d_Name_init_62 hf (fun v7 hf => ?_)
          refine x_istore (lv2 := [(0, .ref h0), (1, .ref a6), (2, .int p1), (4, .int x4), (5, .int x5), (6, .int x6)]) S d_Name_init_63 hl (by decide) [0, 1, 2, 3, 4, 5] rfl ⟨⟨(by decide : (0 : Nat) ≠ 7), fun h => absurd (show (0 : Nat) + 1 = 7 from h) (by decide)⟩, ⟨⟨(by decide : (1 : Nat) ≠ 7), fun h => absurd (show (1 : Nat) + 1 = 7 from h) (by decide)⟩, ⟨⟨(by decide : (2 : Nat) ≠ 7), fun h => absurd (show (2 : Nat) + 1 = 7 from h) (by decide)⟩, ⟨⟨(by decide : (4 : Nat) ≠ 7), fun h => absurd (show (4 : Nat) + 1 = 7 from h) (by decide)⟩, ⟨⟨(by decide : (5 : Nat) ≠ 7), fun h => absurd (show (5 : Nat) + 1 = 7 from h) (by decide)⟩, ⟨⟨(by decide : (6 : Nat) ≠ 7), fun _ => rfl⟩, trivial⟩⟩⟩⟩⟩⟩ (fun ls hl => ?_)
          refine lv_aload_n S.1 S.2.1 d_Name_init_65 rfl (lv_at hl 1 rfl) ?_
          refine x_getR (ci := 2) (k := 0) S hK hI (fun w h => List.mem_cons_of_mem _ (i_Name w h)) rfl (by decide) (List.mem_cons_of_mem _ wd_122) rfl d_Name_init_66 hf (fun r8 hf => ?_)
          refine lv_iload S.1 S.2.1 d_Name_init_69 (lv_at hl 6 rfl) ?_
          refine lv_iload S.1 S.2.1 d_Name_init_71 (lv_at hl 0 rfl) ?_
          obtain ⟨a9, ea9, hg⟩ := b_nn_inv hf
          have hI0 := hI
          have hl0 := hl
          clear hf hI hl
          subst ea9
          have hf := hg
          have hI := hI0
          have hl := hl0
          clear hg hI0 hl0
          refine x_cast (t := 0) S hK hI rfl d_Name_init_73 hf (fun M H locs hf hI => ?_)
          refine lv_iload S.1 S.2.1 d_Name_init_74 (lv_at hl 0 rfl) ?_
          obtain ⟨v10, N11, hg12, hf⟩ := b_call_inv hf
          refine x_call hI (hm_mo hg12) (va_runS (As := [.int v7]) (rest := []) S (c_Name_isBar l hg12) (va_cwS 1 S.2.2.2.2 (gi_S wd_123 wd_106 wd_75 wd_107) rfl rfl rfl (by decide +kernel) ⟨Nat.le_trans (Nat.le_of_ble_eq_true rfl) hRf.1, Nat.le_trans (Nat.le_of_ble_eq_true rfl) hRf.2⟩) ⟨hm_B.blind, fun U hU hW => ⟨rfl, hm_B.of hK hG hI hU hW⟩⟩ rfl rfl hl.1 rfl (lv_room (Nat.le_of_ble_eq_true rfl)) d_Name_init_76 (hx_fit hI hR (hm_mo hg12) (hm_mo hf))) (fun H locs cells slots hI => ?_)
          refine W.eq (g2 := F0 m 79 ls [.int v10]) rfl ?_
          refine lv_if_eq (tgt := 87) S.1 S.2.1 d_Name_init_79 (by decide) (fun hc => ?_) (fun hc => ?_)
          · have hf := b_if_t hc hf
            refine lv_iload S.1 S.2.1 d_Name_init_87 (lv_at hl 0 rfl) ?_
            obtain ⟨v13, N14, hg15, hf⟩ := b_call_inv hf
            refine x_call hI (hm_mo hg15) (va_runS (As := [.int v7]) (rest := []) S (c_Name_smallLetter l hg15) (va_cwS 1 S.2.2.2.2 (gi_S wd_124 wd_125 wd_75 wd_126) rfl rfl rfl (by decide +kernel) ⟨Nat.le_trans (Nat.le_of_ble_eq_true rfl) hRf.1, Nat.le_trans (Nat.le_of_ble_eq_true rfl) hRf.2⟩) ⟨hm_B.blind, fun U hU hW => ⟨rfl, hm_B.of hK hG hI hU hW⟩⟩ rfl rfl hl.1 rfl (lv_room (Nat.le_of_ble_eq_true rfl)) d_Name_init_89 (hx_fit hI hR (hm_mo hg15) (hm_mo hf))) (fun H locs cells slots hI => ?_)
            refine W.eq (g2 := F0 m 92 ls [.int v13]) rfl ?_
            exact w92 x4 x5 x6 v13 _ _ _ _ _ _ hf hI (lv_sub hl [1, 2, 3, 4, 5, 6] rfl)
          · have hf := b_if_f hc hf
            refine lv_bipush (v := 45) S.1 S.2.1 d_Name_init_82 (by decide) ?_
            refine lv_goto (tgt := 92) S.1 S.2.1 d_Name_init_84 (by decide) ?_
            exact w92 x4 x5 x6 45 _ _ _ _ _ _ hf hI (lv_sub hl [1, 2, 3, 4, 5, 6] rfl)
    refine x_istore (lv2 := [(0, .ref h0), (1, va_rf p0), (2, .int p1)]) S d_Name_init_26 hl (by decide) [0, 1, 2] rfl ⟨⟨(by decide : (0 : Nat) ≠ 4), fun h => absurd (show (0 : Nat) + 1 = 4 from h) (by decide)⟩, ⟨⟨(by decide : (1 : Nat) ≠ 4), fun h => absurd (show (1 : Nat) + 1 = 4 from h) (by decide)⟩, ⟨⟨(by decide : (2 : Nat) ≠ 4), fun h => absurd (show (2 : Nat) + 1 = 4 from h) (by decide)⟩, trivial⟩⟩⟩ (fun ls hl => ?_)
    refine lv_aload_n S.1 S.2.1 d_Name_init_28 rfl (lv_at hl 1 rfl) ?_
    refine lv_iload S.1 S.2.1 d_Name_init_29 (lv_at hl 0 rfl) ?_
    refine x_newa (t := 0) (atype := .char) S hK hI hR (List.mem_cons_of_mem _ wd_11) rfl (by decide) rfl (fun h => h) d_Name_init_31 hf (fun q16 M H hf hI => ?_)
    refine x_put (ci := 2) (k := 0) S hK hI (fun w h => List.mem_cons_of_mem _ (i_Name w h)) t_Name t_Name_ok n_Name rfl (by decide) (List.mem_cons_of_mem _ wd_122) rfl (Or.inr ⟨rfl, hin, rfl⟩) (by rfl) rfl d_Name_init_33 hf (fun M H locs hf hI => ?_)
    refine lv_aload_n S.1 S.2.1 d_Name_init_36 rfl (lv_at hl 1 rfl) ?_
    refine lv_iload S.1 S.2.1 d_Name_init_37 (lv_at hl 0 rfl) ?_
    refine x_newa (t := 0) (atype := .char) S hK hI hR (List.mem_cons_of_mem _ wd_11) rfl (by decide) rfl (fun h => h) d_Name_init_39 hf (fun q17 M H hf hI => ?_)
    refine x_put (ci := 2) (k := 1) S hK hI (fun w h => List.mem_cons_of_mem _ (i_Name w h)) t_Name t_Name_ok n_Name rfl (by decide) (List.mem_cons_of_mem _ wd_67) rfl (Or.inr ⟨rfl, hin, rfl⟩) (by rfl) rfl d_Name_init_41 hf (fun M H locs hf hI => ?_)
    refine lv_iconst (v := 0) S.1 S.2.1 d_Name_init_44 (by decide) ?_
    refine x_istore (lv2 := [(4, .int y0), (0, .ref h0), (1, va_rf p0), (2, .int p1)]) S d_Name_init_45 hl (by decide) [0, 1, 2, 3] rfl ⟨⟨(by decide : (4 : Nat) ≠ 5), fun _ => rfl⟩, ⟨⟨(by decide : (0 : Nat) ≠ 5), fun h => absurd (show (0 : Nat) + 1 = 5 from h) (by decide)⟩, ⟨⟨(by decide : (1 : Nat) ≠ 5), fun h => absurd (show (1 : Nat) + 1 = 5 from h) (by decide)⟩, ⟨⟨(by decide : (2 : Nat) ≠ 5), fun h => absurd (show (2 : Nat) + 1 = 5 from h) (by decide)⟩, trivial⟩⟩⟩⟩ (fun ls hl => ?_)
    refine lv_iconst (v := 0) S.1 S.2.1 d_Name_init_47 (by decide) ?_
    refine x_istore (lv2 := [(5, .int 0), (4, .int y0), (0, .ref h0), (1, va_rf p0), (2, .int p1)]) S d_Name_init_48 hl (by decide) [0, 1, 2, 3, 4] rfl ⟨⟨(by decide : (5 : Nat) ≠ 6), fun _ => rfl⟩, ⟨⟨(by decide : (4 : Nat) ≠ 6), fun h => absurd (show (4 : Nat) + 1 = 6 from h) (by decide)⟩, ⟨⟨(by decide : (0 : Nat) ≠ 6), fun h => absurd (show (0 : Nat) + 1 = 6 from h) (by decide)⟩, ⟨⟨(by decide : (1 : Nat) ≠ 6), fun h => absurd (show (1 : Nat) + 1 = 6 from h) (by decide)⟩, ⟨⟨(by decide : (2 : Nat) ≠ 6), fun h => absurd (show (2 : Nat) + 1 = 6 from h) (by decide)⟩, trivial⟩⟩⟩⟩⟩ (fun ls hl => ?_)
    exact w50 N y0 0 0 _ _ _ _ _ _ hf hI (lv_sub hl [3, 4, 5, 2, 1, 0] rfl)
  obtain ⟨J25, eJ25, hf⟩ := b_let_inv hf
  have w25 : ∀  (M : hM) (H : Heap) (locs : List Loc) (ls : Array Slot) (cells slots : Nat), (J25).1 M = some Z → hm_I D dA hCl z k1 s M H locs cells slots → lv_has ls 9 [(0, .ref h0), (1, va_rf p0), (2, .int p1)] → W p l e R s m args below meth c H locs cells slots Q (F0 m 25 ls []) := by
    intro M H locs ls cells slots hf hI hl
    rw [eJ25] at hf
    refine lv_iconst (v := 0) S.1 S.2.1 d_Name_init_25 (by decide) ?_
    exact w26 0 _ _ _ _ _ _ hf hI (lv_sub hl [0, 1, 2] rfl)
  refine lv_aload_n S.1 S.2.1 d_Name_init_0 rfl (lv_at hl 0 rfl) ?_
  refine W.objInit S.1 S.2.1 S.2.2.2.1 (S.2.2.2.2 _ (List.mem_cons_of_mem _ wd_127)) (S.2.2.2.2 _ (List.mem_cons_of_mem _ wd_1)) (S.2.2.2.2 _ (List.mem_cons_of_mem _ wd_2)) rfl (by rw [S.2.2.1]; exact hl.1) rfl d_Name_init_1 (Nat.le_trans (Nat.le_of_ble_eq_true rfl) hRf.1) (Nat.le_trans (Nat.le_of_ble_eq_true rfl) hRf.2) ?_
  refine W.eq (g2 := F0 m 4 ls []) rfl ?_
  refine lv_iload_n S.1 S.2.1 d_Name_init_4 rfl (lv_at hl 2 rfl) ?_
  refine lv_if_lt (tgt := 25) S.1 S.2.1 d_Name_init_5 (by decide) (fun hc => ?_) (fun hc => ?_)
  · have hf := b_if_t hc hf
    exact w25  _ _ _ _ _ _ hf hI (lv_sub hl [0, 1, 2] rfl)
  · have hf := b_if_f hc hf
    refine lv_iload_n S.1 S.2.1 d_Name_init_8 rfl (lv_at hl 2 rfl) ?_
    refine lv_iload_n S.1 S.2.1 d_Name_init_9 rfl (lv_at hl 3 rfl) ?_
    refine lv_icmp_gt (tgt := 25) S.1 S.2.1 d_Name_init_10 (by decide) (fun hc => ?_) (fun hc => ?_)
    · have hf := b_if_t hc hf
      exact w25  _ _ _ _ _ _ hf hI (lv_sub hl [0, 1, 2] rfl)
    · have hf := b_if_f hc hf
      refine lv_iload_n S.1 S.2.1 d_Name_init_13 rfl (lv_at hl 3 rfl) ?_
      refine x_aload_n (r := p0) S d_Name_init_14 rfl (lv_at hl 1 rfl) ?_
      obtain ⟨a18, ea18, hg⟩ := b_nn_inv hf
      have hI0 := hI
      have hl0 := hl
      clear hf hI hl
      subst ea18
      have hf := hg
      have hI := hI0
      have hl := hl0
      clear hg hI0 hl0
      refine x_len (t := 0) S hK hI rfl d_Name_init_15 hf (fun v19 hf => ?_)
      refine lv_icmp_gt (tgt := 25) S.1 S.2.1 d_Name_init_16 (by decide) (fun hc => ?_) (fun hc => ?_)
      · have hf := b_if_t hc hf
        exact w25  _ _ _ _ _ _ hf hI (lv_sub hl [0, 1, 2] rfl)
      · have hf := b_if_f hc hf
        refine lv_iload_n S.1 S.2.1 d_Name_init_19 rfl (lv_at hl 3 rfl) ?_
        refine lv_iload_n S.1 S.2.1 d_Name_init_20 rfl (lv_at hl 2 rfl) ?_
        refine lv_isub S.1 S.2.1 d_Name_init_21 ?_
        refine lv_goto (tgt := 26) S.1 S.2.1 d_Name_init_22 (by decide) ?_
        exact w26 (p2 - p1) _ _ _ _ _ _ hf hI (lv_sub hl [0, 1, 2] rfl)
set_option maxHeartbeats 4000000 in
set_option maxRecDepth 100000 in
theorem c_Scan_takenName (l : Launch) {D : va_G} {dA : Nat → ClassId} {aK aV : Nat → Nat} {z : Nat} {N : Nat} {h0 : Nat} {M : hM} {Z : Option Nat × hM} (hf : (f_Scan_takenName N h0 ).1 M = some Z) : Met l y_Scan_takenName w_Scan_takenName ({ frames := 2, cells := Z.2.2.1 - M.2.1, slots := Z.2.2.2 - M.2.2, locals := 48 }) (va_Pc [.ref h0] (hm_B D dA hCl (hTy dA) sT aK aV z M)) (hm_Q D dA hCl (hTy dA) sT aK aV z (some (va_rf Z.1)) Z.2) (Z.2.2.1 - M.2.1) (Z.2.2.2 - M.2.2) (fun q => z ≤ q) := by
  refine Met.ofW (cc := b_Scan_takenName) (maxL := 1) (ret := (some (.object "PackageRows$Name"))) (by decide) rfl ?_
  intro p e s m args below meth c s₁ B hml hv
  obtain ⟨hav, hB⟩ := hv
  have S : CallFix p m c b_Scan_takenName 1 s args w_Scan_takenName R_Scan := ⟨B.exec, B.bytes, hml, findClass_of_methodNamed B.named, atoms_spec (ws := w_Scan_takenName) B.pre⟩
  have hr : meth.sig.returnType = (some (.object "PackageRows$Name")) := B.returns
  have hlocks := B.notSynchronized
  have hK := hB.2.2.1
  have hG := hB.2.2.2.2.2
  have hI := hm_I.start hB
  rw [← hB.2.1]
  generalize M.2.2 = k1 at hI ⊢
  refine W.eq (g2 := F0 m 0 ((lg_sl ([.ref h0]) ++ List.replicate (1 - (lg_sl ([.ref h0])).length) Slot.unset).toArray) []) (by rw [hav]; exact lg_entry_eq m ([.ref h0]) 1) ?_
  have hl := lv_entry ([.ref h0]) (n := 1) (Nat.le_of_ble_eq_true rfl)
  generalize (lg_sl ([.ref h0]) ++ List.replicate (1 - (lg_sl ([.ref h0])).length) Slot.unset).toArray = ls at hl ⊢
  simp only [lvA_nil, lvA_i, lvA_l, lvA_a, lvA_r, Nat.zero_add, Nat.reduceAdd] at hl
  have hret : ∀ (v : Option Nat) (M : hM) (H : Heap) (locs : List Loc) (cells slots : Nat) (ls : Array Slot) (pc : Nat), decode b_Scan_takenName pc = .ok (.areturn, 1) → (b_ret v).1 M = some Z → hm_I D dA hCl z k1 s M H locs cells slots → W p l e (headSpec w_Scan_takenName { frames := 2, cells := Z.2.2.1 - s.heap.size, slots := Z.2.2.2 - k1, locals := 48 }).room s m args below meth c H locs cells slots (MQ below (hm_Q D dA hCl (hTy dA) sT aK aV z (some (va_rf Z.1)) Z.2) args s (Z.2.2.1 - s.heap.size) (Z.2.2.2 - k1) (fun q => z ≤ q)) (F0 m pc ls [va_rf v]) := fun v M H locs cells slots ls pc hdg hf hI => x_retr S hK hG hI hr (Or.inl ⟨_, rfl⟩) hlocks hdg hf
  have hR : Z.2.2.1 - s.heap.size ≤ (headSpec w_Scan_takenName { frames := 2, cells := Z.2.2.1 - s.heap.size, slots := Z.2.2.2 - k1, locals := 48 }).room.cells ∧ Z.2.2.2 - k1 ≤ (headSpec w_Scan_takenName { frames := 2, cells := Z.2.2.1 - s.heap.size, slots := Z.2.2.2 - k1, locals := 48 }).room.slots := ⟨Nat.le_refl _, Nat.le_refl _⟩
  have hRf : 2 ≤ (headSpec w_Scan_takenName { frames := 2, cells := Z.2.2.1 - s.heap.size, slots := Z.2.2.2 - k1, locals := 48 }).room.frames ∧ 48 ≤ (headSpec w_Scan_takenName { frames := 2, cells := Z.2.2.1 - s.heap.size, slots := Z.2.2.2 - k1, locals := 48 }).room.locals := ⟨Nat.le_refl _, Nat.le_refl _⟩
  generalize (headSpec w_Scan_takenName { frames := 2, cells := Z.2.2.1 - s.heap.size, slots := Z.2.2.2 - k1, locals := 48 }).room = R at hret hR hRf ⊢
  generalize (MQ below (hm_Q D dA hCl (hTy dA) sT aK aV z (some (va_rf Z.1)) Z.2) args s (Z.2.2.1 - s.heap.size) (Z.2.2.2 - k1) (fun q => z ≤ q)) = Q at hret ⊢
  rw [e_Scan_takenName] at hf
  refine x_new (ci := 2) S hK hI hR (fun w h => List.mem_cons_of_mem _ (i_Name w h)) t_Name t_Name_ok rfl (List.mem_cons_of_mem _ wd_120) (List.mem_cons_of_mem _ wd_121) (List.mem_cons_of_mem _ wd_75) s_Name d_Scan_takenName_0 hf (fun q1 M H hf hI => ?_)
  refine lv_dup S.1 S.2.1 d_Scan_takenName_3 rfl ?_
  refine lv_aload_n S.1 S.2.1 d_Scan_takenName_4 rfl (lv_at hl 0 rfl) ?_
  refine x_getR (ci := 8) (k := 0) S hK hI (fun w h => List.mem_cons_of_mem _ (i_Scan w h)) rfl (by decide) (List.mem_cons_of_mem _ wd_12) rfl d_Scan_takenName_5 hf (fun r2 hf => ?_)
  refine lv_aload_n S.1 S.2.1 d_Scan_takenName_8 rfl (lv_at hl 0 rfl) ?_
  refine x_getI (ci := 8) (k := 4) S hK hI (fun w h => List.mem_cons_of_mem _ (i_Scan w h)) rfl (by decide) (List.mem_cons_of_mem _ wd_56) rfl d_Scan_takenName_9 hf (fun v3 hf => ?_)
  refine lv_aload_n S.1 S.2.1 d_Scan_takenName_12 rfl (lv_at hl 0 rfl) ?_
  refine x_getI (ci := 8) (k := 5) S hK hI (fun w h => List.mem_cons_of_mem _ (i_Scan w h)) rfl (by decide) (List.mem_cons_of_mem _ wd_57) rfl d_Scan_takenName_13 hf (fun v4 hf => ?_)
  obtain ⟨r5, N6, hg7, hf⟩ := b_call_inv hf
  refine x_call hI (hm_mo hg7) (va_runI (As := [va_rf r2, .int v3, .int v4]) (rest := [.ref q1]) S (c_Name_init l hg7) (cwI 3 S.2.2.2.2 (gi_I wd_128) rfl rfl rfl (S.2.2.2.2 _ (List.mem_cons_of_mem _ wd_75)) (S.2.2.2.2 _ (List.mem_cons_of_mem _ wd_129)) (S.2.2.2.2 _ (List.mem_cons_of_mem _ wd_130)) rfl (by decide +kernel) ⟨Nat.le_trans (Nat.le_of_ble_eq_true rfl) hRf.1, Nat.le_trans (Nat.le_of_ble_eq_true rfl) hRf.2⟩) ⟨hm_B.blind, fun U hU hW => ⟨rfl, hm_B.of hK hG hI hU hW⟩⟩ rfl rfl hl.1 rfl (lv_room (Nat.le_of_ble_eq_true rfl)) d_Scan_takenName_16 (hx_fit hI hR (hm_mo hg7) (hm_mo hf))) (fun H locs cells slots hI => ?_)
  refine W.eq (g2 := F0 m 19 ls [.ref q1]) rfl ?_
  exact hret (some q1) _ _ _ _ _ _ _ d_Scan_takenName_19 hf hI
set_option maxHeartbeats 4000000 in
set_option maxRecDepth 100000 in
theorem c_Scan_takeNumber (l : Launch) {D : va_G} {dA : Nat → ClassId} {aK aV : Nat → Nat} {z : Nat} {N : Nat} {h0 : Nat} {M : hM} {Z : Int32 × hM} (hf : (f_Scan_takeNumber N h0 ).1 M = some Z) : Met l y_Scan_takeNumber w_Scan_takeNumber ({ frames := 0, cells := Z.2.2.1 - M.2.1, slots := Z.2.2.2 - M.2.2, locals := 0 }) (va_Pc [.ref h0] (hm_B D dA hCl (hTy dA) sT aK aV z M)) (hm_Q D dA hCl (hTy dA) sT aK aV z (some (.int Z.1)) Z.2) (Z.2.2.1 - M.2.1) (Z.2.2.2 - M.2.2) (fun q => z ≤ q) := by
  refine Met.ofW (cc := b_Scan_takeNumber) (maxL := 4) (ret := (some .boolean)) (by decide) rfl ?_
  intro p e s m args below meth c s₁ B hml hv
  obtain ⟨hav, hB⟩ := hv
  have S : CallFix p m c b_Scan_takeNumber 4 s args w_Scan_takeNumber R_Scan := ⟨B.exec, B.bytes, hml, findClass_of_methodNamed B.named, atoms_spec (ws := w_Scan_takeNumber) B.pre⟩
  have hr : meth.sig.returnType = (some .boolean) := B.returns
  have hlocks := B.notSynchronized
  have hK := hB.2.2.1
  have hG := hB.2.2.2.2.2
  have hI := hm_I.start hB
  rw [← hB.2.1]
  generalize M.2.2 = k1 at hI ⊢
  refine W.eq (g2 := F0 m 0 ((lg_sl ([.ref h0]) ++ List.replicate (4 - (lg_sl ([.ref h0])).length) Slot.unset).toArray) []) (by rw [hav]; exact lg_entry_eq m ([.ref h0]) 4) ?_
  have hl := lv_entry ([.ref h0]) (n := 4) (Nat.le_of_ble_eq_true rfl)
  generalize (lg_sl ([.ref h0]) ++ List.replicate (4 - (lg_sl ([.ref h0])).length) Slot.unset).toArray = ls at hl ⊢
  simp only [lvA_nil, lvA_i, lvA_l, lvA_a, lvA_r, Nat.zero_add, Nat.reduceAdd] at hl
  have hret : ∀ (v : Int32) (M : hM) (H : Heap) (locs : List Loc) (cells slots : Nat) (ls : Array Slot) (pc : Nat), decode b_Scan_takeNumber pc = .ok (.ireturn, 1) → (b_retN .boolean v).1 M = some Z → hm_I D dA hCl z k1 s M H locs cells slots → W p l e (headSpec w_Scan_takeNumber { frames := 0, cells := Z.2.2.1 - s.heap.size, slots := Z.2.2.2 - k1, locals := 0 }).room s m args below meth c H locs cells slots (MQ below (hm_Q D dA hCl (hTy dA) sT aK aV z (some (.int Z.1)) Z.2) args s (Z.2.2.1 - s.heap.size) (Z.2.2.2 - k1) (fun q => z ≤ q)) (F0 m pc ls [.int v]) := fun v M H locs cells slots ls pc hdg hf hI => x_retn S hK hG hI hr hlocks hdg hf
  have hR : Z.2.2.1 - s.heap.size ≤ (headSpec w_Scan_takeNumber { frames := 0, cells := Z.2.2.1 - s.heap.size, slots := Z.2.2.2 - k1, locals := 0 }).room.cells ∧ Z.2.2.2 - k1 ≤ (headSpec w_Scan_takeNumber { frames := 0, cells := Z.2.2.1 - s.heap.size, slots := Z.2.2.2 - k1, locals := 0 }).room.slots := ⟨Nat.le_refl _, Nat.le_refl _⟩
  have hRf : 0 ≤ (headSpec w_Scan_takeNumber { frames := 0, cells := Z.2.2.1 - s.heap.size, slots := Z.2.2.2 - k1, locals := 0 }).room.frames ∧ 0 ≤ (headSpec w_Scan_takeNumber { frames := 0, cells := Z.2.2.1 - s.heap.size, slots := Z.2.2.2 - k1, locals := 0 }).room.locals := ⟨Nat.le_refl _, Nat.le_refl _⟩
  generalize (headSpec w_Scan_takeNumber { frames := 0, cells := Z.2.2.1 - s.heap.size, slots := Z.2.2.2 - k1, locals := 0 }).room = R at hret hR hRf ⊢
  generalize (MQ below (hm_Q D dA hCl (hTy dA) sT aK aV z (some (.int Z.1)) Z.2) args s (Z.2.2.1 - s.heap.size) (Z.2.2.2 - k1) (fun q => z ≤ q)) = Q at hret ⊢
  rw [e_Scan_takeNumber] at hf
  have w10 : ∀ (n : Nat) (x1 : Int32) (M : hM) (H : Heap) (locs : List Loc) (ls : Array Slot) (cells slots : Nat), (f_Scan_takeNumber_10 N h0  n x1).1 M = some Z → hm_I D dA hCl z k1 s M H locs cells slots → lv_has ls 4 [(0, .ref h0), (1, .int x1)] → W p l e R s m args below meth c H locs cells slots Q (F0 m 10 ls []) := by
    intro n
    induction n with
    | zero => intro x1 M H locs ls cells slots hf hI hl; cases hf
    | succ n10 ih10 =>
      intro x1 M H locs ls cells slots hf hI hl
      rw [e_Scan_takeNumber_10] at hf
      obtain ⟨J87, eJ87, hf⟩ := b_let_inv hf
      have w87 : ∀ (x1 : Int32) (M : hM) (H : Heap) (locs : List Loc) (ls : Array Slot) (cells slots : Nat), (J87 x1).1 M = some Z → hm_I D dA hCl z k1 s M H locs cells slots → lv_has ls 4 [(0, .ref h0), (1, .int x1)] → W p l e R s m args below meth c H locs cells slots Q (F0 m 87 ls []) := by
        intro x1 M H locs ls cells slots hf hI hl
        rw [eJ87] at hf
        refine lv_aload_n S.1 S.2.1 d_Scan_takeNumber_87 rfl (lv_at hl 0 rfl) ?_
        refine lv_dup S.1 S.2.1 d_Scan_takeNumber_88 rfl ?_
        refine x_getI (ci := 8) (k := 2) S hK hI (fun w h => List.mem_cons_of_mem _ (i_Scan w h)) rfl (by decide) (List.mem_cons_of_mem _ wd_54) rfl d_Scan_takeNumber_89 hf (fun v1 hf => ?_)
        refine lv_iconst (v := 1) S.1 S.2.1 d_Scan_takeNumber_92 (by decide) ?_
        refine lv_iadd S.1 S.2.1 d_Scan_takeNumber_93 ?_
        refine x_put (ci := 8) (k := 2) S hK hI (fun w h => List.mem_cons_of_mem _ (i_Scan w h)) t_Scan t_Scan_ok n_Scan rfl (by decide) (List.mem_cons_of_mem _ wd_54) rfl (Or.inl rfl) (by rfl) rfl d_Scan_takeNumber_94 hf (fun M H locs hf hI => ?_)
        refine lv_goto (tgt := 10) S.1 S.2.1 d_Scan_takeNumber_97 (by decide) ?_
        exact ih10 x1 _ _ _ _ _ _ hf hI (lv_sub hl [0, 1] rfl)
      obtain ⟨J100, eJ100, hf⟩ := b_let_inv hf
      have w100 : ∀ (x1 : Int32) (M : hM) (H : Heap) (locs : List Loc) (ls : Array Slot) (cells slots : Nat), (J100 x1).1 M = some Z → hm_I D dA hCl z k1 s M H locs cells slots → lv_has ls 4 [(0, .ref h0), (1, .int x1)] → W p l e R s m args below meth c H locs cells slots Q (F0 m 100 ls []) := by
        intro x1 M H locs ls cells slots hf hI hl
        rw [eJ100] at hf
        obtain ⟨J128, eJ128, hf⟩ := b_let_inv hf
        have w128 : ∀ (x1 : Int32) (x2 : Int32) (y0 : Int32) (M : hM) (H : Heap) (locs : List Loc) (ls : Array Slot) (cells slots : Nat), (J128 x1 x2 y0).1 M = some Z → hm_I D dA hCl z k1 s M H locs cells slots → lv_has ls 4 [(0, .ref h0), (1, .int x1), (2, .int x2)] → W p l e R s m args below meth c H locs cells slots Q (F0 m 128 ls [.int y0]) := by
          intro x1 x2 y0 M H locs ls cells slots hf hI hl
          rw [eJ128] at hf
          obtain ⟨J144, eJ144, hf⟩ := b_let_inv hf
          have w144 : ∀ (x1 : Int32) (M : hM) (H : Heap) (locs : List Loc) (ls : Array Slot) (cells slots : Nat), (J144 x1).1 M = some Z → hm_I D dA hCl z k1 s M H locs cells slots → lv_has ls 4 [(0, .ref h0), (1, .int x1)] → W p l e R s m args below meth c H locs cells slots Q (F0 m 144 ls []) := by
            intro x1 M H locs ls cells slots hf hI hl
            rw [eJ144] at hf
            refine lv_aload_n S.1 S.2.1 d_Scan_takeNumber_144 rfl (lv_at hl 0 rfl) ?_
            refine lv_iload_n S.1 S.2.1 d_Scan_takeNumber_145 rfl (lv_at hl 1 rfl) ?_
            refine x_put (ci := 8) (k := 3) S hK hI (fun w h => List.mem_cons_of_mem _ (i_Scan w h)) t_Scan t_Scan_ok n_Scan rfl (by decide) (List.mem_cons_of_mem _ wd_55) rfl (Or.inl rfl) (by rfl) rfl d_Scan_takeNumber_146 hf (fun M H locs hf hI => ?_)
            refine lv_iconst (v := 0) S.1 S.2.1 d_Scan_takeNumber_149 (by decide) ?_
            exact hret _ _ _ _ _ _ _ _ d_Scan_takeNumber_150 hf hI
          refine x_istore_n (lv2 := [(0, .ref h0), (1, .int x1), (2, .int x2)]) S d_Scan_takeNumber_128 rfl hl (by decide) [0, 1, 2] rfl ⟨⟨(by decide : (0 : Nat) ≠ 3), fun h => absurd (show (0 : Nat) + 1 = 3 from h) (by decide)⟩, ⟨⟨(by decide : (1 : Nat) ≠ 3), fun h => absurd (show (1 : Nat) + 1 = 3 from h) (by decide)⟩, ⟨⟨(by decide : (2 : Nat) ≠ 3), fun _ => rfl⟩, trivial⟩⟩⟩ (fun ls hl => ?_)
          refine lv_iload_n S.1 S.2.1 d_Scan_takeNumber_129 rfl (lv_at hl 3 rfl) ?_
          refine lv_iconst (v := 1) S.1 S.2.1 d_Scan_takeNumber_130 (by decide) ?_
          refine lv_icmp_lt (tgt := 144) S.1 S.2.1 d_Scan_takeNumber_131 (by decide) (fun hc => ?_) (fun hc => ?_)
          · have hf := b_if_t hc hf
            exact w144 x1 _ _ _ _ _ _ hf hI (lv_sub hl [1, 2] rfl)
          · have hf := b_if_f hc hf
            refine lv_iload_n S.1 S.2.1 d_Scan_takeNumber_134 rfl (lv_at hl 3 rfl) ?_
            refine lv_bipush (v := 6) S.1 S.2.1 d_Scan_takeNumber_135 (by decide) ?_
            refine lv_icmp_gt (tgt := 144) S.1 S.2.1 d_Scan_takeNumber_137 (by decide) (fun hc => ?_) (fun hc => ?_)
            · have hf := b_if_t hc hf
              exact w144 x1 _ _ _ _ _ _ hf hI (lv_sub hl [1, 2] rfl)
            · have hf := b_if_f hc hf
              refine lv_iload_n S.1 S.2.1 d_Scan_takeNumber_140 rfl (lv_at hl 0 rfl) ?_
              refine lv_if_eq (tgt := 151) S.1 S.2.1 d_Scan_takeNumber_141 (by decide) (fun hc => ?_) (fun hc => ?_)
              · have hf := b_if_t hc hf
                refine lv_iconst (v := 1) S.1 S.2.1 d_Scan_takeNumber_151 (by decide) ?_
                exact hret _ _ _ _ _ _ _ _ d_Scan_takeNumber_152 hf hI
              · have hf := b_if_f hc hf
                exact w144 x1 _ _ _ _ _ _ hf hI (lv_sub hl [1, 2] rfl)
        obtain ⟨J127, eJ127, hf⟩ := b_let_inv hf
        have w127 : ∀ (x1 : Int32) (x2 : Int32) (M : hM) (H : Heap) (locs : List Loc) (ls : Array Slot) (cells slots : Nat), (J127 x1 x2).1 M = some Z → hm_I D dA hCl z k1 s M H locs cells slots → lv_has ls 4 [(0, .ref h0), (1, .int x1), (2, .int x2)] → W p l e R s m args below meth c H locs cells slots Q (F0 m 127 ls []) := by
          intro x1 x2 M H locs ls cells slots hf hI hl
          rw [eJ127] at hf
          refine lv_iconst (v := 0) S.1 S.2.1 d_Scan_takeNumber_127 (by decide) ?_
          exact w128 x1 x2 0 _ _ _ _ _ _ hf hI (lv_sub hl [0, 1, 2] rfl)
        refine lv_aload_n S.1 S.2.1 d_Scan_takeNumber_100 rfl (lv_at hl 0 rfl) ?_
        refine x_getI (ci := 8) (k := 2) S hK hI (fun w h => List.mem_cons_of_mem _ (i_Scan w h)) rfl (by decide) (List.mem_cons_of_mem _ wd_54) rfl d_Scan_takeNumber_101 hf (fun v2 hf => ?_)
        refine lv_iload_n S.1 S.2.1 d_Scan_takeNumber_104 rfl (lv_at hl 1 rfl) ?_
        refine lv_isub S.1 S.2.1 d_Scan_takeNumber_105 ?_
        refine x_istore_n (lv2 := [(0, .ref h0), (1, .int x1)]) S d_Scan_takeNumber_106 rfl hl (by decide) [0, 1] rfl ⟨⟨(by decide : (0 : Nat) ≠ 2), fun h => absurd (show (0 : Nat) + 1 = 2 from h) (by decide)⟩, ⟨⟨(by decide : (1 : Nat) ≠ 2), fun _ => rfl⟩, trivial⟩⟩ (fun ls hl => ?_)
        refine lv_iload_n S.1 S.2.1 d_Scan_takeNumber_107 rfl (lv_at hl 0 rfl) ?_
        refine lv_iconst (v := 1) S.1 S.2.1 d_Scan_takeNumber_108 (by decide) ?_
        refine lv_icmp_le (tgt := 127) S.1 S.2.1 d_Scan_takeNumber_109 (by decide) (fun hc => ?_) (fun hc => ?_)
        · have hf := b_if_t hc hf
          exact w127 x1 (v2 - x1) _ _ _ _ _ _ hf hI (lv_sub hl [1, 2, 0] rfl)
        · have hf := b_if_f hc hf
          refine lv_aload_n S.1 S.2.1 d_Scan_takeNumber_112 rfl (lv_at hl 1 rfl) ?_
          refine x_getR (ci := 8) (k := 0) S hK hI (fun w h => List.mem_cons_of_mem _ (i_Scan w h)) rfl (by decide) (List.mem_cons_of_mem _ wd_12) rfl d_Scan_takeNumber_113 hf (fun r3 hf => ?_)
          refine lv_iload_n S.1 S.2.1 d_Scan_takeNumber_116 rfl (lv_at hl 2 rfl) ?_
          obtain ⟨a4, ea4, hg⟩ := b_nn_inv hf
          have hI0 := hI
          have hl0 := hl
          clear hf hI hl
          subst ea4
          have hf := hg
          have hI := hI0
          have hl := hl0
          clear hg hI0 hl0
          refine x_cald (t := 0) S hK hI rfl d_Scan_takeNumber_117 hf (fun v5 hf => ?_)
          refine lv_bipush (v := 48) S.1 S.2.1 d_Scan_takeNumber_118 (by decide) ?_
          refine lv_icmp_ne (tgt := 127) S.1 S.2.1 d_Scan_takeNumber_120 (by decide) (fun hc => ?_) (fun hc => ?_)
          · have hf := b_if_f hc hf
            exact w127 x1 (v2 - x1) _ _ _ _ _ _ hf hI (lv_sub hl [1, 2, 0] rfl)
          · have hf := b_if_t hc hf
            refine lv_iconst (v := 1) S.1 S.2.1 d_Scan_takeNumber_123 (by decide) ?_
            refine lv_goto (tgt := 128) S.1 S.2.1 d_Scan_takeNumber_124 (by decide) ?_
            exact w128 x1 (v2 - x1) 1 _ _ _ _ _ _ hf hI (lv_sub hl [1, 2, 0] rfl)
      refine lv_aload_n S.1 S.2.1 d_Scan_takeNumber_10 rfl (lv_at hl 0 rfl) ?_
      refine x_getI (ci := 8) (k := 2) S hK hI (fun w h => List.mem_cons_of_mem _ (i_Scan w h)) rfl (by decide) (List.mem_cons_of_mem _ wd_54) rfl d_Scan_takeNumber_11 hf (fun v6 hf => ?_)
      refine lv_aload_n S.1 S.2.1 d_Scan_takeNumber_14 rfl (lv_at hl 0 rfl) ?_
      refine x_getI (ci := 8) (k := 1) S hK hI (fun w h => List.mem_cons_of_mem _ (i_Scan w h)) rfl (by decide) (List.mem_cons_of_mem _ wd_49) rfl d_Scan_takeNumber_15 hf (fun v7 hf => ?_)
      refine lv_icmp_ge (tgt := 100) S.1 S.2.1 d_Scan_takeNumber_18 (by decide) (fun hc => ?_) (fun hc => ?_)
      · have hf := b_if_t hc hf
        exact w100 x1 _ _ _ _ _ _ hf hI (lv_sub hl [0, 1] rfl)
      · have hf := b_if_f hc hf
        refine lv_aload_n S.1 S.2.1 d_Scan_takeNumber_21 rfl (lv_at hl 0 rfl) ?_
        refine x_getR (ci := 8) (k := 0) S hK hI (fun w h => List.mem_cons_of_mem _ (i_Scan w h)) rfl (by decide) (List.mem_cons_of_mem _ wd_12) rfl d_Scan_takeNumber_22 hf (fun r8 hf => ?_)
        refine lv_aload_n S.1 S.2.1 d_Scan_takeNumber_25 rfl (lv_at hl 0 rfl) ?_
        refine x_getI (ci := 8) (k := 2) S hK hI (fun w h => List.mem_cons_of_mem _ (i_Scan w h)) rfl (by decide) (List.mem_cons_of_mem _ wd_54) rfl d_Scan_takeNumber_26 hf (fun v9 hf => ?_)
        obtain ⟨a10, ea10, hg⟩ := b_nn_inv hf
        have hI0 := hI
        have hl0 := hl
        clear hf hI hl
        subst ea10
        have hf := hg
        have hI := hI0
        have hl := hl0
        clear hg hI0 hl0
        refine x_cald (t := 0) S hK hI rfl d_Scan_takeNumber_29 hf (fun v11 hf => ?_)
        refine lv_bipush (v := 48) S.1 S.2.1 d_Scan_takeNumber_30 (by decide) ?_
        refine lv_icmp_lt (tgt := 100) S.1 S.2.1 d_Scan_takeNumber_32 (by decide) (fun hc => ?_) (fun hc => ?_)
        · have hf := b_if_t hc hf
          exact w100 x1 _ _ _ _ _ _ hf hI (lv_sub hl [0, 1] rfl)
        · have hf := b_if_f hc hf
          refine lv_aload_n S.1 S.2.1 d_Scan_takeNumber_35 rfl (lv_at hl 0 rfl) ?_
          refine x_getR (ci := 8) (k := 0) S hK hI (fun w h => List.mem_cons_of_mem _ (i_Scan w h)) rfl (by decide) (List.mem_cons_of_mem _ wd_12) rfl d_Scan_takeNumber_36 hf (fun r12 hf => ?_)
          refine lv_aload_n S.1 S.2.1 d_Scan_takeNumber_39 rfl (lv_at hl 0 rfl) ?_
          refine x_getI (ci := 8) (k := 2) S hK hI (fun w h => List.mem_cons_of_mem _ (i_Scan w h)) rfl (by decide) (List.mem_cons_of_mem _ wd_54) rfl d_Scan_takeNumber_40 hf (fun v13 hf => ?_)
          obtain ⟨a14, ea14, hg⟩ := b_nn_inv hf
          have hI0 := hI
          have hl0 := hl
          clear hf hI hl
          subst ea14
          have hf := hg
          have hI := hI0
          have hl := hl0
          clear hg hI0 hl0
          refine x_cald (t := 0) S hK hI rfl d_Scan_takeNumber_43 hf (fun v15 hf => ?_)
          refine lv_bipush (v := 57) S.1 S.2.1 d_Scan_takeNumber_44 (by decide) ?_
          refine lv_icmp_gt (tgt := 100) S.1 S.2.1 d_Scan_takeNumber_46 (by decide) (fun hc => ?_) (fun hc => ?_)
          · have hf := b_if_t hc hf
            exact w100 x1 _ _ _ _ _ _ hf hI (lv_sub hl [0, 1] rfl)
          · have hf := b_if_f hc hf
            refine lv_aload_n S.1 S.2.1 d_Scan_takeNumber_49 rfl (lv_at hl 0 rfl) ?_
            refine x_getI (ci := 8) (k := 2) S hK hI (fun w h => List.mem_cons_of_mem _ (i_Scan w h)) rfl (by decide) (List.mem_cons_of_mem _ wd_54) rfl d_Scan_takeNumber_50 hf (fun v16 hf => ?_)
            refine lv_iload_n S.1 S.2.1 d_Scan_takeNumber_53 rfl (lv_at hl 1 rfl) ?_
            refine lv_isub S.1 S.2.1 d_Scan_takeNumber_54 ?_
            refine lv_bipush (v := 6) S.1 S.2.1 d_Scan_takeNumber_55 (by decide) ?_
            refine lv_icmp_ge (tgt := 87) S.1 S.2.1 d_Scan_takeNumber_57 (by decide) (fun hc => ?_) (fun hc => ?_)
            · have hf := b_if_t hc hf
              exact w87 x1 _ _ _ _ _ _ hf hI (lv_sub hl [0, 1] rfl)
            · have hf := b_if_f hc hf
              refine lv_aload_n S.1 S.2.1 d_Scan_takeNumber_60 rfl (lv_at hl 0 rfl) ?_
              refine lv_aload_n S.1 S.2.1 d_Scan_takeNumber_61 rfl (lv_at hl 0 rfl) ?_
              refine x_getL (ci := 8) (k := 6) S hK hI (fun w h => List.mem_cons_of_mem _ (i_Scan w h)) rfl (by decide) (List.mem_cons_of_mem _ wd_135) rfl d_Scan_takeNumber_62 hf (fun v17 hf => ?_)
              refine lv_ldc2 (v := 10) S.1 S.2.1 S.2.2.2.1 (S.2.2.2.2 _ (List.mem_cons_of_mem _ wd_136)) d_Scan_takeNumber_65 ?_
              refine lv_lmul S.1 S.2.1 d_Scan_takeNumber_68 ?_
              refine lv_aload_n S.1 S.2.1 d_Scan_takeNumber_69 rfl (lv_at hl 0 rfl) ?_
              refine x_getR (ci := 8) (k := 0) S hK hI (fun w h => List.mem_cons_of_mem _ (i_Scan w h)) rfl (by decide) (List.mem_cons_of_mem _ wd_12) rfl d_Scan_takeNumber_70 hf (fun r18 hf => ?_)
              refine lv_aload_n S.1 S.2.1 d_Scan_takeNumber_73 rfl (lv_at hl 0 rfl) ?_
              refine x_getI (ci := 8) (k := 2) S hK hI (fun w h => List.mem_cons_of_mem _ (i_Scan w h)) rfl (by decide) (List.mem_cons_of_mem _ wd_54) rfl d_Scan_takeNumber_74 hf (fun v19 hf => ?_)
              obtain ⟨a20, ea20, hg⟩ := b_nn_inv hf
              have hI0 := hI
              have hl0 := hl
              clear hf hI hl
              subst ea20
              have hf := hg
              have hI := hI0
              have hl := hl0
              clear hg hI0 hl0
              refine x_cald (t := 0) S hK hI rfl d_Scan_takeNumber_77 hf (fun v21 hf => ?_)
              refine lv_i2l S.1 S.2.1 d_Scan_takeNumber_78 rfl ?_
              refine lv_ladd S.1 S.2.1 d_Scan_takeNumber_79 ?_
              refine lv_ldc2 (v := 48) S.1 S.2.1 S.2.2.2.1 (S.2.2.2.2 _ (List.mem_cons_of_mem _ wd_137)) d_Scan_takeNumber_80 ?_
              refine lv_lsub S.1 S.2.1 d_Scan_takeNumber_83 ?_
              refine x_put (ci := 8) (k := 6) S hK hI (fun w h => List.mem_cons_of_mem _ (i_Scan w h)) t_Scan t_Scan_ok n_Scan rfl (by decide) (List.mem_cons_of_mem _ wd_135) rfl (Or.inl rfl) (by rfl) rfl d_Scan_takeNumber_84 hf (fun M H locs hf hI => ?_)
              exact w87 x1 _ _ _ _ _ _ hf hI (lv_sub hl [0, 1] rfl)
  refine lv_aload_n S.1 S.2.1 d_Scan_takeNumber_0 rfl (lv_at hl 0 rfl) ?_
  refine x_getI (ci := 8) (k := 2) S hK hI (fun w h => List.mem_cons_of_mem _ (i_Scan w h)) rfl (by decide) (List.mem_cons_of_mem _ wd_54) rfl d_Scan_takeNumber_1 hf (fun v22 hf => ?_)
  refine x_istore_n (lv2 := [(0, .ref h0)]) S d_Scan_takeNumber_4 rfl hl (by decide) [0] rfl ⟨⟨(by decide : (0 : Nat) ≠ 1), fun _ => rfl⟩, trivial⟩ (fun ls hl => ?_)
  refine lv_aload_n S.1 S.2.1 d_Scan_takeNumber_5 rfl (lv_at hl 1 rfl) ?_
  refine lv_lconst (v := 0) S.1 S.2.1 d_Scan_takeNumber_6 (by decide) ?_
  refine x_put (ci := 8) (k := 6) S hK hI (fun w h => List.mem_cons_of_mem _ (i_Scan w h)) t_Scan t_Scan_ok n_Scan rfl (by decide) (List.mem_cons_of_mem _ wd_135) rfl (Or.inl rfl) (by rfl) rfl d_Scan_takeNumber_7 hf (fun M H locs hf hI => ?_)
  exact w10 N v22 _ _ _ _ _ _ hf hI (lv_sub hl [1, 0] rfl)
set_option maxHeartbeats 4000000 in
set_option maxRecDepth 100000 in
theorem c_Scan_takeVersion (l : Launch) {D : va_G} {dA : Nat → ClassId} {aK aV : Nat → Nat} {z : Nat} {N : Nat} {h0 : Nat} {M : hM} {Z : Int32 × hM} (hf : (f_Scan_takeVersion N h0 ).1 M = some Z) : Met l y_Scan_takeVersion w_Scan_takeVersion ({ frames := 1, cells := Z.2.2.1 - M.2.1, slots := Z.2.2.2 - M.2.2, locals := 23 }) (va_Pc [.ref h0] (hm_B D dA hCl (hTy dA) sT aK aV z M)) (hm_Q D dA hCl (hTy dA) sT aK aV z (some (.int Z.1)) Z.2) (Z.2.2.1 - M.2.1) (Z.2.2.2 - M.2.2) (fun q => z ≤ q) := by
  refine Met.ofW (cc := b_Scan_takeVersion) (maxL := 5) (ret := (some .boolean)) (by decide) rfl ?_
  intro p e s m args below meth c s₁ B hml hv
  obtain ⟨hav, hB⟩ := hv
  have S : CallFix p m c b_Scan_takeVersion 5 s args w_Scan_takeVersion R_Scan := ⟨B.exec, B.bytes, hml, findClass_of_methodNamed B.named, atoms_spec (ws := w_Scan_takeVersion) B.pre⟩
  have hr : meth.sig.returnType = (some .boolean) := B.returns
  have hlocks := B.notSynchronized
  have hK := hB.2.2.1
  have hG := hB.2.2.2.2.2
  have hI := hm_I.start hB
  rw [← hB.2.1]
  generalize M.2.2 = k1 at hI ⊢
  refine W.eq (g2 := F0 m 0 ((lg_sl ([.ref h0]) ++ List.replicate (5 - (lg_sl ([.ref h0])).length) Slot.unset).toArray) []) (by rw [hav]; exact lg_entry_eq m ([.ref h0]) 5) ?_
  have hl := lv_entry ([.ref h0]) (n := 5) (Nat.le_of_ble_eq_true rfl)
  generalize (lg_sl ([.ref h0]) ++ List.replicate (5 - (lg_sl ([.ref h0])).length) Slot.unset).toArray = ls at hl ⊢
  simp only [lvA_nil, lvA_i, lvA_l, lvA_a, lvA_r, Nat.zero_add, Nat.reduceAdd] at hl
  have hret : ∀ (v : Int32) (M : hM) (H : Heap) (locs : List Loc) (cells slots : Nat) (ls : Array Slot) (pc : Nat), decode b_Scan_takeVersion pc = .ok (.ireturn, 1) → (b_retN .boolean v).1 M = some Z → hm_I D dA hCl z k1 s M H locs cells slots → W p l e (headSpec w_Scan_takeVersion { frames := 1, cells := Z.2.2.1 - s.heap.size, slots := Z.2.2.2 - k1, locals := 23 }).room s m args below meth c H locs cells slots (MQ below (hm_Q D dA hCl (hTy dA) sT aK aV z (some (.int Z.1)) Z.2) args s (Z.2.2.1 - s.heap.size) (Z.2.2.2 - k1) (fun q => z ≤ q)) (F0 m pc ls [.int v]) := fun v M H locs cells slots ls pc hdg hf hI => x_retn S hK hG hI hr hlocks hdg hf
  have hR : Z.2.2.1 - s.heap.size ≤ (headSpec w_Scan_takeVersion { frames := 1, cells := Z.2.2.1 - s.heap.size, slots := Z.2.2.2 - k1, locals := 23 }).room.cells ∧ Z.2.2.2 - k1 ≤ (headSpec w_Scan_takeVersion { frames := 1, cells := Z.2.2.1 - s.heap.size, slots := Z.2.2.2 - k1, locals := 23 }).room.slots := ⟨Nat.le_refl _, Nat.le_refl _⟩
  have hRf : 1 ≤ (headSpec w_Scan_takeVersion { frames := 1, cells := Z.2.2.1 - s.heap.size, slots := Z.2.2.2 - k1, locals := 23 }).room.frames ∧ 23 ≤ (headSpec w_Scan_takeVersion { frames := 1, cells := Z.2.2.1 - s.heap.size, slots := Z.2.2.2 - k1, locals := 23 }).room.locals := ⟨Nat.le_refl _, Nat.le_refl _⟩
  generalize (headSpec w_Scan_takeVersion { frames := 1, cells := Z.2.2.1 - s.heap.size, slots := Z.2.2.2 - k1, locals := 23 }).room = R at hret hR hRf ⊢
  generalize (MQ below (hm_Q D dA hCl (hTy dA) sT aK aV z (some (.int Z.1)) Z.2) args s (Z.2.2.1 - s.heap.size) (Z.2.2.2 - k1) (fun q => z ≤ q)) = Q at hret ⊢
  rw [e_Scan_takeVersion] at hf
  have w20 : ∀ (n : Nat) (x1 : Int64) (x3 : Int32) (M : hM) (H : Heap) (locs : List Loc) (ls : Array Slot) (cells slots : Nat), (f_Scan_takeVersion_20 N h0  n x1 x3).1 M = some Z → hm_I D dA hCl z k1 s M H locs cells slots → lv_has ls 5 [(0, .ref h0), (1, .long x1), (3, .int x3)] → W p l e R s m args below meth c H locs cells slots Q (F0 m 20 ls []) := by
    intro n
    induction n with
    | zero => intro x1 x3 M H locs ls cells slots hf hI hl; cases hf
    | succ n20 ih20 =>
      intro x1 x3 M H locs ls cells slots hf hI hl
      rw [e_Scan_takeVersion_20] at hf
      obtain ⟨J39, eJ39, hf⟩ := b_let_inv hf
      have w39 : ∀ (x1 : Int64) (x3 : Int32) (y0 : Int32) (M : hM) (H : Heap) (locs : List Loc) (ls : Array Slot) (cells slots : Nat), (J39 x1 x3 y0).1 M = some Z → hm_I D dA hCl z k1 s M H locs cells slots → lv_has ls 5 [(0, .ref h0), (1, .long x1), (3, .int x3)] → W p l e R s m args below meth c H locs cells slots Q (F0 m 39 ls [.int y0]) := by
        intro x1 x3 y0 M H locs ls cells slots hf hI hl
        rw [eJ39] at hf
        obtain ⟨J56, eJ56, hf⟩ := b_let_inv hf
        have w56 : ∀ (x1 : Int64) (x3 : Int32) (x4 : Int32) (M : hM) (H : Heap) (locs : List Loc) (ls : Array Slot) (cells slots : Nat), (J56 x1 x3 x4).1 M = some Z → hm_I D dA hCl z k1 s M H locs cells slots → lv_has ls 5 [(0, .ref h0), (1, .long x1), (3, .int x3), (4, .int x4)] → W p l e R s m args below meth c H locs cells slots Q (F0 m 56 ls []) := by
          intro x1 x3 x4 M H locs ls cells slots hf hI hl
          rw [eJ56] at hf
          obtain ⟨J71, eJ71, hf⟩ := b_let_inv hf
          have w71 : ∀  (M : hM) (H : Heap) (locs : List Loc) (ls : Array Slot) (cells slots : Nat), (J71).1 M = some Z → hm_I D dA hCl z k1 s M H locs cells slots → lv_has ls 5 [(0, .ref h0)] → W p l e R s m args below meth c H locs cells slots Q (F0 m 71 ls []) := by
            intro M H locs ls cells slots hf hI hl
            rw [eJ71] at hf
            refine lv_aload_n S.1 S.2.1 d_Scan_takeVersion_71 rfl (lv_at hl 0 rfl) ?_
            obtain ⟨⟨fs4, hefs4⟩, hf⟩ := b_is_inv hf
            obtain ⟨r1, N2, hg3, hf⟩ := b_call_inv hf
            refine x_call hI (hm_mo hg3) (va_runV (As := []) (rest := []) S (c_Scan_skipBlanks l hg3) (cwV 0 S.2.2.2.2 (gi_V wd_89 wd_90 wd_91 wd_9 wd_92) rfl rfl rfl (by decide +kernel) ⟨Nat.le_trans (Nat.le_of_ble_eq_true rfl) hRf.1, Nat.le_trans (Nat.le_of_ble_eq_true rfl) hRf.2⟩) ⟨hm_B.blind, va_recv hK (hI.1.one hefs4) (ci := 8) (q0 := 0) rfl rfl, fun U hU hW => ⟨rfl, hm_B.of hK hG hI hU hW⟩⟩ rfl rfl hl.1 rfl (lv_room (Nat.le_of_ble_eq_true rfl)) d_Scan_takeVersion_72 (hx_fit hI hR (hm_mo hg3) (hm_mo hf))) (fun H locs cells slots hI => ?_)
            refine W.eq (g2 := F0 m 75 ls []) rfl ?_
            refine lv_aload_n S.1 S.2.1 d_Scan_takeVersion_75 rfl (lv_at hl 0 rfl) ?_
            refine lv_aload_n S.1 S.2.1 d_Scan_takeVersion_76 rfl (lv_at hl 0 rfl) ?_
            refine x_getI (ci := 8) (k := 2) S hK hI (fun w h => List.mem_cons_of_mem _ (i_Scan w h)) rfl (by decide) (List.mem_cons_of_mem _ wd_54) rfl d_Scan_takeVersion_77 hf (fun v5 hf => ?_)
            obtain ⟨⟨fs9, hefs9⟩, hf⟩ := b_is_inv hf
            obtain ⟨v6, N7, hg8, hf⟩ := b_call_inv hf
            refine x_call hI (hm_mo hg8) (va_runV (As := [.int v5]) (rest := []) S (c_Scan_refuse l hg8) (cwV 1 S.2.2.2.2 (gi_V wd_98 wd_82 wd_83 wd_9 wd_84) rfl rfl rfl (by decide +kernel) ⟨Nat.le_trans (Nat.le_of_ble_eq_true rfl) hRf.1, Nat.le_trans (Nat.le_of_ble_eq_true rfl) hRf.2⟩) ⟨hm_B.blind, va_recv hK (hI.1.one hefs9) (ci := 8) (q0 := 0) rfl rfl, fun U hU hW => ⟨rfl, hm_B.of hK hG hI hU hW⟩⟩ rfl rfl hl.1 rfl (lv_room (Nat.le_of_ble_eq_true rfl)) d_Scan_takeVersion_80 (hx_fit hI hR (hm_mo hg8) (hm_mo hf))) (fun H locs cells slots hI => ?_)
            refine W.eq (g2 := F0 m 83 ls [.int v6]) rfl ?_
            exact hret _ _ _ _ _ _ _ _ d_Scan_takeVersion_83 hf hI
          refine lv_iload S.1 S.2.1 d_Scan_takeVersion_56 (lv_at hl 3 rfl) ?_
          refine lv_if_eq (tgt := 71) S.1 S.2.1 d_Scan_takeVersion_58 (by decide) (fun hc => ?_) (fun hc => ?_)
          · have hf := b_if_t hc hf
            exact w71  _ _ _ _ _ _ hf hI (lv_sub hl [0] rfl)
          · have hf := b_if_f hc hf
            refine lv_aload_n S.1 S.2.1 d_Scan_takeVersion_61 rfl (lv_at hl 0 rfl) ?_
            obtain ⟨⟨fs13, hefs13⟩, hf⟩ := b_is_inv hf
            obtain ⟨v10, N11, hg12, hf⟩ := b_call_inv hf
            refine x_call hI (hm_mo hg12) (va_runV (As := []) (rest := []) S (c_Scan_signHere l hg12) (cwV 0 S.2.2.2.2 (gi_V wd_108 wd_109 wd_110 wd_9 wd_111) rfl rfl rfl (by decide +kernel) ⟨Nat.le_trans (Nat.le_of_ble_eq_true rfl) hRf.1, Nat.le_trans (Nat.le_of_ble_eq_true rfl) hRf.2⟩) ⟨hm_B.blind, va_recv hK (hI.1.one hefs13) (ci := 8) (q0 := 0) rfl rfl, fun U hU hW => ⟨rfl, hm_B.of hK hG hI hU hW⟩⟩ rfl rfl hl.1 rfl (lv_room (Nat.le_of_ble_eq_true rfl)) d_Scan_takeVersion_62 (hx_fit hI hR (hm_mo hg12) (hm_mo hf))) (fun H locs cells slots hI => ?_)
            refine W.eq (g2 := F0 m 65 ls [.int v10]) rfl ?_
            obtain ⟨v14, N15, hg16, hf⟩ := b_call_inv hf
            refine x_call hI (hm_mo hg16) (va_runS (As := [.int v10]) (rest := []) S (c_Scan_isDigit l hg16) (va_cwS 1 S.2.2.2.2 (gi_S wd_102 wd_103 wd_9 wd_104) rfl rfl rfl (by decide +kernel) ⟨Nat.le_trans (Nat.le_of_ble_eq_true rfl) hRf.1, Nat.le_trans (Nat.le_of_ble_eq_true rfl) hRf.2⟩) ⟨hm_B.blind, fun U hU hW => ⟨rfl, hm_B.of hK hG hI hU hW⟩⟩ rfl rfl hl.1 rfl (lv_room (Nat.le_of_ble_eq_true rfl)) d_Scan_takeVersion_65 (hx_fit hI hR (hm_mo hg16) (hm_mo hf))) (fun H locs cells slots hI => ?_)
            refine W.eq (g2 := F0 m 68 ls [.int v14]) rfl ?_
            refine lv_if_ne (tgt := 84) S.1 S.2.1 d_Scan_takeVersion_68 (by decide) (fun hc => ?_) (fun hc => ?_)
            · have hf := b_if_f hc hf
              refine lv_aload_n S.1 S.2.1 d_Scan_takeVersion_84 rfl (lv_at hl 0 rfl) ?_
              obtain ⟨⟨fs20, hefs20⟩, hf⟩ := b_is_inv hf
              obtain ⟨v17, N18, hg19, hf⟩ := b_call_inv hf
              refine x_call hI (hm_mo hg19) (va_runV (As := []) (rest := []) S (c_Scan_takeNumber l hg19) (cwV 0 S.2.2.2.2 (gi_V wd_138 wd_139 wd_140 wd_9 wd_141) rfl rfl rfl (by decide +kernel) ⟨Nat.le_trans (Nat.le_of_ble_eq_true rfl) hRf.1, Nat.le_trans (Nat.le_of_ble_eq_true rfl) hRf.2⟩) ⟨hm_B.blind, va_recv hK (hI.1.one hefs20) (ci := 8) (q0 := 0) rfl rfl, fun U hU hW => ⟨rfl, hm_B.of hK hG hI hU hW⟩⟩ rfl rfl hl.1 rfl (lv_room (Nat.le_of_ble_eq_true rfl)) d_Scan_takeVersion_85 (hx_fit hI hR (hm_mo hg19) (hm_mo hf))) (fun H locs cells slots hI => ?_)
              refine W.eq (g2 := F0 m 88 ls [.int v17]) rfl ?_
              refine lv_if_ne (tgt := 93) S.1 S.2.1 d_Scan_takeVersion_88 (by decide) (fun hc => ?_) (fun hc => ?_)
              · have hf := b_if_f hc hf
                refine lv_lload_n S.1 S.2.1 d_Scan_takeVersion_93 rfl (lv_at hl 1 rfl) ?_
                refine lv_ldc2 (v := 1000000) S.1 S.2.1 S.2.2.2.1 (S.2.2.2.2 _ (List.mem_cons_of_mem _ wd_142)) d_Scan_takeVersion_94 ?_
                refine lv_lmul S.1 S.2.1 d_Scan_takeVersion_97 ?_
                refine lv_aload_n S.1 S.2.1 d_Scan_takeVersion_98 rfl (lv_at hl 0 rfl) ?_
                refine x_getL (ci := 8) (k := 6) S hK hI (fun w h => List.mem_cons_of_mem _ (i_Scan w h)) rfl (by decide) (List.mem_cons_of_mem _ wd_135) rfl d_Scan_takeVersion_99 hf (fun v21 hf => ?_)
                refine lv_ladd S.1 S.2.1 d_Scan_takeVersion_102 ?_
                refine x_lstore_n (lv2 := [(0, .ref h0), (3, .int x3), (4, .int x4)]) S d_Scan_takeVersion_103 rfl hl (by decide) [0, 2, 3] rfl ⟨⟨(by decide : (0 : Nat) ≠ 1), (by decide : (0 : Nat) ≠ 1 + 1), fun _ => rfl⟩, ⟨⟨(by decide : (3 : Nat) ≠ 1), (by decide : (3 : Nat) ≠ 1 + 1), fun h => absurd (show (3 : Nat) + 1 = 1 from h) (by decide)⟩, ⟨⟨(by decide : (4 : Nat) ≠ 1), (by decide : (4 : Nat) ≠ 1 + 1), fun h => absurd (show (4 : Nat) + 1 = 1 from h) (by decide)⟩, trivial⟩⟩⟩ (fun ls hl => ?_)
                refine x_iinc (v := 1) (lv2 := [(1, .long ((x1 * 1000000) + v21)), (0, .ref h0), (4, .int x4)]) S d_Scan_takeVersion_104 hl 2 rfl (by decide) (by decide) [0, 1, 3] rfl ⟨⟨(by decide : (1 : Nat) ≠ 3), fun h => absurd (show (1 : Nat) + 1 = 3 from h) (by decide)⟩, ⟨⟨(by decide : (0 : Nat) ≠ 3), fun h => absurd (show (0 : Nat) + 1 = 3 from h) (by decide)⟩, ⟨⟨(by decide : (4 : Nat) ≠ 3), fun h => absurd (show (4 : Nat) + 1 = 3 from h) (by decide)⟩, trivial⟩⟩⟩ (fun ls hl => ?_)
                refine lv_goto (tgt := 20) S.1 S.2.1 d_Scan_takeVersion_107 (by decide) ?_
                exact ih20 ((x1 * 1000000) + v21) (x3 + 1) _ _ _ _ _ _ hf hI (lv_sub hl [2, 1, 0] rfl)
              · have hf := b_if_t hc hf
                refine lv_iconst (v := 0) S.1 S.2.1 d_Scan_takeVersion_91 (by decide) ?_
                exact hret _ _ _ _ _ _ _ _ d_Scan_takeVersion_92 hf hI
            · have hf := b_if_t hc hf
              exact w71  _ _ _ _ _ _ hf hI (lv_sub hl [0] rfl)
        refine x_istore (lv2 := [(0, .ref h0), (1, .long x1), (3, .int x3)]) S d_Scan_takeVersion_39 hl (by decide) [0, 1, 2] rfl ⟨⟨(by decide : (0 : Nat) ≠ 4), fun h => absurd (show (0 : Nat) + 1 = 4 from h) (by decide)⟩, ⟨⟨(by decide : (1 : Nat) ≠ 4), fun h => absurd (show (1 : Nat) + 1 = 4 from h) (by decide)⟩, ⟨⟨(by decide : (3 : Nat) ≠ 4), fun _ => rfl⟩, trivial⟩⟩⟩ (fun ls hl => ?_)
        refine lv_iload S.1 S.2.1 d_Scan_takeVersion_41 (lv_at hl 0 rfl) ?_
        refine lv_if_eq (tgt := 56) S.1 S.2.1 d_Scan_takeVersion_43 (by decide) (fun hc => ?_) (fun hc => ?_)
        · have hf := b_if_t hc hf
          exact w56 x1 x3 y0 _ _ _ _ _ _ hf hI (lv_sub hl [1, 2, 3, 0] rfl)
        · have hf := b_if_f hc hf
          refine lv_aload_n S.1 S.2.1 d_Scan_takeVersion_46 rfl (lv_at hl 1 rfl) ?_
          refine lv_dup S.1 S.2.1 d_Scan_takeVersion_47 rfl ?_
          refine x_getI (ci := 8) (k := 2) S hK hI (fun w h => List.mem_cons_of_mem _ (i_Scan w h)) rfl (by decide) (List.mem_cons_of_mem _ wd_54) rfl d_Scan_takeVersion_48 hf (fun v22 hf => ?_)
          refine lv_iconst (v := 1) S.1 S.2.1 d_Scan_takeVersion_51 (by decide) ?_
          refine lv_iadd S.1 S.2.1 d_Scan_takeVersion_52 ?_
          refine x_put (ci := 8) (k := 2) S hK hI (fun w h => List.mem_cons_of_mem _ (i_Scan w h)) t_Scan t_Scan_ok n_Scan rfl (by decide) (List.mem_cons_of_mem _ wd_54) rfl (Or.inl rfl) (by rfl) rfl d_Scan_takeVersion_53 hf (fun M H locs hf hI => ?_)
          exact w56 x1 x3 y0 _ _ _ _ _ _ hf hI (lv_sub hl [1, 2, 3, 0] rfl)
      refine lv_iload_n S.1 S.2.1 d_Scan_takeVersion_20 rfl (lv_at hl 2 rfl) ?_
      refine lv_iconst (v := 3) S.1 S.2.1 d_Scan_takeVersion_21 (by decide) ?_
      refine lv_icmp_ge (tgt := 110) S.1 S.2.1 d_Scan_takeVersion_22 (by decide) (fun hc => ?_) (fun hc => ?_)
      · have hf := b_if_t hc hf
        refine lv_aload_n S.1 S.2.1 d_Scan_takeVersion_110 rfl (lv_at hl 0 rfl) ?_
        refine lv_lload_n S.1 S.2.1 d_Scan_takeVersion_111 rfl (lv_at hl 1 rfl) ?_
        refine x_put (ci := 8) (k := 6) S hK hI (fun w h => List.mem_cons_of_mem _ (i_Scan w h)) t_Scan t_Scan_ok n_Scan rfl (by decide) (List.mem_cons_of_mem _ wd_135) rfl (Or.inl rfl) (by rfl) rfl d_Scan_takeVersion_112 hf (fun M H locs hf hI => ?_)
        refine lv_iconst (v := 1) S.1 S.2.1 d_Scan_takeVersion_115 (by decide) ?_
        exact hret _ _ _ _ _ _ _ _ d_Scan_takeVersion_116 hf hI
      · have hf := b_if_f hc hf
        refine lv_aload_n S.1 S.2.1 d_Scan_takeVersion_25 rfl (lv_at hl 0 rfl) ?_
        obtain ⟨⟨fs26, hefs26⟩, hf⟩ := b_is_inv hf
        obtain ⟨v23, N24, hg25, hf⟩ := b_call_inv hf
        refine x_call hI (hm_mo hg25) (va_runV (As := []) (rest := []) S (c_Scan_signHere l hg25) (cwV 0 S.2.2.2.2 (gi_V wd_108 wd_109 wd_110 wd_9 wd_111) rfl rfl rfl (by decide +kernel) ⟨Nat.le_trans (Nat.le_of_ble_eq_true rfl) hRf.1, Nat.le_trans (Nat.le_of_ble_eq_true rfl) hRf.2⟩) ⟨hm_B.blind, va_recv hK (hI.1.one hefs26) (ci := 8) (q0 := 0) rfl rfl, fun U hU hW => ⟨rfl, hm_B.of hK hG hI hU hW⟩⟩ rfl rfl hl.1 rfl (lv_room (Nat.le_of_ble_eq_true rfl)) d_Scan_takeVersion_26 (hx_fit hI hR (hm_mo hg25) (hm_mo hf))) (fun H locs cells slots hI => ?_)
        refine W.eq (g2 := F0 m 29 ls [.int v23]) rfl ?_
        refine lv_bipush (v := 46) S.1 S.2.1 d_Scan_takeVersion_29 (by decide) ?_
        refine lv_icmp_ne (tgt := 38) S.1 S.2.1 d_Scan_takeVersion_31 (by decide) (fun hc => ?_) (fun hc => ?_)
        · have hf := b_if_f hc hf
          refine lv_iconst (v := 0) S.1 S.2.1 d_Scan_takeVersion_38 (by decide) ?_
          exact w39 x1 x3 0 _ _ _ _ _ _ hf hI (lv_sub hl [0, 1, 2] rfl)
        · have hf := b_if_t hc hf
          refine lv_iconst (v := 1) S.1 S.2.1 d_Scan_takeVersion_34 (by decide) ?_
          refine lv_goto (tgt := 39) S.1 S.2.1 d_Scan_takeVersion_35 (by decide) ?_
          exact w39 x1 x3 1 _ _ _ _ _ _ hf hI (lv_sub hl [0, 1, 2] rfl)
  refine lv_aload_n S.1 S.2.1 d_Scan_takeVersion_0 rfl (lv_at hl 0 rfl) ?_
  obtain ⟨⟨fs30, hefs30⟩, hf⟩ := b_is_inv hf
  obtain ⟨r27, N28, hg29, hf⟩ := b_call_inv hf
  refine x_call hI (hm_mo hg29) (va_runV (As := []) (rest := []) S (c_Scan_skipBlanks l hg29) (cwV 0 S.2.2.2.2 (gi_V wd_89 wd_90 wd_91 wd_9 wd_92) rfl rfl rfl (by decide +kernel) ⟨Nat.le_trans (Nat.le_of_ble_eq_true rfl) hRf.1, Nat.le_trans (Nat.le_of_ble_eq_true rfl) hRf.2⟩) ⟨hm_B.blind, va_recv hK (hI.1.one hefs30) (ci := 8) (q0 := 0) rfl rfl, fun U hU hW => ⟨rfl, hm_B.of hK hG hI hU hW⟩⟩ rfl rfl hl.1 rfl (lv_room (Nat.le_of_ble_eq_true rfl)) d_Scan_takeVersion_1 (hx_fit hI hR (hm_mo hg29) (hm_mo hf))) (fun H locs cells slots hI => ?_)
  refine W.eq (g2 := F0 m 4 ls []) rfl ?_
  refine lv_aload_n S.1 S.2.1 d_Scan_takeVersion_4 rfl (lv_at hl 0 rfl) ?_
  obtain ⟨⟨fs34, hefs34⟩, hf⟩ := b_is_inv hf
  obtain ⟨v31, N32, hg33, hf⟩ := b_call_inv hf
  refine x_call hI (hm_mo hg33) (va_runV (As := []) (rest := []) S (c_Scan_takeNumber l hg33) (cwV 0 S.2.2.2.2 (gi_V wd_138 wd_139 wd_140 wd_9 wd_141) rfl rfl rfl (by decide +kernel) ⟨Nat.le_trans (Nat.le_of_ble_eq_true rfl) hRf.1, Nat.le_trans (Nat.le_of_ble_eq_true rfl) hRf.2⟩) ⟨hm_B.blind, va_recv hK (hI.1.one hefs34) (ci := 8) (q0 := 0) rfl rfl, fun U hU hW => ⟨rfl, hm_B.of hK hG hI hU hW⟩⟩ rfl rfl hl.1 rfl (lv_room (Nat.le_of_ble_eq_true rfl)) d_Scan_takeVersion_5 (hx_fit hI hR (hm_mo hg33) (hm_mo hf))) (fun H locs cells slots hI => ?_)
  refine W.eq (g2 := F0 m 8 ls [.int v31]) rfl ?_
  refine lv_if_ne (tgt := 13) S.1 S.2.1 d_Scan_takeVersion_8 (by decide) (fun hc => ?_) (fun hc => ?_)
  · have hf := b_if_f hc hf
    refine lv_aload_n S.1 S.2.1 d_Scan_takeVersion_13 rfl (lv_at hl 0 rfl) ?_
    refine x_getL (ci := 8) (k := 6) S hK hI (fun w h => List.mem_cons_of_mem _ (i_Scan w h)) rfl (by decide) (List.mem_cons_of_mem _ wd_135) rfl d_Scan_takeVersion_14 hf (fun v35 hf => ?_)
    refine x_lstore_n (lv2 := [(0, .ref h0)]) S d_Scan_takeVersion_17 rfl hl (by decide) [0] rfl ⟨⟨(by decide : (0 : Nat) ≠ 1), (by decide : (0 : Nat) ≠ 1 + 1), fun _ => rfl⟩, trivial⟩ (fun ls hl => ?_)
    refine lv_iconst (v := 1) S.1 S.2.1 d_Scan_takeVersion_18 (by decide) ?_
    refine x_istore_n (lv2 := [(1, .long v35), (0, .ref h0)]) S d_Scan_takeVersion_19 rfl hl (by decide) [0, 1] rfl ⟨⟨(by decide : (1 : Nat) ≠ 3), fun h => absurd (show (1 : Nat) + 1 = 3 from h) (by decide)⟩, ⟨⟨(by decide : (0 : Nat) ≠ 3), fun h => absurd (show (0 : Nat) + 1 = 3 from h) (by decide)⟩, trivial⟩⟩ (fun ls hl => ?_)
    exact w20 N v35 1 _ _ _ _ _ _ hf hI (lv_sub hl [2, 1, 0] rfl)
  · have hf := b_if_t hc hf
    refine lv_iconst (v := 0) S.1 S.2.1 d_Scan_takeVersion_11 (by decide) ?_
    exact hret _ _ _ _ _ _ _ _ d_Scan_takeVersion_12 hf hI
set_option maxHeartbeats 4000000 in
set_option maxRecDepth 100000 in
theorem c_Row_init (l : Launch) {D : va_G} {dA : Nat → ClassId} {aK aV : Nat → Nat} {z : Nat} {N : Nat} {h0 : Nat} {p0 : Int32} {p1 : Int32} {p2 : Option Nat} {p3 : Option Nat} {p4 : Int64} {p5 : Int64} {M : hM} {Z : Unit × hM} (hf : (f_Row_init N h0 p0 p1 p2 p3 p4 p5).1 M = some Z) : Met l y_Row_init w_Row_init ({ frames := 1, cells := Z.2.2.1 - M.2.1, slots := Z.2.2.2 - M.2.2, locals := 20 }) (va_Pc [.ref h0, .int p0, .int p1, va_rf p2, va_rf p3, .long p4, .long p5] (hm_B D dA hCl (hTy dA) sT aK aV z M)) (hm_Q D dA hCl (hTy dA) sT aK aV z none Z.2) (Z.2.2.1 - M.2.1) (Z.2.2.2 - M.2.2) (fun q => z ≤ q) := by
  refine Met.ofW (cc := b_Row_init) (maxL := 9) (ret := none) (by decide) rfl ?_
  intro p e s m args below meth c s₁ B hml hv
  obtain ⟨hav, hB⟩ := hv
  have S : CallFix p m c b_Row_init 9 s args w_Row_init R_Row := ⟨B.exec, B.bytes, hml, findClass_of_methodNamed B.named, atoms_spec (ws := w_Row_init) B.pre⟩
  have hr : meth.sig.returnType = none := B.returns
  have hlocks := B.notSynchronized
  have hin : meth.name = "<init>" := (name_of_methodNamed B.named B.method).1
  have hK := hB.2.2.1
  have hG := hB.2.2.2.2.2
  have hI := hm_I.start hB
  rw [← hB.2.1]
  generalize M.2.2 = k1 at hI ⊢
  refine W.eq (g2 := F0 m 0 ((lg_sl ([.ref h0, .int p0, .int p1, va_rf p2, va_rf p3, .long p4, .long p5]) ++ List.replicate (9 - (lg_sl ([.ref h0, .int p0, .int p1, va_rf p2, va_rf p3, .long p4, .long p5])).length) Slot.unset).toArray) []) (by rw [hav]; exact lg_entry_eq m ([.ref h0, .int p0, .int p1, va_rf p2, va_rf p3, .long p4, .long p5]) 9) ?_
  have hl := lv_entry ([.ref h0, .int p0, .int p1, va_rf p2, va_rf p3, .long p4, .long p5]) (n := 9) (by cases p2 <;> cases p3 <;> exact Nat.le_of_ble_eq_true rfl)
  generalize (lg_sl ([.ref h0, .int p0, .int p1, va_rf p2, va_rf p3, .long p4, .long p5]) ++ List.replicate (9 - (lg_sl ([.ref h0, .int p0, .int p1, va_rf p2, va_rf p3, .long p4, .long p5])).length) Slot.unset).toArray = ls at hl ⊢
  simp only [lvA_nil, lvA_i, lvA_l, lvA_a, lvA_r, Nat.zero_add, Nat.reduceAdd] at hl
  have hret : ∀ (M : hM) (H : Heap) (locs : List Loc) (cells slots : Nat) (ls : Array Slot) (pc : Nat), decode b_Row_init pc = .ok (.return_, 1) → (b_ret ()).1 M = some Z → hm_I D dA hCl z k1 s M H locs cells slots → W p l e (headSpec w_Row_init { frames := 1, cells := Z.2.2.1 - s.heap.size, slots := Z.2.2.2 - k1, locals := 20 }).room s m args below meth c H locs cells slots (MQ below (hm_Q D dA hCl (hTy dA) sT aK aV z none Z.2) args s (Z.2.2.1 - s.heap.size) (Z.2.2.2 - k1) (fun q => z ≤ q)) (F0 m pc ls []) := fun M H locs cells slots ls pc hdg hf hI => x_retv S hK hG hI hr hlocks hdg hf
  have hR : Z.2.2.1 - s.heap.size ≤ (headSpec w_Row_init { frames := 1, cells := Z.2.2.1 - s.heap.size, slots := Z.2.2.2 - k1, locals := 20 }).room.cells ∧ Z.2.2.2 - k1 ≤ (headSpec w_Row_init { frames := 1, cells := Z.2.2.1 - s.heap.size, slots := Z.2.2.2 - k1, locals := 20 }).room.slots := ⟨Nat.le_refl _, Nat.le_refl _⟩
  have hRf : 1 ≤ (headSpec w_Row_init { frames := 1, cells := Z.2.2.1 - s.heap.size, slots := Z.2.2.2 - k1, locals := 20 }).room.frames ∧ 20 ≤ (headSpec w_Row_init { frames := 1, cells := Z.2.2.1 - s.heap.size, slots := Z.2.2.2 - k1, locals := 20 }).room.locals := ⟨Nat.le_refl _, Nat.le_refl _⟩
  generalize (headSpec w_Row_init { frames := 1, cells := Z.2.2.1 - s.heap.size, slots := Z.2.2.2 - k1, locals := 20 }).room = R at hret hR hRf ⊢
  generalize (MQ below (hm_Q D dA hCl (hTy dA) sT aK aV z none Z.2) args s (Z.2.2.1 - s.heap.size) (Z.2.2.2 - k1) (fun q => z ≤ q)) = Q at hret ⊢
  rw [e_Row_init] at hf
  refine lv_aload_n S.1 S.2.1 d_Row_init_0 rfl (lv_at hl 0 rfl) ?_
  refine W.objInit S.1 S.2.1 S.2.2.2.1 (S.2.2.2.2 _ (List.mem_cons_of_mem _ wd_149)) (S.2.2.2.2 _ (List.mem_cons_of_mem _ wd_1)) (S.2.2.2.2 _ (List.mem_cons_of_mem _ wd_2)) rfl (by rw [S.2.2.1]; exact hl.1) rfl d_Row_init_1 (Nat.le_trans (Nat.le_of_ble_eq_true rfl) hRf.1) (Nat.le_trans (Nat.le_of_ble_eq_true rfl) hRf.2) ?_
  refine W.eq (g2 := F0 m 4 ls []) rfl ?_
  refine lv_aload_n S.1 S.2.1 d_Row_init_4 rfl (lv_at hl 0 rfl) ?_
  refine lv_iload_n S.1 S.2.1 d_Row_init_5 rfl (lv_at hl 1 rfl) ?_
  refine x_put (ci := 7) (k := 0) S hK hI (fun w h => List.mem_cons_of_mem _ (i_Row w h)) t_Row t_Row_ok n_Row rfl (by decide) (List.mem_cons_of_mem _ wd_150) rfl (Or.inr ⟨rfl, hin, rfl⟩) (by rfl) rfl d_Row_init_6 hf (fun M H locs hf hI => ?_)
  refine lv_aload_n S.1 S.2.1 d_Row_init_9 rfl (lv_at hl 0 rfl) ?_
  refine lv_iload_n S.1 S.2.1 d_Row_init_10 rfl (lv_at hl 2 rfl) ?_
  refine x_put (ci := 7) (k := 1) S hK hI (fun w h => List.mem_cons_of_mem _ (i_Row w h)) t_Row t_Row_ok n_Row rfl (by decide) (List.mem_cons_of_mem _ wd_151) rfl (Or.inr ⟨rfl, hin, rfl⟩) (by rfl) rfl d_Row_init_11 hf (fun M H locs hf hI => ?_)
  refine lv_aload_n S.1 S.2.1 d_Row_init_14 rfl (lv_at hl 0 rfl) ?_
  refine x_aload_n (r := p2) S d_Row_init_15 rfl (lv_at hl 3 rfl) ?_
  refine x_put (ci := 7) (k := 2) S hK hI (fun w h => List.mem_cons_of_mem _ (i_Row w h)) t_Row t_Row_ok n_Row rfl (by decide) (List.mem_cons_of_mem _ wd_152) rfl (Or.inr ⟨rfl, hin, rfl⟩) (by rfl) (rf_fit _ _) d_Row_init_16 hf (fun M H locs hf hI => ?_)
  refine lv_aload_n S.1 S.2.1 d_Row_init_19 rfl (lv_at hl 0 rfl) ?_
  refine x_aload (r := p3) S d_Row_init_20 (lv_at hl 4 rfl) ?_
  refine x_put (ci := 7) (k := 3) S hK hI (fun w h => List.mem_cons_of_mem _ (i_Row w h)) t_Row t_Row_ok n_Row rfl (by decide) (List.mem_cons_of_mem _ wd_153) rfl (Or.inr ⟨rfl, hin, rfl⟩) (by rfl) (rf_fit _ _) d_Row_init_22 hf (fun M H locs hf hI => ?_)
  refine lv_aload_n S.1 S.2.1 d_Row_init_25 rfl (lv_at hl 0 rfl) ?_
  refine lv_lload S.1 S.2.1 d_Row_init_26 (lv_at hl 5 rfl) ?_
  refine x_put (ci := 7) (k := 4) S hK hI (fun w h => List.mem_cons_of_mem _ (i_Row w h)) t_Row t_Row_ok n_Row rfl (by decide) (List.mem_cons_of_mem _ wd_154) rfl (Or.inl rfl) (by rfl) rfl d_Row_init_28 hf (fun M H locs hf hI => ?_)
  refine lv_aload_n S.1 S.2.1 d_Row_init_31 rfl (lv_at hl 0 rfl) ?_
  refine lv_lload S.1 S.2.1 d_Row_init_32 (lv_at hl 6 rfl) ?_
  refine x_put (ci := 7) (k := 5) S hK hI (fun w h => List.mem_cons_of_mem _ (i_Row w h)) t_Row t_Row_ok n_Row rfl (by decide) (List.mem_cons_of_mem _ wd_155) rfl (Or.inl rfl) (by rfl) rfl d_Row_init_34 hf (fun M H locs hf hI => ?_)
  exact hret _ _ _ _ _ _ _ d_Row_init_37 hf hI
set_option maxHeartbeats 4000000 in
set_option maxRecDepth 100000 in
theorem c_Reader_addRow (l : Launch) {D : va_G} {dA : Nat → ClassId} {aK aV : Nat → Nat} {z : Nat} {N : Nat} {h0 : Nat} {p0 : Int32} {p1 : Option Nat} {p2 : Option Nat} {p3 : Int64} {p4 : Int64} {M : hM} {Z : Int32 × hM} (hf : (f_Reader_addRow N h0 p0 p1 p2 p3 p4).1 M = some Z) : Met l y_Reader_addRow w_Reader_addRow ({ frames := 2, cells := Z.2.2.1 - M.2.1, slots := Z.2.2.2 - M.2.2, locals := 48 }) (va_Pc [.ref h0, .int p0, va_rf p1, va_rf p2, .long p3, .long p4] (hm_B D dA hCl (hTy dA) sT aK aV z M)) (hm_Q D dA hCl (hTy dA) sT aK aV z (some (.int Z.1)) Z.2) (Z.2.2.1 - M.2.1) (Z.2.2.2 - M.2.2) (fun q => z ≤ q) := by
  refine Met.ofW (cc := b_Reader_addRow) (maxL := 8) (ret := (some .boolean)) (by decide) rfl ?_
  intro p e s m args below meth c s₁ B hml hv
  obtain ⟨hav, hB⟩ := hv
  have S : CallFix p m c b_Reader_addRow 8 s args w_Reader_addRow R_Reader := ⟨B.exec, B.bytes, hml, findClass_of_methodNamed B.named, atoms_spec (ws := w_Reader_addRow) B.pre⟩
  have hr : meth.sig.returnType = (some .boolean) := B.returns
  have hlocks := B.notSynchronized
  have hK := hB.2.2.1
  have hG := hB.2.2.2.2.2
  have hI := hm_I.start hB
  rw [← hB.2.1]
  generalize M.2.2 = k1 at hI ⊢
  refine W.eq (g2 := F0 m 0 ((lg_sl ([.ref h0, .int p0, va_rf p1, va_rf p2, .long p3, .long p4]) ++ List.replicate (8 - (lg_sl ([.ref h0, .int p0, va_rf p1, va_rf p2, .long p3, .long p4])).length) Slot.unset).toArray) []) (by rw [hav]; exact lg_entry_eq m ([.ref h0, .int p0, va_rf p1, va_rf p2, .long p3, .long p4]) 8) ?_
  have hl := lv_entry ([.ref h0, .int p0, va_rf p1, va_rf p2, .long p3, .long p4]) (n := 8) (by cases p1 <;> cases p2 <;> exact Nat.le_of_ble_eq_true rfl)
  generalize (lg_sl ([.ref h0, .int p0, va_rf p1, va_rf p2, .long p3, .long p4]) ++ List.replicate (8 - (lg_sl ([.ref h0, .int p0, va_rf p1, va_rf p2, .long p3, .long p4])).length) Slot.unset).toArray = ls at hl ⊢
  simp only [lvA_nil, lvA_i, lvA_l, lvA_a, lvA_r, Nat.zero_add, Nat.reduceAdd] at hl
  have hret : ∀ (v : Int32) (M : hM) (H : Heap) (locs : List Loc) (cells slots : Nat) (ls : Array Slot) (pc : Nat), decode b_Reader_addRow pc = .ok (.ireturn, 1) → (b_retN .boolean v).1 M = some Z → hm_I D dA hCl z k1 s M H locs cells slots → W p l e (headSpec w_Reader_addRow { frames := 2, cells := Z.2.2.1 - s.heap.size, slots := Z.2.2.2 - k1, locals := 48 }).room s m args below meth c H locs cells slots (MQ below (hm_Q D dA hCl (hTy dA) sT aK aV z (some (.int Z.1)) Z.2) args s (Z.2.2.1 - s.heap.size) (Z.2.2.2 - k1) (fun q => z ≤ q)) (F0 m pc ls [.int v]) := fun v M H locs cells slots ls pc hdg hf hI => x_retn S hK hG hI hr hlocks hdg hf
  have hR : Z.2.2.1 - s.heap.size ≤ (headSpec w_Reader_addRow { frames := 2, cells := Z.2.2.1 - s.heap.size, slots := Z.2.2.2 - k1, locals := 48 }).room.cells ∧ Z.2.2.2 - k1 ≤ (headSpec w_Reader_addRow { frames := 2, cells := Z.2.2.1 - s.heap.size, slots := Z.2.2.2 - k1, locals := 48 }).room.slots := ⟨Nat.le_refl _, Nat.le_refl _⟩
  have hRf : 2 ≤ (headSpec w_Reader_addRow { frames := 2, cells := Z.2.2.1 - s.heap.size, slots := Z.2.2.2 - k1, locals := 48 }).room.frames ∧ 48 ≤ (headSpec w_Reader_addRow { frames := 2, cells := Z.2.2.1 - s.heap.size, slots := Z.2.2.2 - k1, locals := 48 }).room.locals := ⟨Nat.le_refl _, Nat.le_refl _⟩
  generalize (headSpec w_Reader_addRow { frames := 2, cells := Z.2.2.1 - s.heap.size, slots := Z.2.2.2 - k1, locals := 48 }).room = R at hret hR hRf ⊢
  generalize (MQ below (hm_Q D dA hCl (hTy dA) sT aK aV z (some (.int Z.1)) Z.2) args s (Z.2.2.1 - s.heap.size) (Z.2.2.2 - k1) (fun q => z ≤ q)) = Q at hret ⊢
  rw [e_Reader_addRow] at hf
  obtain ⟨J24, eJ24, hf⟩ := b_let_inv hf
  have w24 : ∀  (M : hM) (H : Heap) (locs : List Loc) (ls : Array Slot) (cells slots : Nat), (J24).1 M = some Z → hm_I D dA hCl z k1 s M H locs cells slots → lv_has ls 8 [(0, .ref h0)] → W p l e R s m args below meth c H locs cells slots Q (F0 m 24 ls []) := by
    intro M H locs ls cells slots hf hI hl
    rw [eJ24] at hf
    refine lv_aload_n S.1 S.2.1 d_Reader_addRow_24 rfl (lv_at hl 0 rfl) ?_
    refine x_getR (ci := 6) (k := 0) S hK hI (fun w h => List.mem_cons_of_mem _ (i_Reader w h)) rfl (by decide) (List.mem_cons_of_mem _ wd_15) rfl d_Reader_addRow_25 hf (fun r1 hf => ?_)
    refine lv_aload_n S.1 S.2.1 d_Reader_addRow_28 rfl (lv_at hl 0 rfl) ?_
    refine x_getI (ci := 6) (k := 8) S hK hI (fun w h => List.mem_cons_of_mem _ (i_Reader w h)) rfl (by decide) (List.mem_cons_of_mem _ wd_148) rfl d_Reader_addRow_29 hf (fun v2 hf => ?_)
    obtain ⟨a3, ea3, hg⟩ := b_nn_inv hf
    have hI0 := hI
    have hl0 := hl
    clear hf hI hl
    subst ea3
    have hf := hg
    have hI := hI0
    have hl := hl0
    clear hg hI0 hl0
    obtain ⟨⟨fs7, hefs7⟩, hf⟩ := b_is_inv hf
    obtain ⟨v4, N5, hg6, hf⟩ := b_call_inv hf
    refine x_call hI (hm_mo hg6) (va_runV (As := [.int v2]) (rest := []) S (c_Scan_refuse l hg6) (cwV 1 S.2.2.2.2 (gi_V wd_81 wd_82 wd_83 wd_9 wd_84) rfl rfl rfl (by decide +kernel) ⟨Nat.le_trans (Nat.le_of_ble_eq_true rfl) hRf.1, Nat.le_trans (Nat.le_of_ble_eq_true rfl) hRf.2⟩) ⟨hm_B.blind, va_recv hK (hI.1.one hefs7) (ci := 8) (q0 := 0) rfl rfl, fun U hU hW => ⟨rfl, hm_B.of hK hG hI hU hW⟩⟩ rfl rfl hl.1 rfl (lv_room (Nat.le_of_ble_eq_true rfl)) d_Reader_addRow_32 (hx_fit hI hR (hm_mo hg6) (hm_mo hf))) (fun H locs cells slots hI => ?_)
    refine W.eq (g2 := F0 m 35 ls [.int v4]) rfl ?_
    exact hret _ _ _ _ _ _ _ _ d_Reader_addRow_35 hf hI
  obtain ⟨J63, eJ63, hf⟩ := b_let_inv hf
  have w63 : ∀ (y0 : Int32) (y1 : Int32) (y2 : Option Nat) (y3 : Option Nat) (y4 : Int32) (y5 : Option Nat) (M : hM) (H : Heap) (locs : List Loc) (ls : Array Slot) (cells slots : Nat), (J63 y0 y1 y2 y3 y4 y5).1 M = some Z → hm_I D dA hCl z k1 s M H locs cells slots → lv_has ls 8 [(0, .ref h0), (2, va_rf p1), (3, va_rf p2), (4, .long p3), (6, .long p4)] → W p l e R s m args below meth c H locs cells slots Q (F0 m 63 ls [.int y0, .int y1, va_rf y2, va_rf y3, .int y4, va_rf y5]) := by
    intro y0 y1 y2 y3 y4 y5 M H locs ls cells slots hf hI hl
    rw [eJ63] at hf
    refine x_aload_n (r := p1) S d_Reader_addRow_63 rfl (lv_at hl 1 rfl) ?_
    refine x_aload_n (r := p2) S d_Reader_addRow_64 rfl (lv_at hl 2 rfl) ?_
    refine lv_lload S.1 S.2.1 d_Reader_addRow_65 (lv_at hl 3 rfl) ?_
    refine lv_lload S.1 S.2.1 d_Reader_addRow_67 (lv_at hl 4 rfl) ?_
    obtain ⟨a8, ea8, hg⟩ := b_nn_inv hf
    have hI0 := hI
    have hl0 := hl
    clear hf hI hl
    subst ea8
    have hf := hg
    have hI := hI0
    have hl := hl0
    clear hg hI0 hl0
    obtain ⟨r9, N10, hg11, hf⟩ := b_call_inv hf
    refine x_call hI (hm_mo hg11) (va_runI (As := [.int y1, .int y0, va_rf p1, va_rf p2, .long p3, .long p4]) (rest := [va_rf y3, .int y4, va_rf y5]) S (c_Row_init l hg11) (cwI 6 S.2.2.2.2 (gi_I wd_156) rfl rfl rfl (S.2.2.2.2 _ (List.mem_cons_of_mem _ wd_157)) (S.2.2.2.2 _ (List.mem_cons_of_mem _ wd_158)) (S.2.2.2.2 _ (List.mem_cons_of_mem _ wd_159)) rfl (by decide +kernel) ⟨Nat.le_trans (Nat.le_of_ble_eq_true rfl) hRf.1, Nat.le_trans (Nat.le_of_ble_eq_true rfl) hRf.2⟩) ⟨hm_B.blind, fun U hU hW => ⟨rfl, hm_B.of hK hG hI hU hW⟩⟩ rfl rfl hl.1 rfl (lv_room (by simp only [List.map_cons, List.map_nil, List.sum_cons, List.sum_nil, rf_cat, cat_i, cat_l, cat_a, cat_n]; exact Nat.le_of_ble_eq_true rfl)) d_Reader_addRow_69 (hx_fit hI hR (hm_mo hg11) (hm_mo hf))) (fun H locs cells slots hI => ?_)
    refine W.eq (g2 := F0 m 72 ls [va_rf y3, .int y4, va_rf y5]) rfl ?_
    obtain ⟨a12, ea12, hg⟩ := b_nn_inv hf
    have hI0 := hI
    have hl0 := hl
    clear hf hI hl
    subst ea12
    have hf := hg
    have hI := hI0
    have hl := hl0
    clear hg hI0 hl0
    refine x_aast (t := 1) (r := y3) S hK hI rfl rfl d_Reader_addRow_72 hf (fun M H locs hf hI => ?_)
    refine lv_aload_n S.1 S.2.1 d_Reader_addRow_73 rfl (lv_at hl 0 rfl) ?_
    refine x_getR (ci := 6) (k := 2) S hK hI (fun w h => List.mem_cons_of_mem _ (i_Reader w h)) rfl (by decide) (List.mem_cons_of_mem _ wd_19) rfl d_Reader_addRow_74 hf (fun r13 hf => ?_)
    refine lv_aload_n S.1 S.2.1 d_Reader_addRow_77 rfl (lv_at hl 0 rfl) ?_
    refine x_getI (ci := 6) (k := 3) S hK hI (fun w h => List.mem_cons_of_mem _ (i_Reader w h)) rfl (by decide) (List.mem_cons_of_mem _ wd_62) rfl d_Reader_addRow_78 hf (fun v14 hf => ?_)
    refine lv_aload_n S.1 S.2.1 d_Reader_addRow_81 rfl (lv_at hl 0 rfl) ?_
    refine x_getR (ci := 6) (k := 0) S hK hI (fun w h => List.mem_cons_of_mem _ (i_Reader w h)) rfl (by decide) (List.mem_cons_of_mem _ wd_15) rfl d_Reader_addRow_82 hf (fun r15 hf => ?_)
    obtain ⟨a16, ea16, hg⟩ := b_nn_inv hf
    have hI0 := hI
    have hl0 := hl
    clear hf hI hl
    subst ea16
    have hf := hg
    have hI := hI0
    have hl := hl0
    clear hg hI0 hl0
    refine x_getI (ci := 8) (k := 4) S hK hI (fun w h => List.mem_cons_of_mem _ (i_Scan w h)) rfl (by decide) (List.mem_cons_of_mem _ wd_97) rfl d_Reader_addRow_85 hf (fun v17 hf => ?_)
    obtain ⟨a18, ea18, hg⟩ := b_nn_inv hf
    have hI0 := hI
    have hl0 := hl
    clear hf hI hl
    subst ea18
    have hf := hg
    have hI := hI0
    have hl := hl0
    clear hg hI0 hl0
    refine x_iast (t := 2) S hK hI rfl d_Reader_addRow_88 hf (fun M H locs hf hI => ?_)
    refine lv_aload_n S.1 S.2.1 d_Reader_addRow_89 rfl (lv_at hl 0 rfl) ?_
    refine lv_dup S.1 S.2.1 d_Reader_addRow_90 rfl ?_
    refine x_getI (ci := 6) (k := 3) S hK hI (fun w h => List.mem_cons_of_mem _ (i_Reader w h)) rfl (by decide) (List.mem_cons_of_mem _ wd_62) rfl d_Reader_addRow_91 hf (fun v19 hf => ?_)
    refine lv_iconst (v := 1) S.1 S.2.1 d_Reader_addRow_94 (by decide) ?_
    refine lv_iadd S.1 S.2.1 d_Reader_addRow_95 ?_
    refine x_put (ci := 6) (k := 3) S hK hI (fun w h => List.mem_cons_of_mem _ (i_Reader w h)) t_Reader t_Reader_ok n_Reader rfl (by decide) (List.mem_cons_of_mem _ wd_62) rfl (Or.inl rfl) (by rfl) rfl d_Reader_addRow_96 hf (fun M H locs hf hI => ?_)
    refine lv_iconst (v := 1) S.1 S.2.1 d_Reader_addRow_99 (by decide) ?_
    exact hret _ _ _ _ _ _ _ _ d_Reader_addRow_100 hf hI
  refine lv_aload_n S.1 S.2.1 d_Reader_addRow_0 rfl (lv_at hl 0 rfl) ?_
  refine x_getI (ci := 6) (k := 3) S hK hI (fun w h => List.mem_cons_of_mem _ (i_Reader w h)) rfl (by decide) (List.mem_cons_of_mem _ wd_62) rfl d_Reader_addRow_1 hf (fun v20 hf => ?_)
  refine lv_aload_n S.1 S.2.1 d_Reader_addRow_4 rfl (lv_at hl 0 rfl) ?_
  refine x_getR (ci := 6) (k := 1) S hK hI (fun w h => List.mem_cons_of_mem _ (i_Reader w h)) rfl (by decide) (List.mem_cons_of_mem _ wd_17) rfl d_Reader_addRow_5 hf (fun r21 hf => ?_)
  obtain ⟨a22, ea22, hg⟩ := b_nn_inv hf
  have hI0 := hI
  have hl0 := hl
  clear hf hI hl
  subst ea22
  have hf := hg
  have hI := hI0
  have hl := hl0
  clear hg hI0 hl0
  refine x_len (t := 1) S hK hI rfl d_Reader_addRow_8 hf (fun v23 hf => ?_)
  refine lv_icmp_ge (tgt := 24) S.1 S.2.1 d_Reader_addRow_9 (by decide) (fun hc => ?_) (fun hc => ?_)
  · have hf := b_if_t hc hf
    exact w24  _ _ _ _ _ _ hf hI (lv_sub hl [0] rfl)
  · have hf := b_if_f hc hf
    refine lv_aload_n S.1 S.2.1 d_Reader_addRow_12 rfl (lv_at hl 0 rfl) ?_
    refine x_getI (ci := 6) (k := 3) S hK hI (fun w h => List.mem_cons_of_mem _ (i_Reader w h)) rfl (by decide) (List.mem_cons_of_mem _ wd_62) rfl d_Reader_addRow_13 hf (fun v24 hf => ?_)
    refine lv_aload_n S.1 S.2.1 d_Reader_addRow_16 rfl (lv_at hl 0 rfl) ?_
    refine x_getR (ci := 6) (k := 2) S hK hI (fun w h => List.mem_cons_of_mem _ (i_Reader w h)) rfl (by decide) (List.mem_cons_of_mem _ wd_19) rfl d_Reader_addRow_17 hf (fun r25 hf => ?_)
    obtain ⟨a26, ea26, hg⟩ := b_nn_inv hf
    have hI0 := hI
    have hl0 := hl
    clear hf hI hl
    subst ea26
    have hf := hg
    have hI := hI0
    have hl := hl0
    clear hg hI0 hl0
    refine x_len (t := 2) S hK hI rfl d_Reader_addRow_20 hf (fun v27 hf => ?_)
    refine lv_icmp_lt (tgt := 36) S.1 S.2.1 d_Reader_addRow_21 (by decide) (fun hc => ?_) (fun hc => ?_)
    · have hf := b_if_t hc hf
      refine lv_aload_n S.1 S.2.1 d_Reader_addRow_36 rfl (lv_at hl 0 rfl) ?_
      refine x_getR (ci := 6) (k := 1) S hK hI (fun w h => List.mem_cons_of_mem _ (i_Reader w h)) rfl (by decide) (List.mem_cons_of_mem _ wd_17) rfl d_Reader_addRow_37 hf (fun r28 hf => ?_)
      refine lv_aload_n S.1 S.2.1 d_Reader_addRow_40 rfl (lv_at hl 0 rfl) ?_
      refine x_getI (ci := 6) (k := 3) S hK hI (fun w h => List.mem_cons_of_mem _ (i_Reader w h)) rfl (by decide) (List.mem_cons_of_mem _ wd_62) rfl d_Reader_addRow_41 hf (fun v29 hf => ?_)
      refine x_new (ci := 7) S hK hI hR (fun w h => List.mem_cons_of_mem _ (i_Row w h)) t_Row t_Row_ok rfl (List.mem_cons_of_mem _ wd_16) (List.mem_cons_of_mem _ wd_160) (List.mem_cons_of_mem _ wd_157) s_Row d_Reader_addRow_44 hf (fun q30 M H hf hI => ?_)
      refine lv_dup S.1 S.2.1 d_Reader_addRow_47 rfl ?_
      refine lv_iload_n S.1 S.2.1 d_Reader_addRow_48 rfl (lv_at hl 1 rfl) ?_
      refine lv_iload_n S.1 S.2.1 d_Reader_addRow_49 rfl (lv_at hl 1 rfl) ?_
      refine lv_bipush (v := 8) S.1 S.2.1 d_Reader_addRow_50 (by decide) ?_
      refine lv_icmp_ne (tgt := 62) S.1 S.2.1 d_Reader_addRow_52 (by decide) (fun hc => ?_) (fun hc => ?_)
      · have hf := b_if_f hc hf
        refine lv_iconst (v := (-1)) S.1 S.2.1 d_Reader_addRow_62 (by decide) ?_
        exact w63 (-1) p0 (some q30) (some q30) v29 r28 _ _ _ _ _ _ hf hI (lv_sub hl [0, 2, 3, 4, 5] rfl)
      · have hf := b_if_t hc hf
        refine lv_aload_n S.1 S.2.1 d_Reader_addRow_55 rfl (lv_at hl 0 rfl) ?_
        refine x_getI (ci := 6) (k := 9) S hK hI (fun w h => List.mem_cons_of_mem _ (i_Reader w h)) rfl (by decide) (List.mem_cons_of_mem _ wd_161) rfl d_Reader_addRow_56 hf (fun v31 hf => ?_)
        refine lv_goto (tgt := 63) S.1 S.2.1 d_Reader_addRow_59 (by decide) ?_
        exact w63 v31 p0 (some q30) (some q30) v29 r28 _ _ _ _ _ _ hf hI (lv_sub hl [0, 2, 3, 4, 5] rfl)
    · have hf := b_if_f hc hf
      exact w24  _ _ _ _ _ _ hf hI (lv_sub hl [0] rfl)
