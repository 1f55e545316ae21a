set_option maxHeartbeats 4000000 in
set_option maxRecDepth 100000 in
theorem c_MD_high (l : Launch) {D : va_G} {dA : Nat → ClassId} {aK aV : Nat → Nat} {z : Nat} {N : Nat} {h0 : Nat} {p0 : Int32} {p1 : Int32} {M : hM} {Z : Int64 × hM} (hf : (f_MD_high N h0 p0 p1).1 M = some Z) : Met l y_MD_high w_MD_high ({ frames := 2, cells := Z.2.2.1 - M.2.1, slots := Z.2.2.2 - M.2.2, locals := 43 }) (va_Pc [.ref h0, .int p0, .int p1] (hm_B D dA hCl (hTy dA) sT aK aV z M)) (hm_Q D dA hCl (hTy dA) sT aK aV z (some (.long Z.1)) Z.2) (Z.2.2.1 - M.2.1) (Z.2.2.2 - M.2.2) (fun q => z ≤ q) := by
  refine Met.ofW (cc := b_MD_high) (maxL := 3) (ret := (some .long)) (by decide) rfl ?_
  intro p e s m args below meth c s₁ B hml hv
  obtain ⟨hav, hB⟩ := hv
  have S : CallFix p m c b_MD_high 3 s args w_MD_high R_MD := ⟨B.exec, B.bytes, hml, findClass_of_methodNamed B.named, atoms_spec (ws := w_MD_high) B.pre⟩
  have hr : meth.sig.returnType = (some .long) := B.returns
  have hlocks := B.notSynchronized
  have hK := hB.2.2.1
  have hG := hB.2.2.2.2.2
  have hI := hm_I.start hB
  rw [← hB.2.1]
  generalize M.2.2 = k1 at hI ⊢
  refine W.eq (g2 := F0 m 0 ((lg_sl ([.ref h0, .int p0, .int p1]) ++ List.replicate (3 - (lg_sl ([.ref h0, .int p0, .int p1])).length) Slot.unset).toArray) []) (by rw [hav]; exact lg_entry_eq m ([.ref h0, .int p0, .int p1]) 3) ?_
  have hl := lv_entry ([.ref h0, .int p0, .int p1]) (n := 3) (Nat.le_of_ble_eq_true rfl)
  generalize (lg_sl ([.ref h0, .int p0, .int p1]) ++ List.replicate (3 - (lg_sl ([.ref h0, .int p0, .int p1])).length) Slot.unset).toArray = ls at hl ⊢
  simp only [lvA_nil, lvA_i, lvA_l, lvA_a, lvA_r, Nat.zero_add, Nat.reduceAdd] at hl
  have hret : ∀ (v : Int64) (M : hM) (H : Heap) (locs : List Loc) (cells slots : Nat) (ls : Array Slot) (pc : Nat), decode b_MD_high pc = .ok (.lreturn, 1) → (b_ret v).1 M = some Z → hm_I D dA hCl z k1 s M H locs cells slots → W p l e (headSpec w_MD_high { frames := 2, cells := Z.2.2.1 - s.heap.size, slots := Z.2.2.2 - k1, locals := 43 }).room s m args below meth c H locs cells slots (MQ below (hm_Q D dA hCl (hTy dA) sT aK aV z (some (.long Z.1)) Z.2) args s (Z.2.2.1 - s.heap.size) (Z.2.2.2 - k1) (fun q => z ≤ q)) (F0 m pc ls [.long v]) := fun v M H locs cells slots ls pc hdg hf hI => x_retl S hK hG hI hr hlocks hdg hf
  have hR : Z.2.2.1 - s.heap.size ≤ (headSpec w_MD_high { frames := 2, cells := Z.2.2.1 - s.heap.size, slots := Z.2.2.2 - k1, locals := 43 }).room.cells ∧ Z.2.2.2 - k1 ≤ (headSpec w_MD_high { frames := 2, cells := Z.2.2.1 - s.heap.size, slots := Z.2.2.2 - k1, locals := 43 }).room.slots := ⟨Nat.le_refl _, Nat.le_refl _⟩
  have hRf : 2 ≤ (headSpec w_MD_high { frames := 2, cells := Z.2.2.1 - s.heap.size, slots := Z.2.2.2 - k1, locals := 43 }).room.frames ∧ 43 ≤ (headSpec w_MD_high { frames := 2, cells := Z.2.2.1 - s.heap.size, slots := Z.2.2.2 - k1, locals := 43 }).room.locals := ⟨Nat.le_refl _, Nat.le_refl _⟩
  generalize (headSpec w_MD_high { frames := 2, cells := Z.2.2.1 - s.heap.size, slots := Z.2.2.2 - k1, locals := 43 }).room = R at hret hR hRf ⊢
  generalize (MQ below (hm_Q D dA hCl (hTy dA) sT aK aV z (some (.long Z.1)) Z.2) args s (Z.2.2.1 - s.heap.size) (Z.2.2.2 - k1) (fun q => z ≤ q)) = Q at hret ⊢
  rw [e_MD_high] at hf
  obtain ⟨J32, eJ32, hf⟩ := b_let_inv hf
  have w32 : ∀ (y0 : Int64) (M : hM) (H : Heap) (locs : List Loc) (ls : Array Slot) (cells slots : Nat), (J32 y0).1 M = some Z → hm_I D dA hCl z k1 s M H locs cells slots → lv_has ls 3 [] → W p l e R s m args below meth c H locs cells slots Q (F0 m 32 ls [.long y0]) := by
    intro y0 M H locs ls cells slots hf hI hl
    rw [eJ32] at hf
    exact hret _ _ _ _ _ _ _ _ d_MD_high_32 hf hI
  refine lv_aload_n S.1 S.2.1 d_MD_high_0 rfl (lv_at hl 0 rfl) ?_
  refine lv_iconst (v := 0) S.1 S.2.1 d_MD_high_1 (by decide) ?_
  refine x_put (ci := 1) (k := 0) S hK hI (fun w h => List.mem_cons_of_mem _ (i_MD w h)) t_MD t_MD_ok n_MD rfl (by decide) (List.mem_cons_of_mem _ wd_559) rfl (Or.inl rfl) (by rfl) rfl d_MD_high_2 hf (fun M H locs hf hI => ?_)
  refine lv_aload_n S.1 S.2.1 d_MD_high_5 rfl (lv_at hl 0 rfl) ?_
  refine lv_iload_n S.1 S.2.1 d_MD_high_6 rfl (lv_at hl 1 rfl) ?_
  refine lv_iload_n S.1 S.2.1 d_MD_high_7 rfl (lv_at hl 2 rfl) ?_
  obtain ⟨⟨fs4, hefs4⟩, hf⟩ := b_is_inv hf
  obtain ⟨v1, N2, hg3, hf⟩ := b_call_inv hf
  refine x_call hI (hm_mo hg3) (va_runV (As := [.int p0, .int p1]) (rest := []) S (c_MD_isRow l hg3) (cwV 2 S.2.2.2.2 (gi_V wd_729 wd_730 wd_731 wd_564 wd_732) rfl rfl rfl (by decide +kernel) ⟨Nat.le_trans (Nat.le_of_ble_eq_true rfl) hRf.1, Nat.le_trans (Nat.le_of_ble_eq_true rfl) hRf.2⟩) ⟨hm_B.blind, va_recv hK (hI.1.one hefs4) (ci := 1) (q0 := 0) rfl rfl, fun U hU hW => ⟨rfl, hm_B.of hK hG hI hU hW⟩⟩ rfl rfl hl.1 rfl (lv_room (Nat.le_of_ble_eq_true rfl)) d_MD_high_8 (hx_fit hI hR (hm_mo hg3) (hm_mo hf))) (fun H locs cells slots hI => ?_)
  refine W.eq (g2 := F0 m 11 ls [.int v1]) rfl ?_
  refine lv_if_eq (tgt := 29) S.1 S.2.1 d_MD_high_11 (by decide) (fun hc => ?_) (fun hc => ?_)
  · have hf := b_if_t hc hf
    refine lv_ldc2 (v := (-1)) S.1 S.2.1 S.2.2.2.1 (S.2.2.2.2 _ (List.mem_cons_of_mem _ wd_662)) d_MD_high_29 ?_
    exact w32 (-1) _ _ _ _ _ _ hf hI (lv_sub hl [] rfl)
  · have hf := b_if_f hc hf
    refine lv_aload_n S.1 S.2.1 d_MD_high_14 rfl (lv_at hl 0 rfl) ?_
    refine x_getR (ci := 1) (k := 26) S hK hI (fun w h => List.mem_cons_of_mem _ (i_MD w h)) rfl (by decide) (List.mem_cons_of_mem _ wd_547) rfl d_MD_high_15 hf (fun r5 hf => ?_)
    refine lv_sipush (v := 200) S.1 S.2.1 d_MD_high_18 (by decide) ?_
    refine lv_iload_n S.1 S.2.1 d_MD_high_21 rfl (lv_at hl 1 rfl) ?_
    refine lv_imul S.1 S.2.1 d_MD_high_22 ?_
    refine lv_iload_n S.1 S.2.1 d_MD_high_23 rfl (lv_at hl 2 rfl) ?_
    refine lv_iadd S.1 S.2.1 d_MD_high_24 ?_
    obtain ⟨a6, ea6, hg⟩ := b_nn_inv hf
    have hI0 := hI
    have hl0 := hl
    clear hf hI hl
    subst ea6
    have hf := hg
    have hI := hI0
    have hl := hl0
    clear hg hI0 hl0
    refine x_lald (t := 7) S hK hI rfl d_MD_high_25 hf (fun v7 hf => ?_)
    refine lv_goto (tgt := 32) S.1 S.2.1 d_MD_high_26 (by decide) ?_
    exact w32 v7 _ _ _ _ _ _ hf hI (lv_sub hl [] rfl)
set_option maxHeartbeats 4000000 in
set_option maxRecDepth 100000 in
theorem c_MD_check (l : Launch) {D : va_G} {dA : Nat → ClassId} {aK aV : Nat → Nat} {z : Nat} {N : Nat} {h0 : Nat} {p0 : Int32} {M : hM} {Z : Int32 × hM} (hf : (f_MD_check N h0 p0).1 M = some Z) : Met l y_MD_check w_MD_check ({ frames := 5, cells := Z.2.2.1 - M.2.1, slots := Z.2.2.2 - M.2.2, locals := 123 }) (va_Pc [.ref h0, .int p0] (hm_B D dA hCl (hTy dA) sT aK aV z M)) (hm_Q D dA hCl (hTy dA) sT aK aV z (some (.int Z.1)) Z.2) (Z.2.2.1 - M.2.1) (Z.2.2.2 - M.2.2) (fun q => z ≤ q) := by
  refine Met.ofW (cc := b_MD_check) (maxL := 3) (ret := (some .int)) (by decide) rfl ?_
  intro p e s m args below meth c s₁ B hml hv
  obtain ⟨hav, hB⟩ := hv
  have S : CallFix p m c b_MD_check 3 s args w_MD_check R_MD := ⟨B.exec, B.bytes, hml, findClass_of_methodNamed B.named, atoms_spec (ws := w_MD_check) B.pre⟩
  have hr : meth.sig.returnType = (some .int) := B.returns
  have hlocks := B.notSynchronized
  have hK := hB.2.2.1
  have hG := hB.2.2.2.2.2
  have hI := hm_I.start hB
  rw [← hB.2.1]
  generalize M.2.2 = k1 at hI ⊢
  refine W.eq (g2 := F0 m 0 ((lg_sl ([.ref h0, .int p0]) ++ List.replicate (3 - (lg_sl ([.ref h0, .int p0])).length) Slot.unset).toArray) []) (by rw [hav]; exact lg_entry_eq m ([.ref h0, .int p0]) 3) ?_
  have hl := lv_entry ([.ref h0, .int p0]) (n := 3) (Nat.le_of_ble_eq_true rfl)
  generalize (lg_sl ([.ref h0, .int p0]) ++ List.replicate (3 - (lg_sl ([.ref h0, .int p0])).length) Slot.unset).toArray = ls at hl ⊢
  simp only [lvA_nil, lvA_i, lvA_l, lvA_a, lvA_r, Nat.zero_add, Nat.reduceAdd] at hl
  have hret : ∀ (v : Int32) (M : hM) (H : Heap) (locs : List Loc) (cells slots : Nat) (ls : Array Slot) (pc : Nat), decode b_MD_check pc = .ok (.ireturn, 1) → (b_ret v).1 M = some Z → hm_I D dA hCl z k1 s M H locs cells slots → W p l e (headSpec w_MD_check { frames := 5, cells := Z.2.2.1 - s.heap.size, slots := Z.2.2.2 - k1, locals := 123 }).room s m args below meth c H locs cells slots (MQ below (hm_Q D dA hCl (hTy dA) sT aK aV z (some (.int Z.1)) Z.2) args s (Z.2.2.1 - s.heap.size) (Z.2.2.2 - k1) (fun q => z ≤ q)) (F0 m pc ls [.int v]) := fun v M H locs cells slots ls pc hdg hf hI => x_reti S hK hG hI hr hlocks hdg hf
  have hR : Z.2.2.1 - s.heap.size ≤ (headSpec w_MD_check { frames := 5, cells := Z.2.2.1 - s.heap.size, slots := Z.2.2.2 - k1, locals := 123 }).room.cells ∧ Z.2.2.2 - k1 ≤ (headSpec w_MD_check { frames := 5, cells := Z.2.2.1 - s.heap.size, slots := Z.2.2.2 - k1, locals := 123 }).room.slots := ⟨Nat.le_refl _, Nat.le_refl _⟩
  have hRf : 5 ≤ (headSpec w_MD_check { frames := 5, cells := Z.2.2.1 - s.heap.size, slots := Z.2.2.2 - k1, locals := 123 }).room.frames ∧ 123 ≤ (headSpec w_MD_check { frames := 5, cells := Z.2.2.1 - s.heap.size, slots := Z.2.2.2 - k1, locals := 123 }).room.locals := ⟨Nat.le_refl _, Nat.le_refl _⟩
  generalize (headSpec w_MD_check { frames := 5, cells := Z.2.2.1 - s.heap.size, slots := Z.2.2.2 - k1, locals := 123 }).room = R at hret hR hRf ⊢
  generalize (MQ below (hm_Q D dA hCl (hTy dA) sT aK aV z (some (.int Z.1)) Z.2) args s (Z.2.2.1 - s.heap.size) (Z.2.2.2 - k1) (fun q => z ≤ q)) = Q at hret ⊢
  rw [e_MD_check] at hf
  have w17 : ∀ (n : Nat) (x2 : Int32) (M : hM) (H : Heap) (locs : List Loc) (ls : Array Slot) (cells slots : Nat), (f_MD_check_17 N h0 p0  n x2).1 M = some Z → hm_I D dA hCl z k1 s M H locs cells slots → lv_has ls 3 [(0, .ref h0), (1, .int p0), (2, .int x2)] → W p l e R s m args below meth c H locs cells slots Q (F0 m 17 ls []) := by
    intro n
    induction n with
    | zero => intro x2 M H locs ls cells slots hf hI hl; cases hf
    | succ n17 ih17 =>
      intro x2 M H locs ls cells slots hf hI hl
      rw [e_MD_check_17] at hf
      refine lv_iload_n S.1 S.2.1 d_MD_check_17 rfl (lv_at hl 2 rfl) ?_
      refine lv_aload_n S.1 S.2.1 d_MD_check_18 rfl (lv_at hl 0 rfl) ?_
      refine x_getR (ci := 1) (k := 13) S hK hI (fun w h => List.mem_cons_of_mem _ (i_MD w h)) rfl (by decide) (List.mem_cons_of_mem _ wd_532) rfl d_MD_check_19 hf (fun r1 hf => ?_)
      refine lv_iload_n S.1 S.2.1 d_MD_check_22 rfl (lv_at hl 1 rfl) ?_
      obtain ⟨a2, ea2, hg⟩ := b_nn_inv hf
      have hI0 := hI
      have hl0 := hl
      clear hf hI hl
      subst ea2
      have hf := hg
      have hI := hI0
      have hl := hl0
      clear hg hI0 hl0
      refine x_iald (t := 2) S hK hI rfl d_MD_check_23 hf (fun v3 hf => ?_)
      refine lv_icmp_ge (tgt := 52) S.1 S.2.1 d_MD_check_24 (by decide) (fun hc => ?_) (fun hc => ?_)
      · have hf := b_if_t hc hf
        refine lv_iconst (v := 0) S.1 S.2.1 d_MD_check_52 (by decide) ?_
        exact hret _ _ _ _ _ _ _ _ d_MD_check_53 hf hI
      · have hf := b_if_f hc hf
        refine lv_aload_n S.1 S.2.1 d_MD_check_27 rfl (lv_at hl 0 rfl) ?_
        refine lv_iload_n S.1 S.2.1 d_MD_check_28 rfl (lv_at hl 1 rfl) ?_
        refine lv_sipush (v := 200) S.1 S.2.1 d_MD_check_29 (by decide) ?_
        refine lv_iload_n S.1 S.2.1 d_MD_check_32 rfl (lv_at hl 1 rfl) ?_
        refine lv_imul S.1 S.2.1 d_MD_check_33 ?_
        refine lv_iload_n S.1 S.2.1 d_MD_check_34 rfl (lv_at hl 2 rfl) ?_
        refine lv_iadd S.1 S.2.1 d_MD_check_35 ?_
        obtain ⟨⟨fs7, hefs7⟩, hf⟩ := b_is_inv hf
        obtain ⟨v4, N5, hg6, hf⟩ := b_call_inv hf
        refine x_call hI (hm_mo hg6) (va_runV (As := [.int p0, .int ((200 * p0) + x2)]) (rest := []) S (c_MD_why l hg6) (cwV 2 S.2.2.2.2 (gi_V wd_733 wd_734 wd_735 wd_564 wd_736) rfl rfl rfl (by decide +kernel) ⟨Nat.le_trans (Nat.le_of_ble_eq_true rfl) hRf.1, Nat.le_trans (Nat.le_of_ble_eq_true rfl) hRf.2⟩) ⟨hm_B.blind, va_recv hK (hI.1.one hefs7) (ci := 1) (q0 := 0) rfl rfl, fun U hU hW => ⟨rfl, hm_B.of hK hG hI hU hW⟩⟩ rfl rfl hl.1 rfl (lv_room (Nat.le_of_ble_eq_true rfl)) d_MD_check_36 (hx_fit hI hR (hm_mo hg6) (hm_mo hf))) (fun H locs cells slots hI => ?_)
        refine W.eq (g2 := F0 m 39 ls [.int v4]) rfl ?_
        refine lv_if_le (tgt := 46) S.1 S.2.1 d_MD_check_39 (by decide) (fun hc => ?_) (fun hc => ?_)
        · have hf := b_if_t hc hf
          refine x_iinc (v := 1) (lv2 := [(0, .ref h0), (1, .int p0)]) S d_MD_check_46 hl 2 rfl (by decide) (by decide) [0, 1] rfl ⟨⟨(by decide : (0 : Nat) ≠ 2), fun h => absurd (show (0 : Nat) + 1 = 2 from h) (by decide)⟩, ⟨⟨(by decide : (1 : Nat) ≠ 2), fun _ => rfl⟩, trivial⟩⟩ (fun ls hl => ?_)
          refine lv_goto (tgt := 17) S.1 S.2.1 d_MD_check_49 (by decide) ?_
          exact ih17 (x2 + 1) _ _ _ _ _ _ hf hI (lv_sub hl [1, 2, 0] rfl)
        · have hf := b_if_f hc hf
          refine lv_iload_n S.1 S.2.1 d_MD_check_42 rfl (lv_at hl 2 rfl) ?_
          refine lv_iconst (v := 1) S.1 S.2.1 d_MD_check_43 (by decide) ?_
          refine lv_iadd S.1 S.2.1 d_MD_check_44 ?_
          exact hret _ _ _ _ _ _ _ _ d_MD_check_45 hf hI
  refine lv_aload_n S.1 S.2.1 d_MD_check_0 rfl (lv_at hl 0 rfl) ?_
  refine lv_iconst (v := 0) S.1 S.2.1 d_MD_check_1 (by decide) ?_
  refine x_put (ci := 1) (k := 0) S hK hI (fun w h => List.mem_cons_of_mem _ (i_MD w h)) t_MD t_MD_ok n_MD rfl (by decide) (List.mem_cons_of_mem _ wd_559) rfl (Or.inl rfl) (by rfl) rfl d_MD_check_2 hf (fun M H locs hf hI => ?_)
  refine lv_aload_n S.1 S.2.1 d_MD_check_5 rfl (lv_at hl 0 rfl) ?_
  refine lv_iload_n S.1 S.2.1 d_MD_check_6 rfl (lv_at hl 1 rfl) ?_
  obtain ⟨⟨fs11, hefs11⟩, hf⟩ := b_is_inv hf
  obtain ⟨v8, N9, hg10, hf⟩ := b_call_inv hf
  refine x_call hI (hm_mo hg10) (va_runV (As := [.int p0]) (rest := []) S (c_MD_isPackage l hg10) (cwV 1 S.2.2.2.2 (gi_V wd_721 wd_722 wd_723 wd_564 wd_724) rfl rfl rfl (by decide +kernel) ⟨Nat.le_trans (Nat.le_of_ble_eq_true rfl) hRf.1, Nat.le_trans (Nat.le_of_ble_eq_true rfl) hRf.2⟩) ⟨hm_B.blind, va_recv hK (hI.1.one hefs11) (ci := 1) (q0 := 0) rfl rfl, fun U hU hW => ⟨rfl, hm_B.of hK hG hI hU hW⟩⟩ rfl rfl hl.1 rfl (lv_room (Nat.le_of_ble_eq_true rfl)) d_MD_check_7 (hx_fit hI hR (hm_mo hg10) (hm_mo hf))) (fun H locs cells slots hI => ?_)
  refine W.eq (g2 := F0 m 10 ls [.int v8]) rfl ?_
  refine lv_if_ne (tgt := 15) S.1 S.2.1 d_MD_check_10 (by decide) (fun hc => ?_) (fun hc => ?_)
  · have hf := b_if_f hc hf
    refine lv_iconst (v := 0) S.1 S.2.1 d_MD_check_15 (by decide) ?_
    refine x_istore_n (lv2 := [(0, .ref h0), (1, .int p0)]) S d_MD_check_16 rfl hl (by decide) [0, 1] rfl ⟨⟨(by decide : (0 : Nat) ≠ 2), fun h => absurd (show (0 : Nat) + 1 = 2 from h) (by decide)⟩, ⟨⟨(by decide : (1 : Nat) ≠ 2), fun _ => rfl⟩, trivial⟩⟩ (fun ls hl => ?_)
    exact w17 N 0 _ _ _ _ _ _ hf hI (lv_sub hl [1, 2, 0] rfl)
  · have hf := b_if_t hc hf
    refine lv_iconst (v := (-1)) S.1 S.2.1 d_MD_check_13 (by decide) ?_
    exact hret _ _ _ _ _ _ _ _ d_MD_check_14 hf hI
set_option maxHeartbeats 4000000 in
set_option maxRecDepth 100000 in
theorem c_MD_isLike (l : Launch) {D : va_G} {dA : Nat → ClassId} {aK aV : Nat → Nat} {z : Nat} {N : Nat} {h0 : Nat} {p0 : Int32} {p1 : Int32} {M : hM} {Z : Int32 × hM} (hf : (f_MD_isLike N h0 p0 p1).1 M = some Z) : Met l y_MD_isLike w_MD_isLike ({ frames := 4, cells := Z.2.2.1 - M.2.1, slots := Z.2.2.2 - M.2.2, locals := 98 }) (va_Pc [.ref h0, .int p0, .int p1] (hm_B D dA hCl (hTy dA) sT aK aV z M)) (hm_Q D dA hCl (hTy dA) sT aK aV z (some (.int Z.1)) Z.2) (Z.2.2.1 - M.2.1) (Z.2.2.2 - M.2.2) (fun q => z ≤ q) := by
  refine Met.ofW (cc := b_MD_isLike) (maxL := 3) (ret := (some .boolean)) (by decide) rfl ?_
  intro p e s m args below meth c s₁ B hml hv
  obtain ⟨hav, hB⟩ := hv
  have S : CallFix p m c b_MD_isLike 3 s args w_MD_isLike R_MD := ⟨B.exec, B.bytes, hml, findClass_of_methodNamed B.named, atoms_spec (ws := w_MD_isLike) B.pre⟩
  have hr : meth.sig.returnType = (some .boolean) := B.returns
  have hlocks := B.notSynchronized
  have hK := hB.2.2.1
  have hG := hB.2.2.2.2.2
  have hI := hm_I.start hB
  rw [← hB.2.1]
  generalize M.2.2 = k1 at hI ⊢
  refine W.eq (g2 := F0 m 0 ((lg_sl ([.ref h0, .int p0, .int p1]) ++ List.replicate (3 - (lg_sl ([.ref h0, .int p0, .int p1])).length) Slot.unset).toArray) []) (by rw [hav]; exact lg_entry_eq m ([.ref h0, .int p0, .int p1]) 3) ?_
  have hl := lv_entry ([.ref h0, .int p0, .int p1]) (n := 3) (Nat.le_of_ble_eq_true rfl)
  generalize (lg_sl ([.ref h0, .int p0, .int p1]) ++ List.replicate (3 - (lg_sl ([.ref h0, .int p0, .int p1])).length) Slot.unset).toArray = ls at hl ⊢
  simp only [lvA_nil, lvA_i, lvA_l, lvA_a, lvA_r, Nat.zero_add, Nat.reduceAdd] at hl
  have hret : ∀ (v : Int32) (M : hM) (H : Heap) (locs : List Loc) (cells slots : Nat) (ls : Array Slot) (pc : Nat), decode b_MD_isLike pc = .ok (.ireturn, 1) → (b_retN .boolean v).1 M = some Z → hm_I D dA hCl z k1 s M H locs cells slots → W p l e (headSpec w_MD_isLike { frames := 4, cells := Z.2.2.1 - s.heap.size, slots := Z.2.2.2 - k1, locals := 98 }).room s m args below meth c H locs cells slots (MQ below (hm_Q D dA hCl (hTy dA) sT aK aV z (some (.int Z.1)) Z.2) args s (Z.2.2.1 - s.heap.size) (Z.2.2.2 - k1) (fun q => z ≤ q)) (F0 m pc ls [.int v]) := fun v M H locs cells slots ls pc hdg hf hI => x_retn S hK hG hI hr hlocks hdg hf
  have hR : Z.2.2.1 - s.heap.size ≤ (headSpec w_MD_isLike { frames := 4, cells := Z.2.2.1 - s.heap.size, slots := Z.2.2.2 - k1, locals := 98 }).room.cells ∧ Z.2.2.2 - k1 ≤ (headSpec w_MD_isLike { frames := 4, cells := Z.2.2.1 - s.heap.size, slots := Z.2.2.2 - k1, locals := 98 }).room.slots := ⟨Nat.le_refl _, Nat.le_refl _⟩
  have hRf : 4 ≤ (headSpec w_MD_isLike { frames := 4, cells := Z.2.2.1 - s.heap.size, slots := Z.2.2.2 - k1, locals := 98 }).room.frames ∧ 98 ≤ (headSpec w_MD_isLike { frames := 4, cells := Z.2.2.1 - s.heap.size, slots := Z.2.2.2 - k1, locals := 98 }).room.locals := ⟨Nat.le_refl _, Nat.le_refl _⟩
  generalize (headSpec w_MD_isLike { frames := 4, cells := Z.2.2.1 - s.heap.size, slots := Z.2.2.2 - k1, locals := 98 }).room = R at hret hR hRf ⊢
  generalize (MQ below (hm_Q D dA hCl (hTy dA) sT aK aV z (some (.int Z.1)) Z.2) args s (Z.2.2.1 - s.heap.size) (Z.2.2.2 - k1) (fun q => z ≤ q)) = Q at hret ⊢
  rw [e_MD_isLike] at hf
  obtain ⟨J81, eJ81, hf⟩ := b_let_inv hf
  have w81 : ∀ (y0 : Int32) (M : hM) (H : Heap) (locs : List Loc) (ls : Array Slot) (cells slots : Nat), (J81 y0).1 M = some Z → hm_I D dA hCl z k1 s M H locs cells slots → lv_has ls 3 [] → W p l e R s m args below meth c H locs cells slots Q (F0 m 81 ls [.int y0]) := by
    intro y0 M H locs ls cells slots hf hI hl
    rw [eJ81] at hf
    exact hret _ _ _ _ _ _ _ _ d_MD_isLike_81 hf hI
  obtain ⟨J80, eJ80, hf⟩ := b_let_inv hf
  have w80 : ∀  (M : hM) (H : Heap) (locs : List Loc) (ls : Array Slot) (cells slots : Nat), (J80).1 M = some Z → hm_I D dA hCl z k1 s M H locs cells slots → lv_has ls 3 [] → W p l e R s m args below meth c H locs cells slots Q (F0 m 80 ls []) := by
    intro M H locs ls cells slots hf hI hl
    rw [eJ80] at hf
    refine lv_iconst (v := 0) S.1 S.2.1 d_MD_isLike_80 (by decide) ?_
    exact w81 0 _ _ _ _ _ _ hf hI (lv_sub hl [] rfl)
  refine lv_aload_n S.1 S.2.1 d_MD_isLike_0 rfl (lv_at hl 0 rfl) ?_
  refine lv_iload_n S.1 S.2.1 d_MD_isLike_1 rfl (lv_at hl 1 rfl) ?_
  refine lv_iload_n S.1 S.2.1 d_MD_isLike_2 rfl (lv_at hl 2 rfl) ?_
  obtain ⟨⟨fs4, hefs4⟩, hf⟩ := b_is_inv hf
  obtain ⟨v1, N2, hg3, hf⟩ := b_call_inv hf
  refine x_call hI (hm_mo hg3) (va_runV (As := [.int p0, .int p1]) (rest := []) S (c_MD_order l hg3) (cwV 2 S.2.2.2.2 (gi_V wd_697 wd_698 wd_699 wd_564 wd_700) rfl rfl rfl (by decide +kernel) ⟨Nat.le_trans (Nat.le_of_ble_eq_true rfl) hRf.1, Nat.le_trans (Nat.le_of_ble_eq_true rfl) hRf.2⟩) ⟨hm_B.blind, va_recv hK (hI.1.one hefs4) (ci := 1) (q0 := 0) rfl rfl, fun U hU hW => ⟨rfl, hm_B.of hK hG hI hU hW⟩⟩ rfl rfl hl.1 rfl (lv_room (Nat.le_of_ble_eq_true rfl)) d_MD_isLike_3 (hx_fit hI hR (hm_mo hg3) (hm_mo hf))) (fun H locs cells slots hI => ?_)
  refine W.eq (g2 := F0 m 6 ls [.int v1]) rfl ?_
  refine lv_if_ne (tgt := 80) S.1 S.2.1 d_MD_isLike_6 (by decide) (fun hc => ?_) (fun hc => ?_)
  · have hf := b_if_f hc hf
    exact w80  _ _ _ _ _ _ hf hI (lv_sub hl [] rfl)
  · have hf := b_if_t hc hf
    refine lv_aload_n S.1 S.2.1 d_MD_isLike_9 rfl (lv_at hl 0 rfl) ?_
    refine x_getR (ci := 1) (k := 25) S hK hI (fun w h => List.mem_cons_of_mem _ (i_MD w h)) rfl (by decide) (List.mem_cons_of_mem _ wd_546) rfl d_MD_isLike_10 hf (fun r5 hf => ?_)
    refine lv_iload_n S.1 S.2.1 d_MD_isLike_13 rfl (lv_at hl 1 rfl) ?_
    obtain ⟨a6, ea6, hg⟩ := b_nn_inv hf
    have hI0 := hI
    have hl0 := hl
    clear hf hI hl
    subst ea6
    have hf := hg
    have hI := hI0
    have hl := hl0
    clear hg hI0 hl0
    refine x_lald (t := 7) S hK hI rfl d_MD_isLike_14 hf (fun v7 hf => ?_)
    refine lv_aload_n S.1 S.2.1 d_MD_isLike_15 rfl (lv_at hl 0 rfl) ?_
    refine x_getR (ci := 1) (k := 25) S hK hI (fun w h => List.mem_cons_of_mem _ (i_MD w h)) rfl (by decide) (List.mem_cons_of_mem _ wd_546) rfl d_MD_isLike_16 hf (fun r8 hf => ?_)
    refine lv_iload_n S.1 S.2.1 d_MD_isLike_19 rfl (lv_at hl 2 rfl) ?_
    obtain ⟨a9, ea9, hg⟩ := b_nn_inv hf
    have hI0 := hI
    have hl0 := hl
    clear hf hI hl
    subst ea9
    have hf := hg
    have hI := hI0
    have hl := hl0
    clear hg hI0 hl0
    refine x_lald (t := 7) S hK hI rfl d_MD_isLike_20 hf (fun v10 hf => ?_)
    refine W.lcmp S.1 S.2.1 d_MD_isLike_21 ?_
    refine lv_if_ne (tgt := 80) S.1 S.2.1 d_MD_isLike_22 (by decide) (fun hc => ?_) (fun hc => ?_)
    · have hf := b_if_f hc hf
      exact w80  _ _ _ _ _ _ hf hI (lv_sub hl [] rfl)
    · have hf := b_if_t hc hf
      refine lv_aload_n S.1 S.2.1 d_MD_isLike_25 rfl (lv_at hl 0 rfl) ?_
      refine x_getR (ci := 1) (k := 26) S hK hI (fun w h => List.mem_cons_of_mem _ (i_MD w h)) rfl (by decide) (List.mem_cons_of_mem _ wd_547) rfl d_MD_isLike_26 hf (fun r11 hf => ?_)
      refine lv_iload_n S.1 S.2.1 d_MD_isLike_29 rfl (lv_at hl 1 rfl) ?_
      obtain ⟨a12, ea12, hg⟩ := b_nn_inv hf
      have hI0 := hI
      have hl0 := hl
      clear hf hI hl
      subst ea12
      have hf := hg
      have hI := hI0
      have hl := hl0
      clear hg hI0 hl0
      refine x_lald (t := 7) S hK hI rfl d_MD_isLike_30 hf (fun v13 hf => ?_)
      refine lv_aload_n S.1 S.2.1 d_MD_isLike_31 rfl (lv_at hl 0 rfl) ?_
      refine x_getR (ci := 1) (k := 26) S hK hI (fun w h => List.mem_cons_of_mem _ (i_MD w h)) rfl (by decide) (List.mem_cons_of_mem _ wd_547) rfl d_MD_isLike_32 hf (fun r14 hf => ?_)
      refine lv_iload_n S.1 S.2.1 d_MD_isLike_35 rfl (lv_at hl 2 rfl) ?_
      obtain ⟨a15, ea15, hg⟩ := b_nn_inv hf
      have hI0 := hI
      have hl0 := hl
      clear hf hI hl
      subst ea15
      have hf := hg
      have hI := hI0
      have hl := hl0
      clear hg hI0 hl0
      refine x_lald (t := 7) S hK hI rfl d_MD_isLike_36 hf (fun v16 hf => ?_)
      refine W.lcmp S.1 S.2.1 d_MD_isLike_37 ?_
      refine lv_if_ne (tgt := 80) S.1 S.2.1 d_MD_isLike_38 (by decide) (fun hc => ?_) (fun hc => ?_)
      · have hf := b_if_f hc hf
        exact w80  _ _ _ _ _ _ hf hI (lv_sub hl [] rfl)
      · have hf := b_if_t hc hf
        refine lv_aload_n S.1 S.2.1 d_MD_isLike_41 rfl (lv_at hl 0 rfl) ?_
        refine lv_aload_n S.1 S.2.1 d_MD_isLike_42 rfl (lv_at hl 0 rfl) ?_
        refine x_getR (ci := 1) (k := 24) S hK hI (fun w h => List.mem_cons_of_mem _ (i_MD w h)) rfl (by decide) (List.mem_cons_of_mem _ wd_545) rfl d_MD_isLike_43 hf (fun r17 hf => ?_)
        refine lv_bipush (v := 20) S.1 S.2.1 d_MD_isLike_46 (by decide) ?_
        refine lv_iload_n S.1 S.2.1 d_MD_isLike_48 rfl (lv_at hl 1 rfl) ?_
        refine lv_imul S.1 S.2.1 d_MD_isLike_49 ?_
        refine lv_aload_n S.1 S.2.1 d_MD_isLike_50 rfl (lv_at hl 0 rfl) ?_
        refine x_getR (ci := 1) (k := 22) S hK hI (fun w h => List.mem_cons_of_mem _ (i_MD w h)) rfl (by decide) (List.mem_cons_of_mem _ wd_542) rfl d_MD_isLike_51 hf (fun r18 hf => ?_)
        refine lv_iload_n S.1 S.2.1 d_MD_isLike_54 rfl (lv_at hl 1 rfl) ?_
        obtain ⟨a19, ea19, hg⟩ := b_nn_inv hf
        have hI0 := hI
        have hl0 := hl
        clear hf hI hl
        subst ea19
        have hf := hg
        have hI := hI0
        have hl := hl0
        clear hg hI0 hl0
        refine x_iald (t := 2) S hK hI rfl d_MD_isLike_55 hf (fun v20 hf => ?_)
        refine lv_aload_n S.1 S.2.1 d_MD_isLike_56 rfl (lv_at hl 0 rfl) ?_
        refine x_getR (ci := 1) (k := 24) S hK hI (fun w h => List.mem_cons_of_mem _ (i_MD w h)) rfl (by decide) (List.mem_cons_of_mem _ wd_545) rfl d_MD_isLike_57 hf (fun r21 hf => ?_)
        refine lv_bipush (v := 20) S.1 S.2.1 d_MD_isLike_60 (by decide) ?_
        refine lv_iload_n S.1 S.2.1 d_MD_isLike_62 rfl (lv_at hl 2 rfl) ?_
        refine lv_imul S.1 S.2.1 d_MD_isLike_63 ?_
        refine lv_aload_n S.1 S.2.1 d_MD_isLike_64 rfl (lv_at hl 0 rfl) ?_
        refine x_getR (ci := 1) (k := 22) S hK hI (fun w h => List.mem_cons_of_mem _ (i_MD w h)) rfl (by decide) (List.mem_cons_of_mem _ wd_542) rfl d_MD_isLike_65 hf (fun r22 hf => ?_)
        refine lv_iload_n S.1 S.2.1 d_MD_isLike_68 rfl (lv_at hl 2 rfl) ?_
        obtain ⟨a23, ea23, hg⟩ := b_nn_inv hf
        have hI0 := hI
        have hl0 := hl
        clear hf hI hl
        subst ea23
        have hf := hg
        have hI := hI0
        have hl := hl0
        clear hg hI0 hl0
        refine x_iald (t := 2) S hK hI rfl d_MD_isLike_69 hf (fun v24 hf => ?_)
        obtain ⟨⟨fs28, hefs28⟩, hf⟩ := b_is_inv hf
        obtain ⟨v25, N26, hg27, hf⟩ := b_call_inv hf
        refine x_call hI (hm_mo hg27) (va_runV (As := [va_rf r17, .int (20 * p0), .int v20, va_rf r21, .int (20 * p1), .int v24]) (rest := []) S (c_MD_compare l hg27) (cwV 6 S.2.2.2.2 (gi_V wd_684 wd_685 wd_686 wd_564 wd_687) rfl rfl rfl (by decide +kernel) ⟨Nat.le_trans (Nat.le_of_ble_eq_true rfl) hRf.1, Nat.le_trans (Nat.le_of_ble_eq_true rfl) hRf.2⟩) ⟨hm_B.blind, va_recv hK (hI.1.one hefs28) (ci := 1) (q0 := 0) rfl rfl, fun U hU hW => ⟨rfl, hm_B.of hK hG hI hU hW⟩⟩ rfl rfl hl.1 rfl (lv_room (Nat.le_of_ble_eq_true rfl)) d_MD_isLike_70 (hx_fit hI hR (hm_mo hg27) (hm_mo hf))) (fun H locs cells slots hI => ?_)
        refine W.eq (g2 := F0 m 73 ls [.int v25]) rfl ?_
        refine lv_if_ne (tgt := 80) S.1 S.2.1 d_MD_isLike_73 (by decide) (fun hc => ?_) (fun hc => ?_)
        · have hf := b_if_f hc hf
          exact w80  _ _ _ _ _ _ hf hI (lv_sub hl [] rfl)
        · have hf := b_if_t hc hf
          refine lv_iconst (v := 1) S.1 S.2.1 d_MD_isLike_76 (by decide) ?_
          refine lv_goto (tgt := 81) S.1 S.2.1 d_MD_isLike_77 (by decide) ?_
          exact w81 1 _ _ _ _ _ _ hf hI (lv_sub hl [] rfl)
set_option maxHeartbeats 4000000 in
set_option maxRecDepth 100000 in
theorem c_MD_tell (l : Launch) {D : va_G} {dA : Nat → ClassId} {aK aV : Nat → Nat} {z : Nat} {N : Nat} {h0 : Nat} {p0 : Int32} {p1 : Int32} {M : hM} {Z : Unit × hM} (hf : (f_MD_tell N h0 p0 p1).1 M = some Z) : Met l y_MD_tell w_MD_tell ({ frames := 0, cells := Z.2.2.1 - M.2.1, slots := Z.2.2.2 - M.2.2, locals := 0 }) (va_Pc [.ref h0, .int p0, .int p1] (hm_B D dA hCl (hTy dA) sT aK aV z M)) (hm_Q D dA hCl (hTy dA) sT aK aV z none Z.2) (Z.2.2.1 - M.2.1) (Z.2.2.2 - M.2.2) (fun q => z ≤ q) := by
  refine Met.ofW (cc := b_MD_tell) (maxL := 3) (ret := none) (by decide) rfl ?_
  intro p e s m args below meth c s₁ B hml hv
  obtain ⟨hav, hB⟩ := hv
  have S : CallFix p m c b_MD_tell 3 s args w_MD_tell R_MD := ⟨B.exec, B.bytes, hml, findClass_of_methodNamed B.named, atoms_spec (ws := w_MD_tell) B.pre⟩
  have hr : meth.sig.returnType = none := B.returns
  have hlocks := B.notSynchronized
  have hK := hB.2.2.1
  have hG := hB.2.2.2.2.2
  have hI := hm_I.start hB
  rw [← hB.2.1]
  generalize M.2.2 = k1 at hI ⊢
  refine W.eq (g2 := F0 m 0 ((lg_sl ([.ref h0, .int p0, .int p1]) ++ List.replicate (3 - (lg_sl ([.ref h0, .int p0, .int p1])).length) Slot.unset).toArray) []) (by rw [hav]; exact lg_entry_eq m ([.ref h0, .int p0, .int p1]) 3) ?_
  have hl := lv_entry ([.ref h0, .int p0, .int p1]) (n := 3) (Nat.le_of_ble_eq_true rfl)
  generalize (lg_sl ([.ref h0, .int p0, .int p1]) ++ List.replicate (3 - (lg_sl ([.ref h0, .int p0, .int p1])).length) Slot.unset).toArray = ls at hl ⊢
  simp only [lvA_nil, lvA_i, lvA_l, lvA_a, lvA_r, Nat.zero_add, Nat.reduceAdd] at hl
  have hret : ∀ (M : hM) (H : Heap) (locs : List Loc) (cells slots : Nat) (ls : Array Slot) (pc : Nat), decode b_MD_tell pc = .ok (.return_, 1) → (b_ret ()).1 M = some Z → hm_I D dA hCl z k1 s M H locs cells slots → W p l e (headSpec w_MD_tell { frames := 0, cells := Z.2.2.1 - s.heap.size, slots := Z.2.2.2 - k1, locals := 0 }).room s m args below meth c H locs cells slots (MQ below (hm_Q D dA hCl (hTy dA) sT aK aV z none Z.2) args s (Z.2.2.1 - s.heap.size) (Z.2.2.2 - k1) (fun q => z ≤ q)) (F0 m pc ls []) := fun M H locs cells slots ls pc hdg hf hI => x_retv S hK hG hI hr hlocks hdg hf
  have hR : Z.2.2.1 - s.heap.size ≤ (headSpec w_MD_tell { frames := 0, cells := Z.2.2.1 - s.heap.size, slots := Z.2.2.2 - k1, locals := 0 }).room.cells ∧ Z.2.2.2 - k1 ≤ (headSpec w_MD_tell { frames := 0, cells := Z.2.2.1 - s.heap.size, slots := Z.2.2.2 - k1, locals := 0 }).room.slots := ⟨Nat.le_refl _, Nat.le_refl _⟩
  have hRf : 0 ≤ (headSpec w_MD_tell { frames := 0, cells := Z.2.2.1 - s.heap.size, slots := Z.2.2.2 - k1, locals := 0 }).room.frames ∧ 0 ≤ (headSpec w_MD_tell { frames := 0, cells := Z.2.2.1 - s.heap.size, slots := Z.2.2.2 - k1, locals := 0 }).room.locals := ⟨Nat.le_refl _, Nat.le_refl _⟩
  generalize (headSpec w_MD_tell { frames := 0, cells := Z.2.2.1 - s.heap.size, slots := Z.2.2.2 - k1, locals := 0 }).room = R at hret hR hRf ⊢
  generalize (MQ below (hm_Q D dA hCl (hTy dA) sT aK aV z none Z.2) args s (Z.2.2.1 - s.heap.size) (Z.2.2.2 - k1) (fun q => z ≤ q)) = Q at hret ⊢
  rw [e_MD_tell] at hf
  obtain ⟨J17, eJ17, hf⟩ := b_let_inv hf
  have w17 : ∀ (y0 : Int32) (y1 : Int32) (y2 : Option Nat) (M : hM) (H : Heap) (locs : List Loc) (ls : Array Slot) (cells slots : Nat), (J17 y0 y1 y2).1 M = some Z → hm_I D dA hCl z k1 s M H locs cells slots → lv_has ls 3 [(0, .ref h0), (2, .int p1)] → W p l e R s m args below meth c H locs cells slots Q (F0 m 17 ls [.int y0, .int y1, va_rf y2]) := by
    intro y0 y1 y2 M H locs ls cells slots hf hI hl
    rw [eJ17] at hf
    obtain ⟨a1, ea1, hg⟩ := b_nn_inv hf
    have hI0 := hI
    have hl0 := hl
    clear hf hI hl
    subst ea1
    have hf := hg
    have hI := hI0
    have hl := hl0
    clear hg hI0 hl0
    refine x_iast (t := 2) S hK hI rfl d_MD_tell_17 hf (fun M H locs hf hI => ?_)
    refine lv_aload_n S.1 S.2.1 d_MD_tell_18 rfl (lv_at hl 0 rfl) ?_
    refine x_getR (ci := 1) (k := 41) S hK hI (fun w h => List.mem_cons_of_mem _ (i_MD w h)) rfl (by decide) (List.mem_cons_of_mem _ wd_554) rfl d_MD_tell_19 hf (fun r2 hf => ?_)
    refine lv_aload_n S.1 S.2.1 d_MD_tell_22 rfl (lv_at hl 0 rfl) ?_
    refine x_getI (ci := 1) (k := 39) S hK hI (fun w h => List.mem_cons_of_mem _ (i_MD w h)) rfl (by decide) (List.mem_cons_of_mem _ wd_737) rfl d_MD_tell_23 hf (fun v3 hf => ?_)
    refine lv_iload_n S.1 S.2.1 d_MD_tell_26 rfl (lv_at hl 1 rfl) ?_
    obtain ⟨a4, ea4, hg⟩ := b_nn_inv hf
    have hI0 := hI
    have hl0 := hl
    clear hf hI hl
    subst ea4
    have hf := hg
    have hI := hI0
    have hl := hl0
    clear hg hI0 hl0
    refine x_iast (t := 2) S hK hI rfl d_MD_tell_27 hf (fun M H locs hf hI => ?_)
    refine lv_aload_n S.1 S.2.1 d_MD_tell_28 rfl (lv_at hl 0 rfl) ?_
    refine lv_dup S.1 S.2.1 d_MD_tell_29 rfl ?_
    refine x_getI (ci := 1) (k := 39) S hK hI (fun w h => List.mem_cons_of_mem _ (i_MD w h)) rfl (by decide) (List.mem_cons_of_mem _ wd_737) rfl d_MD_tell_30 hf (fun v5 hf => ?_)
    refine lv_iconst (v := 1) S.1 S.2.1 d_MD_tell_33 (by decide) ?_
    refine lv_iadd S.1 S.2.1 d_MD_tell_34 ?_
    refine x_put (ci := 1) (k := 39) S hK hI (fun w h => List.mem_cons_of_mem _ (i_MD w h)) t_MD t_MD_ok n_MD rfl (by decide) (List.mem_cons_of_mem _ wd_737) rfl (Or.inl rfl) (by rfl) rfl d_MD_tell_35 hf (fun M H locs hf hI => ?_)
    exact hret _ _ _ _ _ _ _ d_MD_tell_38 hf hI
  refine lv_aload_n S.1 S.2.1 d_MD_tell_0 rfl (lv_at hl 0 rfl) ?_
  refine x_getR (ci := 1) (k := 40) S hK hI (fun w h => List.mem_cons_of_mem _ (i_MD w h)) rfl (by decide) (List.mem_cons_of_mem _ wd_553) rfl d_MD_tell_1 hf (fun r6 hf => ?_)
  refine lv_aload_n S.1 S.2.1 d_MD_tell_4 rfl (lv_at hl 0 rfl) ?_
  refine x_getI (ci := 1) (k := 39) S hK hI (fun w h => List.mem_cons_of_mem _ (i_MD w h)) rfl (by decide) (List.mem_cons_of_mem _ wd_737) rfl d_MD_tell_5 hf (fun v7 hf => ?_)
  refine lv_iload_n S.1 S.2.1 d_MD_tell_8 rfl (lv_at hl 1 rfl) ?_
  refine lv_if_eq (tgt := 16) S.1 S.2.1 d_MD_tell_9 (by decide) (fun hc => ?_) (fun hc => ?_)
  · have hf := b_if_t hc hf
    refine lv_iconst (v := 0) S.1 S.2.1 d_MD_tell_16 (by decide) ?_
    exact w17 0 v7 r6 _ _ _ _ _ _ hf hI (lv_sub hl [0, 2] rfl)
  · have hf := b_if_f hc hf
    refine lv_iconst (v := 1) S.1 S.2.1 d_MD_tell_12 (by decide) ?_
    refine lv_goto (tgt := 17) S.1 S.2.1 d_MD_tell_13 (by decide) ?_
    exact w17 1 v7 r6 _ _ _ _ _ _ hf hI (lv_sub hl [0, 2] rfl)
set_option maxHeartbeats 4000000 in
set_option maxRecDepth 100000 in
theorem c_MD_compareRows (l : Launch) {D : va_G} {dA : Nat → ClassId} {aK aV : Nat → Nat} {z : Nat} {N : Nat} {h0 : Nat} {p0 : Int32} {p1 : Int32} {p2 : Int32} {M : hM} {Z : Int32 × hM} (hf : (f_MD_compareRows N h0 p0 p1 p2).1 M = some Z) : Met l y_MD_compareRows w_MD_compareRows ({ frames := 5, cells := Z.2.2.1 - M.2.1, slots := Z.2.2.2 - M.2.2, locals := 120 }) (va_Pc [.ref h0, .int p0, .int p1, .int p2] (hm_B D dA hCl (hTy dA) sT aK aV z M)) (hm_Q D dA hCl (hTy dA) sT aK aV z (some (.int Z.1)) Z.2) (Z.2.2.1 - M.2.1) (Z.2.2.2 - M.2.2) (fun q => z ≤ q) := by
  refine Met.ofW (cc := b_MD_compareRows) (maxL := 7) (ret := (some .int)) (by decide) rfl ?_
  intro p e s m args below meth c s₁ B hml hv
  obtain ⟨hav, hB⟩ := hv
  have S : CallFix p m c b_MD_compareRows 7 s args w_MD_compareRows R_MD := ⟨B.exec, B.bytes, hml, findClass_of_methodNamed B.named, atoms_spec (ws := w_MD_compareRows) B.pre⟩
  have hr : meth.sig.returnType = (some .int) := B.returns
  have hlocks := B.notSynchronized
  have hK := hB.2.2.1
  have hG := hB.2.2.2.2.2
  have hI := hm_I.start hB
  rw [← hB.2.1]
  generalize M.2.2 = k1 at hI ⊢
  refine W.eq (g2 := F0 m 0 ((lg_sl ([.ref h0, .int p0, .int p1, .int p2]) ++ List.replicate (7 - (lg_sl ([.ref h0, .int p0, .int p1, .int p2])).length) Slot.unset).toArray) []) (by rw [hav]; exact lg_entry_eq m ([.ref h0, .int p0, .int p1, .int p2]) 7) ?_
  have hl := lv_entry ([.ref h0, .int p0, .int p1, .int p2]) (n := 7) (Nat.le_of_ble_eq_true rfl)
  generalize (lg_sl ([.ref h0, .int p0, .int p1, .int p2]) ++ List.replicate (7 - (lg_sl ([.ref h0, .int p0, .int p1, .int p2])).length) Slot.unset).toArray = ls at hl ⊢
  simp only [lvA_nil, lvA_i, lvA_l, lvA_a, lvA_r, Nat.zero_add, Nat.reduceAdd] at hl
  have hret : ∀ (v : Int32) (M : hM) (H : Heap) (locs : List Loc) (cells slots : Nat) (ls : Array Slot) (pc : Nat), decode b_MD_compareRows pc = .ok (.ireturn, 1) → (b_ret v).1 M = some Z → hm_I D dA hCl z k1 s M H locs cells slots → W p l e (headSpec w_MD_compareRows { frames := 5, cells := Z.2.2.1 - s.heap.size, slots := Z.2.2.2 - k1, locals := 120 }).room s m args below meth c H locs cells slots (MQ below (hm_Q D dA hCl (hTy dA) sT aK aV z (some (.int Z.1)) Z.2) args s (Z.2.2.1 - s.heap.size) (Z.2.2.2 - k1) (fun q => z ≤ q)) (F0 m pc ls [.int v]) := fun v M H locs cells slots ls pc hdg hf hI => x_reti S hK hG hI hr hlocks hdg hf
  have hR : Z.2.2.1 - s.heap.size ≤ (headSpec w_MD_compareRows { frames := 5, cells := Z.2.2.1 - s.heap.size, slots := Z.2.2.2 - k1, locals := 120 }).room.cells ∧ Z.2.2.2 - k1 ≤ (headSpec w_MD_compareRows { frames := 5, cells := Z.2.2.1 - s.heap.size, slots := Z.2.2.2 - k1, locals := 120 }).room.slots := ⟨Nat.le_refl _, Nat.le_refl _⟩
  have hRf : 5 ≤ (headSpec w_MD_compareRows { frames := 5, cells := Z.2.2.1 - s.heap.size, slots := Z.2.2.2 - k1, locals := 120 }).room.frames ∧ 120 ≤ (headSpec w_MD_compareRows { frames := 5, cells := Z.2.2.1 - s.heap.size, slots := Z.2.2.2 - k1, locals := 120 }).room.locals := ⟨Nat.le_refl _, Nat.le_refl _⟩
  generalize (headSpec w_MD_compareRows { frames := 5, cells := Z.2.2.1 - s.heap.size, slots := Z.2.2.2 - k1, locals := 120 }).room = R at hret hR hRf ⊢
  generalize (MQ below (hm_Q D dA hCl (hTy dA) sT aK aV z (some (.int Z.1)) Z.2) args s (Z.2.2.1 - s.heap.size) (Z.2.2.2 - k1) (fun q => z ≤ q)) = Q at hret ⊢
  rw [e_MD_compareRows] at hf
  have w3 : ∀ (n : Nat) (x4 : Int32) (M : hM) (H : Heap) (locs : List Loc) (ls : Array Slot) (cells slots : Nat), (f_MD_compareRows_3 N h0 p0 p1 p2  n x4).1 M = some Z → hm_I D dA hCl z k1 s M H locs cells slots → lv_has ls 7 [(0, .ref h0), (1, .int p0), (2, .int p1), (3, .int p2), (4, .int x4)] → W p l e R s m args below meth c H locs cells slots Q (F0 m 3 ls []) := by
    intro n
    induction n with
    | zero => intro x4 M H locs ls cells slots hf hI hl; cases hf
    | succ n3 ih3 =>
      intro x4 M H locs ls cells slots hf hI hl
      rw [e_MD_compareRows_3] at hf
      have w34 : ∀ (n : Nat) (x4 : Int32) (x5 : Int32) (M : hM) (H : Heap) (locs : List Loc) (ls : Array Slot) (cells slots : Nat), (f_MD_compareRows_34 N h0 p0 p1 p2  n x4 x5).1 M = some Z → hm_I D dA hCl z k1 s M H locs cells slots → lv_has ls 7 [(0, .ref h0), (1, .int p0), (2, .int p1), (3, .int p2), (4, .int x4), (5, .int x5)] → W p l e R s m args below meth c H locs cells slots Q (F0 m 34 ls []) := by
        intro n
        induction n with
        | zero => intro x4 x5 M H locs ls cells slots hf hI hl; cases hf
        | succ n34 ih34 =>
          intro x4 x5 M H locs ls cells slots hf hI hl
          rw [e_MD_compareRows_34] at hf
          have w48 : ∀ (n : Nat) (x4 : Int32) (x5 : Int32) (x6 : Int32) (M : hM) (H : Heap) (locs : List Loc) (ls : Array Slot) (cells slots : Nat), (f_MD_compareRows_48 N h0 p0 p1 p2  ((f_MD_compareRows_34 N h0 p0 p1 p2 n34)) n x4 x5 x6).1 M = some Z → hm_I D dA hCl z k1 s M H locs cells slots → lv_has ls 7 [(0, .ref h0), (1, .int p0), (2, .int p1), (3, .int p2), (4, .int x4), (5, .int x5), (6, .int x6)] → W p l e R s m args below meth c H locs cells slots Q (F0 m 48 ls []) := by
            intro n
            induction n with
            | zero => intro x4 x5 x6 M H locs ls cells slots hf hI hl; cases hf
            | succ n48 ih48 =>
              intro x4 x5 x6 M H locs ls cells slots hf hI hl
              rw [e_MD_compareRows_48] at hf
              obtain ⟨J92, eJ92, hf⟩ := b_let_inv hf
              have w92 : ∀ (x4 : Int32) (x5 : Int32) (x6 : Int32) (M : hM) (H : Heap) (locs : List Loc) (ls : Array Slot) (cells slots : Nat), (J92 x4 x5 x6).1 M = some Z → hm_I D dA hCl z k1 s M H locs cells slots → lv_has ls 7 [(0, .ref h0), (1, .int p0), (2, .int p1), (3, .int p2), (4, .int x4), (5, .int x5), (6, .int x6)] → W p l e R s m args below meth c H locs cells slots Q (F0 m 92 ls []) := by
                intro x4 x5 x6 M H locs ls cells slots hf hI hl
                rw [eJ92] at hf
                refine x_iinc (v := 1) (lv2 := [(0, .ref h0), (1, .int p0), (2, .int p1), (3, .int p2), (4, .int x4), (5, .int x5)]) S d_MD_compareRows_92 hl 6 rfl (by decide) (by decide) [0, 1, 2, 3, 4, 5] rfl ⟨⟨(by decide : (0 : Nat) ≠ 6), fun h => absurd (show (0 : Nat) + 1 = 6 from h) (by decide)⟩, ⟨⟨(by decide : (1 : Nat) ≠ 6), fun h => absurd (show (1 : Nat) + 1 = 6 from h) (by decide)⟩, ⟨⟨(by decide : (2 : Nat) ≠ 6), fun h => absurd (show (2 : Nat) + 1 = 6 from h) (by decide)⟩, ⟨⟨(by decide : (3 : Nat) ≠ 6), fun h => absurd (show (3 : Nat) + 1 = 6 from h) (by decide)⟩, ⟨⟨(by decide : (4 : Nat) ≠ 6), fun h => absurd (show (4 : Nat) + 1 = 6 from h) (by decide)⟩, ⟨⟨(by decide : (5 : Nat) ≠ 6), fun _ => rfl⟩, trivial⟩⟩⟩⟩⟩⟩ (fun ls hl => ?_)
                refine lv_goto (tgt := 48) S.1 S.2.1 d_MD_compareRows_95 (by decide) ?_
                exact ih48 x4 x5 (x6 + 1) _ _ _ _ _ _ hf hI (lv_sub hl [1, 2, 3, 4, 5, 6, 0] rfl)
              obtain ⟨J98, eJ98, hf⟩ := b_let_inv hf
              have w98 : ∀ (x4 : Int32) (x5 : Int32) (x6 : Int32) (M : hM) (H : Heap) (locs : List Loc) (ls : Array Slot) (cells slots : Nat), (J98 x4 x5 x6).1 M = some Z → hm_I D dA hCl z k1 s M H locs cells slots → lv_has ls 7 [(0, .ref h0), (1, .int p0), (2, .int p1), (3, .int p2), (4, .int x4), (5, .int x5), (6, .int x6)] → W p l e R s m args below meth c H locs cells slots Q (F0 m 98 ls []) := by
                intro x4 x5 x6 M H locs ls cells slots hf hI hl
                rw [eJ98] at hf
                obtain ⟨J134, eJ134, hf⟩ := b_let_inv hf
                have w134 : ∀ (x4 : Int32) (x5 : Int32) (M : hM) (H : Heap) (locs : List Loc) (ls : Array Slot) (cells slots : Nat), (J134 x4 x5).1 M = some Z → hm_I D dA hCl z k1 s M H locs cells slots → lv_has ls 7 [(0, .ref h0), (1, .int p0), (2, .int p1), (3, .int p2), (4, .int x4), (5, .int x5)] → W p l e R s m args below meth c H locs cells slots Q (F0 m 134 ls []) := by
                  intro x4 x5 M H locs ls cells slots hf hI hl
                  rw [eJ134] at hf
                  refine x_iinc (v := 1) (lv2 := [(0, .ref h0), (1, .int p0), (2, .int p1), (3, .int p2), (4, .int x4)]) S d_MD_compareRows_134 hl 5 rfl (by decide) (by decide) [0, 1, 2, 3, 4] rfl ⟨⟨(by decide : (0 : Nat) ≠ 5), fun h => absurd (show (0 : Nat) + 1 = 5 from h) (by decide)⟩, ⟨⟨(by decide : (1 : Nat) ≠ 5), fun h => absurd (show (1 : Nat) + 1 = 5 from h) (by decide)⟩, ⟨⟨(by decide : (2 : Nat) ≠ 5), fun h => absurd (show (2 : Nat) + 1 = 5 from h) (by decide)⟩, ⟨⟨(by decide : (3 : Nat) ≠ 5), fun h => absurd (show (3 : Nat) + 1 = 5 from h) (by decide)⟩, ⟨⟨(by decide : (4 : Nat) ≠ 5), fun _ => rfl⟩, trivial⟩⟩⟩⟩⟩ (fun ls hl => ?_)
                  refine lv_goto (tgt := 34) S.1 S.2.1 d_MD_compareRows_137 (by decide) ?_
                  exact ih34 x4 (x5 + 1) _ _ _ _ _ _ hf hI (lv_sub hl [1, 2, 3, 4, 5, 0] rfl)
                refine lv_iload S.1 S.2.1 d_MD_compareRows_98 (lv_at hl 6 rfl) ?_
                refine lv_aload_n S.1 S.2.1 d_MD_compareRows_100 rfl (lv_at hl 0 rfl) ?_
                refine x_getR (ci := 1) (k := 13) S hK hI (fun w h => List.mem_cons_of_mem _ (i_MD w h)) rfl (by decide) (List.mem_cons_of_mem _ wd_532) rfl d_MD_compareRows_101 hf (fun r1 hf => ?_)
                refine lv_iload_n S.1 S.2.1 d_MD_compareRows_104 rfl (lv_at hl 2 rfl) ?_
                obtain ⟨a2, ea2, hg⟩ := b_nn_inv hf
                have hI0 := hI
                have hl0 := hl
                clear hf hI hl
                subst ea2
                have hf := hg
                have hI := hI0
                have hl := hl0
                clear hg hI0 hl0
                refine x_iald (t := 2) S hK hI rfl d_MD_compareRows_105 hf (fun v3 hf => ?_)
                refine lv_icmp_ge (tgt := 120) S.1 S.2.1 d_MD_compareRows_106 (by decide) (fun hc => ?_) (fun hc => ?_)
                · have hf := b_if_t hc hf
                  refine x_iinc (v := 1) (lv2 := [(0, .ref h0), (1, .int p0), (2, .int p1), (3, .int p2), (5, .int x5), (6, .int x6)]) S d_MD_compareRows_120 hl 4 rfl (by decide) (by decide) [0, 1, 2, 3, 5, 6] rfl ⟨⟨(by decide : (0 : Nat) ≠ 4), fun h => absurd (show (0 : Nat) + 1 = 4 from h) (by decide)⟩, ⟨⟨(by decide : (1 : Nat) ≠ 4), fun h => absurd (show (1 : Nat) + 1 = 4 from h) (by decide)⟩, ⟨⟨(by decide : (2 : Nat) ≠ 4), fun h => absurd (show (2 : Nat) + 1 = 4 from h) (by decide)⟩, ⟨⟨(by decide : (3 : Nat) ≠ 4), fun _ => rfl⟩, ⟨⟨(by decide : (5 : Nat) ≠ 4), fun h => absurd (show (5 : Nat) + 1 = 4 from h) (by decide)⟩, ⟨⟨(by decide : (6 : Nat) ≠ 4), fun h => absurd (show (6 : Nat) + 1 = 4 from h) (by decide)⟩, trivial⟩⟩⟩⟩⟩⟩ (fun ls hl => ?_)
                  refine lv_iload_n S.1 S.2.1 d_MD_compareRows_123 rfl (lv_at hl 4 rfl) ?_
                  refine lv_if_eq (tgt := 134) S.1 S.2.1 d_MD_compareRows_124 (by decide) (fun hc => ?_) (fun hc => ?_)
                  · have hf := b_if_t hc hf
                    exact w134 (x4 + 1) x5 _ _ _ _ _ _ hf hI (lv_sub hl [1, 2, 3, 4, 0, 5] rfl)
                  · have hf := b_if_f hc hf
                    refine lv_aload_n S.1 S.2.1 d_MD_compareRows_127 rfl (lv_at hl 1 rfl) ?_
                    refine lv_iconst (v := 0) S.1 S.2.1 d_MD_compareRows_128 (by decide) ?_
                    refine lv_iload S.1 S.2.1 d_MD_compareRows_129 (lv_at hl 5 rfl) ?_
                    obtain ⟨⟨fs7, hefs7⟩, hf⟩ := b_is_inv hf
                    obtain ⟨r4, N5, hg6, hf⟩ := b_call_inv hf
                    refine x_call hI (hm_mo hg6) (va_runV (As := [.int 0, .int x5]) (rest := []) S (c_MD_tell l hg6) (cwV 2 S.2.2.2.2 (gi_V wd_738 wd_739 wd_740 wd_564 wd_741) rfl rfl rfl (by decide +kernel) ⟨Nat.le_trans (Nat.le_of_ble_eq_true rfl) hRf.1, Nat.le_trans (Nat.le_of_ble_eq_true rfl) hRf.2⟩) ⟨hm_B.blind, va_recv hK (hI.1.one hefs7) (ci := 1) (q0 := 0) rfl rfl, fun U hU hW => ⟨rfl, hm_B.of hK hG hI hU hW⟩⟩ rfl rfl hl.1 rfl (lv_room (Nat.le_of_ble_eq_true rfl)) d_MD_compareRows_131 (hx_fit hI hR (hm_mo hg6) (hm_mo hf))) (fun H locs cells slots hI => ?_)
                    refine W.eq (g2 := F0 m 134 ls []) rfl ?_
                    exact w134 (x4 + 1) x5 _ _ _ _ _ _ hf hI (lv_sub hl [1, 2, 3, 4, 0, 5] rfl)
                · have hf := b_if_f hc hf
                  refine lv_aload_n S.1 S.2.1 d_MD_compareRows_109 rfl (lv_at hl 0 rfl) ?_
                  refine x_getR (ci := 1) (k := 42) S hK hI (fun w h => List.mem_cons_of_mem _ (i_MD w h)) rfl (by decide) (List.mem_cons_of_mem _ wd_555) rfl d_MD_compareRows_110 hf (fun r8 hf => ?_)
                  refine lv_iload S.1 S.2.1 d_MD_compareRows_113 (lv_at hl 6 rfl) ?_
                  refine lv_iconst (v := 1) S.1 S.2.1 d_MD_compareRows_115 (by decide) ?_
                  obtain ⟨a9, ea9, hg⟩ := b_nn_inv hf
                  have hI0 := hI
                  have hl0 := hl
                  clear hf hI hl
                  subst ea9
                  have hf := hg
                  have hI := hI0
                  have hl := hl0
                  clear hg hI0 hl0
                  refine x_zast (t := 5) S hK hI rfl d_MD_compareRows_116 hf (fun M H locs hf hI => ?_)
                  refine lv_goto (tgt := 134) S.1 S.2.1 d_MD_compareRows_117 (by decide) ?_
                  exact w134 x4 x5 _ _ _ _ _ _ hf hI (lv_sub hl [0, 1, 2, 3, 4, 5] rfl)
              refine lv_iload S.1 S.2.1 d_MD_compareRows_48 (lv_at hl 6 rfl) ?_
              refine lv_aload_n S.1 S.2.1 d_MD_compareRows_50 rfl (lv_at hl 0 rfl) ?_
              refine x_getR (ci := 1) (k := 13) S hK hI (fun w h => List.mem_cons_of_mem _ (i_MD w h)) rfl (by decide) (List.mem_cons_of_mem _ wd_532) rfl d_MD_compareRows_51 hf (fun r10 hf => ?_)
              refine lv_iload_n S.1 S.2.1 d_MD_compareRows_54 rfl (lv_at hl 2 rfl) ?_
              obtain ⟨a11, ea11, hg⟩ := b_nn_inv hf
              have hI0 := hI
              have hl0 := hl
              clear hf hI hl
              subst ea11
              have hf := hg
              have hI := hI0
              have hl := hl0
              clear hg hI0 hl0
              refine x_iald (t := 2) S hK hI rfl d_MD_compareRows_55 hf (fun v12 hf => ?_)
              refine lv_icmp_ge (tgt := 98) S.1 S.2.1 d_MD_compareRows_56 (by decide) (fun hc => ?_) (fun hc => ?_)
              · have hf := b_if_t hc hf
                exact w98 x4 x5 x6 _ _ _ _ _ _ hf hI (lv_sub hl [0, 1, 2, 3, 4, 5, 6] rfl)
              · have hf := b_if_f hc hf
                refine lv_aload_n S.1 S.2.1 d_MD_compareRows_59 rfl (lv_at hl 0 rfl) ?_
                refine x_getR (ci := 1) (k := 42) S hK hI (fun w h => List.mem_cons_of_mem _ (i_MD w h)) rfl (by decide) (List.mem_cons_of_mem _ wd_555) rfl d_MD_compareRows_60 hf (fun r13 hf => ?_)
                refine lv_iload S.1 S.2.1 d_MD_compareRows_63 (lv_at hl 6 rfl) ?_
                obtain ⟨a14, ea14, hg⟩ := b_nn_inv hf
                have hI0 := hI
                have hl0 := hl
                clear hf hI hl
                subst ea14
                have hf := hg
                have hI := hI0
                have hl := hl0
                clear hg hI0 hl0
                refine x_zald (t := 5) S hK hI rfl d_MD_compareRows_65 hf (fun v15 hf => ?_)
                refine lv_if_ne (tgt := 92) S.1 S.2.1 d_MD_compareRows_66 (by decide) (fun hc => ?_) (fun hc => ?_)
                · have hf := b_if_f hc hf
                  exact w92 x4 x5 x6 _ _ _ _ _ _ hf hI (lv_sub hl [0, 1, 2, 3, 4, 5, 6] rfl)
                · have hf := b_if_t hc hf
                  refine lv_aload_n S.1 S.2.1 d_MD_compareRows_69 rfl (lv_at hl 0 rfl) ?_
                  refine lv_sipush (v := 200) S.1 S.2.1 d_MD_compareRows_70 (by decide) ?_
                  refine lv_iload_n S.1 S.2.1 d_MD_compareRows_73 rfl (lv_at hl 1 rfl) ?_
                  refine lv_imul S.1 S.2.1 d_MD_compareRows_74 ?_
                  refine lv_iload S.1 S.2.1 d_MD_compareRows_75 (lv_at hl 5 rfl) ?_
                  refine lv_iadd S.1 S.2.1 d_MD_compareRows_77 ?_
                  refine lv_sipush (v := 200) S.1 S.2.1 d_MD_compareRows_78 (by decide) ?_
                  refine lv_iload_n S.1 S.2.1 d_MD_compareRows_81 rfl (lv_at hl 2 rfl) ?_
                  refine lv_imul S.1 S.2.1 d_MD_compareRows_82 ?_
                  refine lv_iload S.1 S.2.1 d_MD_compareRows_83 (lv_at hl 6 rfl) ?_
                  refine lv_iadd S.1 S.2.1 d_MD_compareRows_85 ?_
                  obtain ⟨⟨fs19, hefs19⟩, hf⟩ := b_is_inv hf
                  obtain ⟨v16, N17, hg18, hf⟩ := b_call_inv hf
                  refine x_call hI (hm_mo hg18) (va_runV (As := [.int ((200 * p0) + x5), .int ((200 * p1) + x6)]) (rest := []) S (c_MD_isLike l hg18) (cwV 2 S.2.2.2.2 (gi_V wd_742 wd_743 wd_744 wd_564 wd_745) rfl rfl rfl (by decide +kernel) ⟨Nat.le_trans (Nat.le_of_ble_eq_true rfl) hRf.1, Nat.le_trans (Nat.le_of_ble_eq_true rfl) hRf.2⟩) ⟨hm_B.blind, va_recv hK (hI.1.one hefs19) (ci := 1) (q0 := 0) rfl rfl, fun U hU hW => ⟨rfl, hm_B.of hK hG hI hU hW⟩⟩ rfl rfl hl.1 rfl (lv_room (Nat.le_of_ble_eq_true rfl)) d_MD_compareRows_86 (hx_fit hI hR (hm_mo hg18) (hm_mo hf))) (fun H locs cells slots hI => ?_)
                  refine W.eq (g2 := F0 m 89 ls [.int v16]) rfl ?_
                  refine lv_if_ne (tgt := 98) S.1 S.2.1 d_MD_compareRows_89 (by decide) (fun hc => ?_) (fun hc => ?_)
                  · have hf := b_if_f hc hf
                    exact w98 x4 x5 x6 _ _ _ _ _ _ hf hI (lv_sub hl [0, 1, 2, 3, 4, 5, 6] rfl)
                  · have hf := b_if_t hc hf
                    exact w92 x4 x5 x6 _ _ _ _ _ _ hf hI (lv_sub hl [0, 1, 2, 3, 4, 5, 6] rfl)
          have w143 : ∀ (n : Nat) (x4 : Int32) (x5 : Int32) (M : hM) (H : Heap) (locs : List Loc) (ls : Array Slot) (cells slots : Nat), (f_MD_compareRows_143 N h0 p0 p1 p2  n x4 x5).1 M = some Z → hm_I D dA hCl z k1 s M H locs cells slots → lv_has ls 7 [(0, .ref h0), (2, .int p1), (3, .int p2), (4, .int x4), (5, .int x5)] → W p l e R s m args below meth c H locs cells slots Q (F0 m 143 ls []) := by
            intro n
            induction n with
            | zero => intro x4 x5 M H locs ls cells slots hf hI hl; cases hf
            | succ n143 ih143 =>
              intro x4 x5 M H locs ls cells slots hf hI hl
              rw [e_MD_compareRows_143] at hf
              obtain ⟨J178, eJ178, hf⟩ := b_let_inv hf
              have w178 : ∀ (x4 : Int32) (x5 : Int32) (M : hM) (H : Heap) (locs : List Loc) (ls : Array Slot) (cells slots : Nat), (J178 x4 x5).1 M = some Z → hm_I D dA hCl z k1 s M H locs cells slots → lv_has ls 7 [(0, .ref h0), (2, .int p1), (3, .int p2), (4, .int x4), (5, .int x5)] → W p l e R s m args below meth c H locs cells slots Q (F0 m 178 ls []) := by
                intro x4 x5 M H locs ls cells slots hf hI hl
                rw [eJ178] at hf
                refine x_iinc (v := 1) (lv2 := [(0, .ref h0), (2, .int p1), (3, .int p2), (4, .int x4)]) S d_MD_compareRows_178 hl 4 rfl (by decide) (by decide) [0, 1, 2, 3] rfl ⟨⟨(by decide : (0 : Nat) ≠ 5), fun h => absurd (show (0 : Nat) + 1 = 5 from h) (by decide)⟩, ⟨⟨(by decide : (2 : Nat) ≠ 5), fun h => absurd (show (2 : Nat) + 1 = 5 from h) (by decide)⟩, ⟨⟨(by decide : (3 : Nat) ≠ 5), fun h => absurd (show (3 : Nat) + 1 = 5 from h) (by decide)⟩, ⟨⟨(by decide : (4 : Nat) ≠ 5), fun _ => rfl⟩, trivial⟩⟩⟩⟩ (fun ls hl => ?_)
                refine lv_goto (tgt := 143) S.1 S.2.1 d_MD_compareRows_181 (by decide) ?_
                exact ih143 x4 (x5 + 1) _ _ _ _ _ _ hf hI (lv_sub hl [1, 2, 3, 4, 0] rfl)
              refine lv_iload S.1 S.2.1 d_MD_compareRows_143 (lv_at hl 4 rfl) ?_
              refine lv_aload_n S.1 S.2.1 d_MD_compareRows_145 rfl (lv_at hl 0 rfl) ?_
              refine x_getR (ci := 1) (k := 13) S hK hI (fun w h => List.mem_cons_of_mem _ (i_MD w h)) rfl (by decide) (List.mem_cons_of_mem _ wd_532) rfl d_MD_compareRows_146 hf (fun r20 hf => ?_)
              refine lv_iload_n S.1 S.2.1 d_MD_compareRows_149 rfl (lv_at hl 1 rfl) ?_
              obtain ⟨a21, ea21, hg⟩ := b_nn_inv hf
              have hI0 := hI
              have hl0 := hl
              clear hf hI hl
              subst ea21
              have hf := hg
              have hI := hI0
              have hl := hl0
              clear hg hI0 hl0
              refine x_iald (t := 2) S hK hI rfl d_MD_compareRows_150 hf (fun v22 hf => ?_)
              refine lv_icmp_ge (tgt := 184) S.1 S.2.1 d_MD_compareRows_151 (by decide) (fun hc => ?_) (fun hc => ?_)
              · have hf := b_if_t hc hf
                refine lv_iload S.1 S.2.1 d_MD_compareRows_184 (lv_at hl 3 rfl) ?_
                exact hret _ _ _ _ _ _ _ _ d_MD_compareRows_186 hf hI
              · have hf := b_if_f hc hf
                refine lv_aload_n S.1 S.2.1 d_MD_compareRows_154 rfl (lv_at hl 0 rfl) ?_
                refine x_getR (ci := 1) (k := 42) S hK hI (fun w h => List.mem_cons_of_mem _ (i_MD w h)) rfl (by decide) (List.mem_cons_of_mem _ wd_555) rfl d_MD_compareRows_155 hf (fun r23 hf => ?_)
                refine lv_iload S.1 S.2.1 d_MD_compareRows_158 (lv_at hl 4 rfl) ?_
                obtain ⟨a24, ea24, hg⟩ := b_nn_inv hf
                have hI0 := hI
                have hl0 := hl
                clear hf hI hl
                subst ea24
                have hf := hg
                have hI := hI0
                have hl := hl0
                clear hg hI0 hl0
                refine x_zald (t := 5) S hK hI rfl d_MD_compareRows_160 hf (fun v25 hf => ?_)
                refine lv_if_ne (tgt := 178) S.1 S.2.1 d_MD_compareRows_161 (by decide) (fun hc => ?_) (fun hc => ?_)
                · have hf := b_if_f hc hf
                  exact w178 x4 x5 _ _ _ _ _ _ hf hI (lv_sub hl [0, 1, 2, 3, 4] rfl)
                · have hf := b_if_t hc hf
                  refine x_iinc (v := 1) (lv2 := [(0, .ref h0), (2, .int p1), (3, .int p2), (5, .int x5)]) S d_MD_compareRows_164 hl 3 rfl (by decide) (by decide) [0, 1, 2, 4] rfl ⟨⟨(by decide : (0 : Nat) ≠ 4), fun h => absurd (show (0 : Nat) + 1 = 4 from h) (by decide)⟩, ⟨⟨(by decide : (2 : Nat) ≠ 4), fun h => absurd (show (2 : Nat) + 1 = 4 from h) (by decide)⟩, ⟨⟨(by decide : (3 : Nat) ≠ 4), fun _ => rfl⟩, ⟨⟨(by decide : (5 : Nat) ≠ 4), fun h => absurd (show (5 : Nat) + 1 = 4 from h) (by decide)⟩, trivial⟩⟩⟩⟩ (fun ls hl => ?_)
                  refine lv_iload_n S.1 S.2.1 d_MD_compareRows_167 rfl (lv_at hl 3 rfl) ?_
                  refine lv_if_eq (tgt := 178) S.1 S.2.1 d_MD_compareRows_168 (by decide) (fun hc => ?_) (fun hc => ?_)
                  · have hf := b_if_t hc hf
                    exact w178 (x4 + 1) x5 _ _ _ _ _ _ hf hI (lv_sub hl [1, 2, 3, 0, 4] rfl)
                  · have hf := b_if_f hc hf
                    refine lv_aload_n S.1 S.2.1 d_MD_compareRows_171 rfl (lv_at hl 1 rfl) ?_
                    refine lv_iconst (v := 1) S.1 S.2.1 d_MD_compareRows_172 (by decide) ?_
                    refine lv_iload S.1 S.2.1 d_MD_compareRows_173 (lv_at hl 4 rfl) ?_
                    obtain ⟨⟨fs29, hefs29⟩, hf⟩ := b_is_inv hf
                    obtain ⟨r26, N27, hg28, hf⟩ := b_call_inv hf
                    refine x_call hI (hm_mo hg28) (va_runV (As := [.int 1, .int x5]) (rest := []) S (c_MD_tell l hg28) (cwV 2 S.2.2.2.2 (gi_V wd_738 wd_739 wd_740 wd_564 wd_741) rfl rfl rfl (by decide +kernel) ⟨Nat.le_trans (Nat.le_of_ble_eq_true rfl) hRf.1, Nat.le_trans (Nat.le_of_ble_eq_true rfl) hRf.2⟩) ⟨hm_B.blind, va_recv hK (hI.1.one hefs29) (ci := 1) (q0 := 0) rfl rfl, fun U hU hW => ⟨rfl, hm_B.of hK hG hI hU hW⟩⟩ rfl rfl hl.1 rfl (lv_room (Nat.le_of_ble_eq_true rfl)) d_MD_compareRows_175 (hx_fit hI hR (hm_mo hg28) (hm_mo hf))) (fun H locs cells slots hI => ?_)
                    refine W.eq (g2 := F0 m 178 ls []) rfl ?_
                    exact w178 (x4 + 1) x5 _ _ _ _ _ _ hf hI (lv_sub hl [1, 2, 3, 0, 4] rfl)
          refine lv_iload S.1 S.2.1 d_MD_compareRows_34 (lv_at hl 5 rfl) ?_
          refine lv_aload_n S.1 S.2.1 d_MD_compareRows_36 rfl (lv_at hl 0 rfl) ?_
          refine x_getR (ci := 1) (k := 13) S hK hI (fun w h => List.mem_cons_of_mem _ (i_MD w h)) rfl (by decide) (List.mem_cons_of_mem _ wd_532) rfl d_MD_compareRows_37 hf (fun r30 hf => ?_)
          refine lv_iload_n S.1 S.2.1 d_MD_compareRows_40 rfl (lv_at hl 1 rfl) ?_
          obtain ⟨a31, ea31, hg⟩ := b_nn_inv hf
          have hI0 := hI
          have hl0 := hl
          clear hf hI hl
          subst ea31
          have hf := hg
          have hI := hI0
          have hl := hl0
          clear hg hI0 hl0
          refine x_iald (t := 2) S hK hI rfl d_MD_compareRows_41 hf (fun v32 hf => ?_)
          refine lv_icmp_ge (tgt := 140) S.1 S.2.1 d_MD_compareRows_42 (by decide) (fun hc => ?_) (fun hc => ?_)
          · have hf := b_if_t hc hf
            refine lv_iconst (v := 0) S.1 S.2.1 d_MD_compareRows_140 (by decide) ?_
            refine x_istore (lv2 := [(0, .ref h0), (1, .int p0), (2, .int p1), (3, .int p2), (4, .int x4)]) S d_MD_compareRows_141 hl (by decide) [0, 1, 2, 3, 4] rfl ⟨⟨(by decide : (0 : Nat) ≠ 5), fun h => absurd (show (0 : Nat) + 1 = 5 from h) (by decide)⟩, ⟨⟨(by decide : (1 : Nat) ≠ 5), fun h => absurd (show (1 : Nat) + 1 = 5 from h) (by decide)⟩, ⟨⟨(by decide : (2 : Nat) ≠ 5), fun h => absurd (show (2 : Nat) + 1 = 5 from h) (by decide)⟩, ⟨⟨(by decide : (3 : Nat) ≠ 5), fun h => absurd (show (3 : Nat) + 1 = 5 from h) (by decide)⟩, ⟨⟨(by decide : (4 : Nat) ≠ 5), fun _ => rfl⟩, trivial⟩⟩⟩⟩⟩ (fun ls hl => ?_)
            exact w143 N x4 0 _ _ _ _ _ _ hf hI (lv_sub hl [1, 3, 4, 5, 0] rfl)
          · have hf := b_if_f hc hf
            refine lv_iconst (v := 0) S.1 S.2.1 d_MD_compareRows_45 (by decide) ?_
            refine x_istore (lv2 := [(0, .ref h0), (1, .int p0), (2, .int p1), (3, .int p2), (4, .int x4), (5, .int x5)]) S d_MD_compareRows_46 hl (by decide) [0, 1, 2, 3, 4, 5] rfl ⟨⟨(by decide : (0 : Nat) ≠ 6), fun h => absurd (show (0 : Nat) + 1 = 6 from h) (by decide)⟩, ⟨⟨(by decide : (1 : Nat) ≠ 6), fun h => absurd (show (1 : Nat) + 1 = 6 from h) (by decide)⟩, ⟨⟨(by decide : (2 : Nat) ≠ 6), fun h => absurd (show (2 : Nat) + 1 = 6 from h) (by decide)⟩, ⟨⟨(by decide : (3 : Nat) ≠ 6), fun h => absurd (show (3 : Nat) + 1 = 6 from h) (by decide)⟩, ⟨⟨(by decide : (4 : Nat) ≠ 6), fun h => absurd (show (4 : Nat) + 1 = 6 from h) (by decide)⟩, ⟨⟨(by decide : (5 : Nat) ≠ 6), fun _ => rfl⟩, trivial⟩⟩⟩⟩⟩⟩ (fun ls hl => ?_)
            exact w48 N x4 x5 0 _ _ _ _ _ _ hf hI (lv_sub hl [1, 2, 3, 4, 5, 6, 0] rfl)
      refine lv_iload S.1 S.2.1 d_MD_compareRows_3 (lv_at hl 4 rfl) ?_
      refine lv_aload_n S.1 S.2.1 d_MD_compareRows_5 rfl (lv_at hl 0 rfl) ?_
      refine x_getR (ci := 1) (k := 13) S hK hI (fun w h => List.mem_cons_of_mem _ (i_MD w h)) rfl (by decide) (List.mem_cons_of_mem _ wd_532) rfl d_MD_compareRows_6 hf (fun r33 hf => ?_)
      refine lv_iload_n S.1 S.2.1 d_MD_compareRows_9 rfl (lv_at hl 2 rfl) ?_
      obtain ⟨a34, ea34, hg⟩ := b_nn_inv hf
      have hI0 := hI
      have hl0 := hl
      clear hf hI hl
      subst ea34
      have hf := hg
      have hI := hI0
      have hl := hl0
      clear hg hI0 hl0
      refine x_iald (t := 2) S hK hI rfl d_MD_compareRows_10 hf (fun v35 hf => ?_)
      refine lv_icmp_ge (tgt := 28) S.1 S.2.1 d_MD_compareRows_11 (by decide) (fun hc => ?_) (fun hc => ?_)
      · have hf := b_if_t hc hf
        refine lv_iconst (v := 0) S.1 S.2.1 d_MD_compareRows_28 (by decide) ?_
        refine x_istore (lv2 := [(0, .ref h0), (1, .int p0), (2, .int p1), (3, .int p2)]) S d_MD_compareRows_29 hl (by decide) [0, 1, 2, 3] rfl ⟨⟨(by decide : (0 : Nat) ≠ 4), fun h => absurd (show (0 : Nat) + 1 = 4 from h) (by decide)⟩, ⟨⟨(by decide : (1 : Nat) ≠ 4), fun h => absurd (show (1 : Nat) + 1 = 4 from h) (by decide)⟩, ⟨⟨(by decide : (2 : Nat) ≠ 4), fun h => absurd (show (2 : Nat) + 1 = 4 from h) (by decide)⟩, ⟨⟨(by decide : (3 : Nat) ≠ 4), fun _ => rfl⟩, trivial⟩⟩⟩⟩ (fun ls hl => ?_)
        refine lv_iconst (v := 0) S.1 S.2.1 d_MD_compareRows_31 (by decide) ?_
        refine x_istore (lv2 := [(4, .int 0), (0, .ref h0), (1, .int p0), (2, .int p1), (3, .int p2)]) S d_MD_compareRows_32 hl (by decide) [0, 1, 2, 3, 4] rfl ⟨⟨(by decide : (4 : Nat) ≠ 5), fun _ => rfl⟩, ⟨⟨(by decide : (0 : Nat) ≠ 5), fun h => absurd (show (0 : Nat) + 1 = 5 from h) (by decide)⟩, ⟨⟨(by decide : (1 : Nat) ≠ 5), fun h => absurd (show (1 : Nat) + 1 = 5 from h) (by decide)⟩, ⟨⟨(by decide : (2 : Nat) ≠ 5), fun h => absurd (show (2 : Nat) + 1 = 5 from h) (by decide)⟩, ⟨⟨(by decide : (3 : Nat) ≠ 5), fun h => absurd (show (3 : Nat) + 1 = 5 from h) (by decide)⟩, trivial⟩⟩⟩⟩⟩ (fun ls hl => ?_)
        exact w34 N 0 0 _ _ _ _ _ _ hf hI (lv_sub hl [2, 3, 4, 5, 1, 0] rfl)
      · have hf := b_if_f hc hf
        refine lv_aload_n S.1 S.2.1 d_MD_compareRows_14 rfl (lv_at hl 0 rfl) ?_
        refine x_getR (ci := 1) (k := 42) S hK hI (fun w h => List.mem_cons_of_mem _ (i_MD w h)) rfl (by decide) (List.mem_cons_of_mem _ wd_555) rfl d_MD_compareRows_15 hf (fun r36 hf => ?_)
        refine lv_iload S.1 S.2.1 d_MD_compareRows_18 (lv_at hl 4 rfl) ?_
        refine lv_iconst (v := 0) S.1 S.2.1 d_MD_compareRows_20 (by decide) ?_
        obtain ⟨a37, ea37, hg⟩ := b_nn_inv hf
        have hI0 := hI
        have hl0 := hl
        clear hf hI hl
        subst ea37
        have hf := hg
        have hI := hI0
        have hl := hl0
        clear hg hI0 hl0
        refine x_zast (t := 5) S hK hI rfl d_MD_compareRows_21 hf (fun M H locs hf hI => ?_)
        refine x_iinc (v := 1) (lv2 := [(0, .ref h0), (1, .int p0), (2, .int p1), (3, .int p2)]) S d_MD_compareRows_22 hl 4 rfl (by decide) (by decide) [0, 1, 2, 3] rfl ⟨⟨(by decide : (0 : Nat) ≠ 4), fun h => absurd (show (0 : Nat) + 1 = 4 from h) (by decide)⟩, ⟨⟨(by decide : (1 : Nat) ≠ 4), fun h => absurd (show (1 : Nat) + 1 = 4 from h) (by decide)⟩, ⟨⟨(by decide : (2 : Nat) ≠ 4), fun h => absurd (show (2 : Nat) + 1 = 4 from h) (by decide)⟩, ⟨⟨(by decide : (3 : Nat) ≠ 4), fun _ => rfl⟩, trivial⟩⟩⟩⟩ (fun ls hl => ?_)
        refine lv_goto (tgt := 3) S.1 S.2.1 d_MD_compareRows_25 (by decide) ?_
        exact ih3 (x4 + 1) _ _ _ _ _ _ hf hI (lv_sub hl [1, 2, 3, 4, 0] rfl)
  refine lv_iconst (v := 0) S.1 S.2.1 d_MD_compareRows_0 (by decide) ?_
  refine x_istore (lv2 := [(0, .ref h0), (1, .int p0), (2, .int p1), (3, .int p2)]) S d_MD_compareRows_1 hl (by decide) [0, 1, 2, 3] rfl ⟨⟨(by decide : (0 : Nat) ≠ 4), fun h => absurd (show (0 : Nat) + 1 = 4 from h) (by decide)⟩, ⟨⟨(by decide : (1 : Nat) ≠ 4), fun h => absurd (show (1 : Nat) + 1 = 4 from h) (by decide)⟩, ⟨⟨(by decide : (2 : Nat) ≠ 4), fun h => absurd (show (2 : Nat) + 1 = 4 from h) (by decide)⟩, ⟨⟨(by decide : (3 : Nat) ≠ 4), fun _ => rfl⟩, trivial⟩⟩⟩⟩ (fun ls hl => ?_)
  exact w3 N 0 _ _ _ _ _ _ hf hI (lv_sub hl [1, 2, 3, 4, 0] rfl)
set_option maxHeartbeats 4000000 in
set_option maxRecDepth 100000 in
theorem c_MD_hasAll (l : Launch) {D : va_G} {dA : Nat → ClassId} {aK aV : Nat → Nat} {z : Nat} {N : Nat} {h0 : Nat} {p0 : Int32} {p1 : Int32} {M : hM} {Z : Int32 × hM} (hf : (f_MD_hasAll N h0 p0 p1).1 M = some Z) : Met l y_MD_hasAll w_MD_hasAll ({ frames := 4, cells := Z.2.2.1 - M.2.1, slots := Z.2.2.2 - M.2.2, locals := 100 }) (va_Pc [.ref h0, .int p0, .int p1] (hm_B D dA hCl (hTy dA) sT aK aV z M)) (hm_Q D dA hCl (hTy dA) sT aK aV z (some (.int Z.1)) Z.2) (Z.2.2.1 - M.2.1) (Z.2.2.2 - M.2.2) (fun q => z ≤ q) := by
  refine Met.ofW (cc := b_MD_hasAll) (maxL := 5) (ret := (some .boolean)) (by decide) rfl ?_
  intro p e s m args below meth c s₁ B hml hv
  obtain ⟨hav, hB⟩ := hv
  have S : CallFix p m c b_MD_hasAll 5 s args w_MD_hasAll R_MD := ⟨B.exec, B.bytes, hml, findClass_of_methodNamed B.named, atoms_spec (ws := w_MD_hasAll) B.pre⟩
  have hr : meth.sig.returnType = (some .boolean) := B.returns
  have hlocks := B.notSynchronized
  have hK := hB.2.2.1
  have hG := hB.2.2.2.2.2
  have hI := hm_I.start hB
  rw [← hB.2.1]
  generalize M.2.2 = k1 at hI ⊢
  refine W.eq (g2 := F0 m 0 ((lg_sl ([.ref h0, .int p0, .int p1]) ++ List.replicate (5 - (lg_sl ([.ref h0, .int p0, .int p1])).length) Slot.unset).toArray) []) (by rw [hav]; exact lg_entry_eq m ([.ref h0, .int p0, .int p1]) 5) ?_
  have hl := lv_entry ([.ref h0, .int p0, .int p1]) (n := 5) (Nat.le_of_ble_eq_true rfl)
  generalize (lg_sl ([.ref h0, .int p0, .int p1]) ++ List.replicate (5 - (lg_sl ([.ref h0, .int p0, .int p1])).length) Slot.unset).toArray = ls at hl ⊢
  simp only [lvA_nil, lvA_i, lvA_l, lvA_a, lvA_r, Nat.zero_add, Nat.reduceAdd] at hl
  have hret : ∀ (v : Int32) (M : hM) (H : Heap) (locs : List Loc) (cells slots : Nat) (ls : Array Slot) (pc : Nat), decode b_MD_hasAll pc = .ok (.ireturn, 1) → (b_retN .boolean v).1 M = some Z → hm_I D dA hCl z k1 s M H locs cells slots → W p l e (headSpec w_MD_hasAll { frames := 4, cells := Z.2.2.1 - s.heap.size, slots := Z.2.2.2 - k1, locals := 100 }).room s m args below meth c H locs cells slots (MQ below (hm_Q D dA hCl (hTy dA) sT aK aV z (some (.int Z.1)) Z.2) args s (Z.2.2.1 - s.heap.size) (Z.2.2.2 - k1) (fun q => z ≤ q)) (F0 m pc ls [.int v]) := fun v M H locs cells slots ls pc hdg hf hI => x_retn S hK hG hI hr hlocks hdg hf
  have hR : Z.2.2.1 - s.heap.size ≤ (headSpec w_MD_hasAll { frames := 4, cells := Z.2.2.1 - s.heap.size, slots := Z.2.2.2 - k1, locals := 100 }).room.cells ∧ Z.2.2.2 - k1 ≤ (headSpec w_MD_hasAll { frames := 4, cells := Z.2.2.1 - s.heap.size, slots := Z.2.2.2 - k1, locals := 100 }).room.slots := ⟨Nat.le_refl _, Nat.le_refl _⟩
  have hRf : 4 ≤ (headSpec w_MD_hasAll { frames := 4, cells := Z.2.2.1 - s.heap.size, slots := Z.2.2.2 - k1, locals := 100 }).room.frames ∧ 100 ≤ (headSpec w_MD_hasAll { frames := 4, cells := Z.2.2.1 - s.heap.size, slots := Z.2.2.2 - k1, locals := 100 }).room.locals := ⟨Nat.le_refl _, Nat.le_refl _⟩
  generalize (headSpec w_MD_hasAll { frames := 4, cells := Z.2.2.1 - s.heap.size, slots := Z.2.2.2 - k1, locals := 100 }).room = R at hret hR hRf ⊢
  generalize (MQ below (hm_Q D dA hCl (hTy dA) sT aK aV z (some (.int Z.1)) Z.2) args s (Z.2.2.1 - s.heap.size) (Z.2.2.2 - k1) (fun q => z ≤ q)) = Q at hret ⊢
  rw [e_MD_hasAll] at hf
  have w9 : ∀ (n : Nat) (x3 : Int32) (x4 : Int32) (M : hM) (H : Heap) (locs : List Loc) (ls : Array Slot) (cells slots : Nat), (f_MD_hasAll_9 N h0 p0 p1  n x3 x4).1 M = some Z → hm_I D dA hCl z k1 s M H locs cells slots → lv_has ls 5 [(0, .ref h0), (1, .int p0), (2, .int p1), (3, .int x3), (4, .int x4)] → W p l e R s m args below meth c H locs cells slots Q (F0 m 9 ls []) := by
    intro n
    induction n with
    | zero => intro x3 x4 M H locs ls cells slots hf hI hl; cases hf
    | succ n9 ih9 =>
      intro x3 x4 M H locs ls cells slots hf hI hl
      rw [e_MD_hasAll_9] at hf
      obtain ⟨J59, eJ59, hf⟩ := b_let_inv hf
      have w59 : ∀ (x4 : Int32) (y0 : Int32) (M : hM) (H : Heap) (locs : List Loc) (ls : Array Slot) (cells slots : Nat), (J59 x4 y0).1 M = some Z → hm_I D dA hCl z k1 s M H locs cells slots → lv_has ls 5 [(0, .ref h0), (1, .int p0), (2, .int p1), (4, .int x4)] → W p l e R s m args below meth c H locs cells slots Q (F0 m 59 ls [.int y0]) := by
        intro x4 y0 M H locs ls cells slots hf hI hl
        rw [eJ59] at hf
        refine x_istore_n (lv2 := [(0, .ref h0), (1, .int p0), (2, .int p1), (4, .int x4)]) S d_MD_hasAll_59 rfl hl (by decide) [0, 1, 2, 3] rfl ⟨⟨(by decide : (0 : Nat) ≠ 3), fun h => absurd (show (0 : Nat) + 1 = 3 from h) (by decide)⟩, ⟨⟨(by decide : (1 : Nat) ≠ 3), fun h => absurd (show (1 : Nat) + 1 = 3 from h) (by decide)⟩, ⟨⟨(by decide : (2 : Nat) ≠ 3), fun _ => rfl⟩, ⟨⟨(by decide : (4 : Nat) ≠ 3), fun h => absurd (show (4 : Nat) + 1 = 3 from h) (by decide)⟩, trivial⟩⟩⟩⟩ (fun ls hl => ?_)
        refine x_iinc (v := 1) (lv2 := [(3, .int y0), (0, .ref h0), (1, .int p0), (2, .int p1)]) S d_MD_hasAll_60 hl 4 rfl (by decide) (by decide) [0, 1, 2, 3] rfl ⟨⟨(by decide : (3 : Nat) ≠ 4), fun _ => rfl⟩, ⟨⟨(by decide : (0 : Nat) ≠ 4), fun h => absurd (show (0 : Nat) + 1 = 4 from h) (by decide)⟩, ⟨⟨(by decide : (1 : Nat) ≠ 4), fun h => absurd (show (1 : Nat) + 1 = 4 from h) (by decide)⟩, ⟨⟨(by decide : (2 : Nat) ≠ 4), fun h => absurd (show (2 : Nat) + 1 = 4 from h) (by decide)⟩, trivial⟩⟩⟩⟩ (fun ls hl => ?_)
        refine lv_goto (tgt := 9) S.1 S.2.1 d_MD_hasAll_63 (by decide) ?_
        exact ih9 y0 (x4 + 1) _ _ _ _ _ _ hf hI (lv_sub hl [2, 3, 4, 1, 0] rfl)
      obtain ⟨J58, eJ58, hf⟩ := b_let_inv hf
      have w58 : ∀ (x4 : Int32) (M : hM) (H : Heap) (locs : List Loc) (ls : Array Slot) (cells slots : Nat), (J58 x4).1 M = some Z → hm_I D dA hCl z k1 s M H locs cells slots → lv_has ls 5 [(0, .ref h0), (1, .int p0), (2, .int p1), (4, .int x4)] → W p l e R s m args below meth c H locs cells slots Q (F0 m 58 ls []) := by
        intro x4 M H locs ls cells slots hf hI hl
        rw [eJ58] at hf
        refine lv_iconst (v := 0) S.1 S.2.1 d_MD_hasAll_58 (by decide) ?_
        exact w59 x4 0 _ _ _ _ _ _ hf hI (lv_sub hl [0, 1, 2, 3] rfl)
      refine lv_iload S.1 S.2.1 d_MD_hasAll_9 (lv_at hl 4 rfl) ?_
      refine lv_sipush (v := 250) S.1 S.2.1 d_MD_hasAll_11 (by decide) ?_
      refine lv_iload_n S.1 S.2.1 d_MD_hasAll_14 rfl (lv_at hl 1 rfl) ?_
      refine lv_imul S.1 S.2.1 d_MD_hasAll_15 ?_
      refine lv_aload_n S.1 S.2.1 d_MD_hasAll_16 rfl (lv_at hl 0 rfl) ?_
      refine x_getR (ci := 1) (k := 14) S hK hI (fun w h => List.mem_cons_of_mem _ (i_MD w h)) rfl (by decide) (List.mem_cons_of_mem _ wd_533) rfl d_MD_hasAll_17 hf (fun r1 hf => ?_)
      refine lv_iload_n S.1 S.2.1 d_MD_hasAll_20 rfl (lv_at hl 1 rfl) ?_
      obtain ⟨a2, ea2, hg⟩ := b_nn_inv hf
      have hI0 := hI
      have hl0 := hl
      clear hf hI hl
      subst ea2
      have hf := hg
      have hI := hI0
      have hl := hl0
      clear hg hI0 hl0
      refine x_iald (t := 2) S hK hI rfl d_MD_hasAll_21 hf (fun v3 hf => ?_)
      refine lv_iadd S.1 S.2.1 d_MD_hasAll_22 ?_
      refine lv_icmp_ge (tgt := 66) S.1 S.2.1 d_MD_hasAll_23 (by decide) (fun hc => ?_) (fun hc => ?_)
      · have hf := b_if_t hc hf
        refine lv_iload_n S.1 S.2.1 d_MD_hasAll_66 rfl (lv_at hl 3 rfl) ?_
        exact hret _ _ _ _ _ _ _ _ d_MD_hasAll_67 hf hI
      · have hf := b_if_f hc hf
        refine lv_iload_n S.1 S.2.1 d_MD_hasAll_26 rfl (lv_at hl 3 rfl) ?_
        refine lv_if_eq (tgt := 58) S.1 S.2.1 d_MD_hasAll_27 (by decide) (fun hc => ?_) (fun hc => ?_)
        · have hf := b_if_t hc hf
          exact w58 x4 _ _ _ _ _ _ hf hI (lv_sub hl [0, 1, 2, 4] rfl)
        · have hf := b_if_f hc hf
          refine lv_aload_n S.1 S.2.1 d_MD_hasAll_30 rfl (lv_at hl 0 rfl) ?_
          refine lv_iload_n S.1 S.2.1 d_MD_hasAll_31 rfl (lv_at hl 2 rfl) ?_
          refine lv_aload_n S.1 S.2.1 d_MD_hasAll_32 rfl (lv_at hl 0 rfl) ?_
          refine x_getR (ci := 1) (k := 17) S hK hI (fun w h => List.mem_cons_of_mem _ (i_MD w h)) rfl (by decide) (List.mem_cons_of_mem _ wd_537) rfl d_MD_hasAll_33 hf (fun r4 hf => ?_)
          refine lv_bipush (v := 20) S.1 S.2.1 d_MD_hasAll_36 (by decide) ?_
          refine lv_iload S.1 S.2.1 d_MD_hasAll_38 (lv_at hl 4 rfl) ?_
          refine lv_imul S.1 S.2.1 d_MD_hasAll_40 ?_
          refine lv_aload_n S.1 S.2.1 d_MD_hasAll_41 rfl (lv_at hl 0 rfl) ?_
          refine x_getR (ci := 1) (k := 18) S hK hI (fun w h => List.mem_cons_of_mem _ (i_MD w h)) rfl (by decide) (List.mem_cons_of_mem _ wd_538) rfl d_MD_hasAll_42 hf (fun r5 hf => ?_)
          refine lv_iload S.1 S.2.1 d_MD_hasAll_45 (lv_at hl 4 rfl) ?_
          obtain ⟨a6, ea6, hg⟩ := b_nn_inv hf
          have hI0 := hI
          have hl0 := hl
          clear hf hI hl
          subst ea6
          have hf := hg
          have hI := hI0
          have hl := hl0
          clear hg hI0 hl0
          refine x_iald (t := 2) S hK hI rfl d_MD_hasAll_47 hf (fun v7 hf => ?_)
          obtain ⟨⟨fs11, hefs11⟩, hf⟩ := b_is_inv hf
          obtain ⟨v8, N9, hg10, hf⟩ := b_call_inv hf
          refine x_call hI (hm_mo hg10) (va_runV (As := [.int p1, va_rf r4, .int (20 * x4), .int v7]) (rest := []) S (c_MD_isFeature l hg10) (cwV 4 S.2.2.2.2 (gi_V wd_688 wd_689 wd_690 wd_564 wd_691) rfl rfl rfl (by decide +kernel) ⟨Nat.le_trans (Nat.le_of_ble_eq_true rfl) hRf.1, Nat.le_trans (Nat.le_of_ble_eq_true rfl) hRf.2⟩) ⟨hm_B.blind, va_recv hK (hI.1.one hefs11) (ci := 1) (q0 := 0) rfl rfl, fun U hU hW => ⟨rfl, hm_B.of hK hG hI hU hW⟩⟩ rfl rfl hl.1 rfl (lv_room (Nat.le_of_ble_eq_true rfl)) d_MD_hasAll_48 (hx_fit hI hR (hm_mo hg10) (hm_mo hf))) (fun H locs cells slots hI => ?_)
          refine W.eq (g2 := F0 m 51 ls [.int v8]) rfl ?_
          refine lv_if_eq (tgt := 58) S.1 S.2.1 d_MD_hasAll_51 (by decide) (fun hc => ?_) (fun hc => ?_)
          · have hf := b_if_t hc hf
            exact w58 x4 _ _ _ _ _ _ hf hI (lv_sub hl [0, 1, 2, 4] rfl)
          · have hf := b_if_f hc hf
            refine lv_iconst (v := 1) S.1 S.2.1 d_MD_hasAll_54 (by decide) ?_
            refine lv_goto (tgt := 59) S.1 S.2.1 d_MD_hasAll_55 (by decide) ?_
            exact w59 x4 1 _ _ _ _ _ _ hf hI (lv_sub hl [0, 1, 2, 4] rfl)
  refine lv_iconst (v := 1) S.1 S.2.1 d_MD_hasAll_0 (by decide) ?_
  refine x_istore_n (lv2 := [(0, .ref h0), (1, .int p0), (2, .int p1)]) S d_MD_hasAll_1 rfl hl (by decide) [0, 1, 2] rfl ⟨⟨(by decide : (0 : Nat) ≠ 3), fun h => absurd (show (0 : Nat) + 1 = 3 from h) (by decide)⟩, ⟨⟨(by decide : (1 : Nat) ≠ 3), fun h => absurd (show (1 : Nat) + 1 = 3 from h) (by decide)⟩, ⟨⟨(by decide : (2 : Nat) ≠ 3), fun _ => rfl⟩, trivial⟩⟩⟩ (fun ls hl => ?_)
  refine lv_sipush (v := 250) S.1 S.2.1 d_MD_hasAll_2 (by decide) ?_
  refine lv_iload_n S.1 S.2.1 d_MD_hasAll_5 rfl (lv_at hl 2 rfl) ?_
  refine lv_imul S.1 S.2.1 d_MD_hasAll_6 ?_
  refine x_istore (lv2 := [(3, .int 1), (0, .ref h0), (1, .int p0), (2, .int p1)]) S d_MD_hasAll_7 hl (by decide) [0, 1, 2, 3] rfl ⟨⟨(by decide : (3 : Nat) ≠ 4), fun _ => rfl⟩, ⟨⟨(by decide : (0 : Nat) ≠ 4), fun h => absurd (show (0 : Nat) + 1 = 4 from h) (by decide)⟩, ⟨⟨(by decide : (1 : Nat) ≠ 4), fun h => absurd (show (1 : Nat) + 1 = 4 from h) (by decide)⟩, ⟨⟨(by decide : (2 : Nat) ≠ 4), fun h => absurd (show (2 : Nat) + 1 = 4 from h) (by decide)⟩, trivial⟩⟩⟩⟩ (fun ls hl => ?_)
  exact w9 N 1 (250 * p0) _ _ _ _ _ _ hf hI (lv_sub hl [2, 3, 4, 1, 0] rfl)
set_option maxHeartbeats 4000000 in
set_option maxRecDepth 100000 in
theorem c_MD_same (l : Launch) {D : va_G} {dA : Nat → ClassId} {aK aV : Nat → Nat} {z : Nat} {N : Nat} {h0 : Nat} {p0 : Int32} {p1 : Int32} {M : hM} {Z : Int32 × hM} (hf : (f_MD_same N h0 p0 p1).1 M = some Z) : Met l y_MD_same w_MD_same ({ frames := 6, cells := Z.2.2.1 - M.2.1, slots := Z.2.2.2 - M.2.2, locals := 146 }) (va_Pc [.ref h0, .int p0, .int p1] (hm_B D dA hCl (hTy dA) sT aK aV z M)) (hm_Q D dA hCl (hTy dA) sT aK aV z (some (.int Z.1)) Z.2) (Z.2.2.1 - M.2.1) (Z.2.2.2 - M.2.2) (fun q => z ≤ q) := by
  refine Met.ofW (cc := b_MD_same) (maxL := 3) (ret := (some .boolean)) (by decide) rfl ?_
  intro p e s m args below meth c s₁ B hml hv
  obtain ⟨hav, hB⟩ := hv
  have S : CallFix p m c b_MD_same 3 s args w_MD_same R_MD := ⟨B.exec, B.bytes, hml, findClass_of_methodNamed B.named, atoms_spec (ws := w_MD_same) B.pre⟩
  have hr : meth.sig.returnType = (some .boolean) := B.returns
  have hlocks := B.notSynchronized
  have hK := hB.2.2.1
  have hG := hB.2.2.2.2.2
  have hI := hm_I.start hB
  rw [← hB.2.1]
  generalize M.2.2 = k1 at hI ⊢
  refine W.eq (g2 := F0 m 0 ((lg_sl ([.ref h0, .int p0, .int p1]) ++ List.replicate (3 - (lg_sl ([.ref h0, .int p0, .int p1])).length) Slot.unset).toArray) []) (by rw [hav]; exact lg_entry_eq m ([.ref h0, .int p0, .int p1]) 3) ?_
  have hl := lv_entry ([.ref h0, .int p0, .int p1]) (n := 3) (Nat.le_of_ble_eq_true rfl)
  generalize (lg_sl ([.ref h0, .int p0, .int p1]) ++ List.replicate (3 - (lg_sl ([.ref h0, .int p0, .int p1])).length) Slot.unset).toArray = ls at hl ⊢
  simp only [lvA_nil, lvA_i, lvA_l, lvA_a, lvA_r, Nat.zero_add, Nat.reduceAdd] at hl
  have hret : ∀ (v : Int32) (M : hM) (H : Heap) (locs : List Loc) (cells slots : Nat) (ls : Array Slot) (pc : Nat), decode b_MD_same pc = .ok (.ireturn, 1) → (b_retN .boolean v).1 M = some Z → hm_I D dA hCl z k1 s M H locs cells slots → W p l e (headSpec w_MD_same { frames := 6, cells := Z.2.2.1 - s.heap.size, slots := Z.2.2.2 - k1, locals := 146 }).room s m args below meth c H locs cells slots (MQ below (hm_Q D dA hCl (hTy dA) sT aK aV z (some (.int Z.1)) Z.2) args s (Z.2.2.1 - s.heap.size) (Z.2.2.2 - k1) (fun q => z ≤ q)) (F0 m pc ls [.int v]) := fun v M H locs cells slots ls pc hdg hf hI => x_retn S hK hG hI hr hlocks hdg hf
  have hR : Z.2.2.1 - s.heap.size ≤ (headSpec w_MD_same { frames := 6, cells := Z.2.2.1 - s.heap.size, slots := Z.2.2.2 - k1, locals := 146 }).room.cells ∧ Z.2.2.2 - k1 ≤ (headSpec w_MD_same { frames := 6, cells := Z.2.2.1 - s.heap.size, slots := Z.2.2.2 - k1, locals := 146 }).room.slots := ⟨Nat.le_refl _, Nat.le_refl _⟩
  have hRf : 6 ≤ (headSpec w_MD_same { frames := 6, cells := Z.2.2.1 - s.heap.size, slots := Z.2.2.2 - k1, locals := 146 }).room.frames ∧ 146 ≤ (headSpec w_MD_same { frames := 6, cells := Z.2.2.1 - s.heap.size, slots := Z.2.2.2 - k1, locals := 146 }).room.locals := ⟨Nat.le_refl _, Nat.le_refl _⟩
  generalize (headSpec w_MD_same { frames := 6, cells := Z.2.2.1 - s.heap.size, slots := Z.2.2.2 - k1, locals := 146 }).room = R at hret hR hRf ⊢
  generalize (MQ below (hm_Q D dA hCl (hTy dA) sT aK aV z (some (.int Z.1)) Z.2) args s (Z.2.2.1 - s.heap.size) (Z.2.2.2 - k1) (fun q => z ≤ q)) = Q at hret ⊢
  rw [e_MD_same] at hf
  obtain ⟨J107, eJ107, hf⟩ := b_let_inv hf
  have w107 : ∀ (y0 : Int32) (M : hM) (H : Heap) (locs : List Loc) (ls : Array Slot) (cells slots : Nat), (J107 y0).1 M = some Z → hm_I D dA hCl z k1 s M H locs cells slots → lv_has ls 3 [] → W p l e R s m args below meth c H locs cells slots Q (F0 m 107 ls [.int y0]) := by
    intro y0 M H locs ls cells slots hf hI hl
    rw [eJ107] at hf
    exact hret _ _ _ _ _ _ _ _ d_MD_same_107 hf hI
  obtain ⟨J106, eJ106, hf⟩ := b_let_inv hf
  have w106 : ∀  (M : hM) (H : Heap) (locs : List Loc) (ls : Array Slot) (cells slots : Nat), (J106).1 M = some Z → hm_I D dA hCl z k1 s M H locs cells slots → lv_has ls 3 [] → W p l e R s m args below meth c H locs cells slots Q (F0 m 106 ls []) := by
    intro M H locs ls cells slots hf hI hl
    rw [eJ106] at hf
    refine lv_iconst (v := 0) S.1 S.2.1 d_MD_same_106 (by decide) ?_
    exact w107 0 _ _ _ _ _ _ hf hI (lv_sub hl [] rfl)
  refine lv_aload_n S.1 S.2.1 d_MD_same_0 rfl (lv_at hl 0 rfl) ?_
  refine lv_iconst (v := 0) S.1 S.2.1 d_MD_same_1 (by decide) ?_
  refine x_put (ci := 1) (k := 0) S hK hI (fun w h => List.mem_cons_of_mem _ (i_MD w h)) t_MD t_MD_ok n_MD rfl (by decide) (List.mem_cons_of_mem _ wd_559) rfl (Or.inl rfl) (by rfl) rfl d_MD_same_2 hf (fun M H locs hf hI => ?_)
  refine lv_aload_n S.1 S.2.1 d_MD_same_5 rfl (lv_at hl 0 rfl) ?_
  refine lv_iload_n S.1 S.2.1 d_MD_same_6 rfl (lv_at hl 1 rfl) ?_
  obtain ⟨⟨fs4, hefs4⟩, hf⟩ := b_is_inv hf
  obtain ⟨v1, N2, hg3, hf⟩ := b_call_inv hf
  refine x_call hI (hm_mo hg3) (va_runV (As := [.int p0]) (rest := []) S (c_MD_isPackage l hg3) (cwV 1 S.2.2.2.2 (gi_V wd_721 wd_722 wd_723 wd_564 wd_724) rfl rfl rfl (by decide +kernel) ⟨Nat.le_trans (Nat.le_of_ble_eq_true rfl) hRf.1, Nat.le_trans (Nat.le_of_ble_eq_true rfl) hRf.2⟩) ⟨hm_B.blind, va_recv hK (hI.1.one hefs4) (ci := 1) (q0 := 0) rfl rfl, fun U hU hW => ⟨rfl, hm_B.of hK hG hI hU hW⟩⟩ rfl rfl hl.1 rfl (lv_room (Nat.le_of_ble_eq_true rfl)) d_MD_same_7 (hx_fit hI hR (hm_mo hg3) (hm_mo hf))) (fun H locs cells slots hI => ?_)
  refine W.eq (g2 := F0 m 10 ls [.int v1]) rfl ?_
  refine lv_if_eq (tgt := 37) S.1 S.2.1 d_MD_same_10 (by decide) (fun hc => ?_) (fun hc => ?_)
  · have hf := b_if_t hc hf
    refine lv_iconst (v := 0) S.1 S.2.1 d_MD_same_37 (by decide) ?_
    exact hret _ _ _ _ _ _ _ _ d_MD_same_38 hf hI
  · have hf := b_if_f hc hf
    refine lv_aload_n S.1 S.2.1 d_MD_same_13 rfl (lv_at hl 0 rfl) ?_
    refine lv_iload_n S.1 S.2.1 d_MD_same_14 rfl (lv_at hl 2 rfl) ?_
    obtain ⟨⟨fs8, hefs8⟩, hf⟩ := b_is_inv hf
    obtain ⟨v5, N6, hg7, hf⟩ := b_call_inv hf
    refine x_call hI (hm_mo hg7) (va_runV (As := [.int p1]) (rest := []) S (c_MD_isPackage l hg7) (cwV 1 S.2.2.2.2 (gi_V wd_721 wd_722 wd_723 wd_564 wd_724) rfl rfl rfl (by decide +kernel) ⟨Nat.le_trans (Nat.le_of_ble_eq_true rfl) hRf.1, Nat.le_trans (Nat.le_of_ble_eq_true rfl) hRf.2⟩) ⟨hm_B.blind, va_recv hK (hI.1.one hefs8) (ci := 1) (q0 := 0) rfl rfl, fun U hU hW => ⟨rfl, hm_B.of hK hG hI hU hW⟩⟩ rfl rfl hl.1 rfl (lv_room (Nat.le_of_ble_eq_true rfl)) d_MD_same_15 (hx_fit hI hR (hm_mo hg7) (hm_mo hf))) (fun H locs cells slots hI => ?_)
    refine W.eq (g2 := F0 m 18 ls [.int v5]) rfl ?_
    refine lv_if_eq (tgt := 37) S.1 S.2.1 d_MD_same_18 (by decide) (fun hc => ?_) (fun hc => ?_)
    · have hf := b_if_t hc hf
      refine lv_iconst (v := 0) S.1 S.2.1 d_MD_same_37 (by decide) ?_
      exact hret _ _ _ _ _ _ _ _ d_MD_same_38 hf hI
    · have hf := b_if_f hc hf
      refine lv_aload_n S.1 S.2.1 d_MD_same_21 rfl (lv_at hl 0 rfl) ?_
      refine x_getR (ci := 1) (k := 16) S hK hI (fun w h => List.mem_cons_of_mem _ (i_MD w h)) rfl (by decide) (List.mem_cons_of_mem _ wd_535) rfl d_MD_same_22 hf (fun r9 hf => ?_)
      refine lv_iload_n S.1 S.2.1 d_MD_same_25 rfl (lv_at hl 1 rfl) ?_
      obtain ⟨a10, ea10, hg⟩ := b_nn_inv hf
      have hI0 := hI
      have hl0 := hl
      clear hf hI hl
      subst ea10
      have hf := hg
      have hI := hI0
      have hl := hl0
      clear hg hI0 hl0
      refine x_lald (t := 7) S hK hI rfl d_MD_same_26 hf (fun v11 hf => ?_)
      refine lv_aload_n S.1 S.2.1 d_MD_same_27 rfl (lv_at hl 0 rfl) ?_
      refine x_getR (ci := 1) (k := 16) S hK hI (fun w h => List.mem_cons_of_mem _ (i_MD w h)) rfl (by decide) (List.mem_cons_of_mem _ wd_535) rfl d_MD_same_28 hf (fun r12 hf => ?_)
      refine lv_iload_n S.1 S.2.1 d_MD_same_31 rfl (lv_at hl 2 rfl) ?_
      obtain ⟨a13, ea13, hg⟩ := b_nn_inv hf
      have hI0 := hI
      have hl0 := hl
      clear hf hI hl
      subst ea13
      have hf := hg
      have hI := hI0
      have hl := hl0
      clear hg hI0 hl0
      refine x_lald (t := 7) S hK hI rfl d_MD_same_32 hf (fun v14 hf => ?_)
      refine W.lcmp S.1 S.2.1 d_MD_same_33 ?_
      refine lv_if_eq (tgt := 39) S.1 S.2.1 d_MD_same_34 (by decide) (fun hc => ?_) (fun hc => ?_)
      · have hf := b_if_t hc hf
        refine lv_aload_n S.1 S.2.1 d_MD_same_39 rfl (lv_at hl 0 rfl) ?_
        refine lv_aload_n S.1 S.2.1 d_MD_same_40 rfl (lv_at hl 0 rfl) ?_
        refine x_getR (ci := 1) (k := 15) S hK hI (fun w h => List.mem_cons_of_mem _ (i_MD w h)) rfl (by decide) (List.mem_cons_of_mem _ wd_534) rfl d_MD_same_41 hf (fun r15 hf => ?_)
        refine lv_bipush (v := 20) S.1 S.2.1 d_MD_same_44 (by decide) ?_
        refine lv_iload_n S.1 S.2.1 d_MD_same_46 rfl (lv_at hl 1 rfl) ?_
        refine lv_imul S.1 S.2.1 d_MD_same_47 ?_
        refine lv_aload_n S.1 S.2.1 d_MD_same_48 rfl (lv_at hl 0 rfl) ?_
        refine x_getR (ci := 1) (k := 12) S hK hI (fun w h => List.mem_cons_of_mem _ (i_MD w h)) rfl (by decide) (List.mem_cons_of_mem _ wd_531) rfl d_MD_same_49 hf (fun r16 hf => ?_)
        refine lv_iload_n S.1 S.2.1 d_MD_same_52 rfl (lv_at hl 1 rfl) ?_
        obtain ⟨a17, ea17, hg⟩ := b_nn_inv hf
        have hI0 := hI
        have hl0 := hl
        clear hf hI hl
        subst ea17
        have hf := hg
        have hI := hI0
        have hl := hl0
        clear hg hI0 hl0
        refine x_iald (t := 2) S hK hI rfl d_MD_same_53 hf (fun v18 hf => ?_)
        refine lv_aload_n S.1 S.2.1 d_MD_same_54 rfl (lv_at hl 0 rfl) ?_
        refine x_getR (ci := 1) (k := 15) S hK hI (fun w h => List.mem_cons_of_mem _ (i_MD w h)) rfl (by decide) (List.mem_cons_of_mem _ wd_534) rfl d_MD_same_55 hf (fun r19 hf => ?_)
        refine lv_bipush (v := 20) S.1 S.2.1 d_MD_same_58 (by decide) ?_
        refine lv_iload_n S.1 S.2.1 d_MD_same_60 rfl (lv_at hl 2 rfl) ?_
        refine lv_imul S.1 S.2.1 d_MD_same_61 ?_
        refine lv_aload_n S.1 S.2.1 d_MD_same_62 rfl (lv_at hl 0 rfl) ?_
        refine x_getR (ci := 1) (k := 12) S hK hI (fun w h => List.mem_cons_of_mem _ (i_MD w h)) rfl (by decide) (List.mem_cons_of_mem _ wd_531) rfl d_MD_same_63 hf (fun r20 hf => ?_)
        refine lv_iload_n S.1 S.2.1 d_MD_same_66 rfl (lv_at hl 2 rfl) ?_
        obtain ⟨a21, ea21, hg⟩ := b_nn_inv hf
        have hI0 := hI
        have hl0 := hl
        clear hf hI hl
        subst ea21
        have hf := hg
        have hI := hI0
        have hl := hl0
        clear hg hI0 hl0
        refine x_iald (t := 2) S hK hI rfl d_MD_same_67 hf (fun v22 hf => ?_)
        obtain ⟨⟨fs26, hefs26⟩, hf⟩ := b_is_inv hf
        obtain ⟨v23, N24, hg25, hf⟩ := b_call_inv hf
        refine x_call hI (hm_mo hg25) (va_runV (As := [va_rf r15, .int (20 * p0), .int v18, va_rf r19, .int (20 * p1), .int v22]) (rest := []) S (c_MD_compare l hg25) (cwV 6 S.2.2.2.2 (gi_V wd_684 wd_685 wd_686 wd_564 wd_687) rfl rfl rfl (by decide +kernel) ⟨Nat.le_trans (Nat.le_of_ble_eq_true rfl) hRf.1, Nat.le_trans (Nat.le_of_ble_eq_true rfl) hRf.2⟩) ⟨hm_B.blind, va_recv hK (hI.1.one hefs26) (ci := 1) (q0 := 0) rfl rfl, fun U hU hW => ⟨rfl, hm_B.of hK hG hI hU hW⟩⟩ rfl rfl hl.1 rfl (lv_room (Nat.le_of_ble_eq_true rfl)) d_MD_same_68 (hx_fit hI hR (hm_mo hg25) (hm_mo hf))) (fun H locs cells slots hI => ?_)
        refine W.eq (g2 := F0 m 71 ls [.int v23]) rfl ?_
        refine lv_if_ne (tgt := 106) S.1 S.2.1 d_MD_same_71 (by decide) (fun hc => ?_) (fun hc => ?_)
        · have hf := b_if_f hc hf
          exact w106  _ _ _ _ _ _ hf hI (lv_sub hl [] rfl)
        · have hf := b_if_t hc hf
          refine lv_aload_n S.1 S.2.1 d_MD_same_74 rfl (lv_at hl 0 rfl) ?_
          refine lv_iload_n S.1 S.2.1 d_MD_same_75 rfl (lv_at hl 1 rfl) ?_
          refine lv_iload_n S.1 S.2.1 d_MD_same_76 rfl (lv_at hl 2 rfl) ?_
          obtain ⟨⟨fs30, hefs30⟩, hf⟩ := b_is_inv hf
          obtain ⟨v27, N28, hg29, hf⟩ := b_call_inv hf
          refine x_call hI (hm_mo hg29) (va_runV (As := [.int p0, .int p1]) (rest := []) S (c_MD_hasAll l hg29) (cwV 2 S.2.2.2.2 (gi_V wd_746 wd_747 wd_748 wd_564 wd_749) rfl rfl rfl (by decide +kernel) ⟨Nat.le_trans (Nat.le_of_ble_eq_true rfl) hRf.1, Nat.le_trans (Nat.le_of_ble_eq_true rfl) hRf.2⟩) ⟨hm_B.blind, va_recv hK (hI.1.one hefs30) (ci := 1) (q0 := 0) rfl rfl, fun U hU hW => ⟨rfl, hm_B.of hK hG hI hU hW⟩⟩ rfl rfl hl.1 rfl (lv_room (Nat.le_of_ble_eq_true rfl)) d_MD_same_77 (hx_fit hI hR (hm_mo hg29) (hm_mo hf))) (fun H locs cells slots hI => ?_)
          refine W.eq (g2 := F0 m 80 ls [.int v27]) rfl ?_
          refine lv_if_eq (tgt := 106) S.1 S.2.1 d_MD_same_80 (by decide) (fun hc => ?_) (fun hc => ?_)
          · have hf := b_if_t hc hf
            exact w106  _ _ _ _ _ _ hf hI (lv_sub hl [] rfl)
          · have hf := b_if_f hc hf
            refine lv_aload_n S.1 S.2.1 d_MD_same_83 rfl (lv_at hl 0 rfl) ?_
            refine lv_iload_n S.1 S.2.1 d_MD_same_84 rfl (lv_at hl 2 rfl) ?_
            refine lv_iload_n S.1 S.2.1 d_MD_same_85 rfl (lv_at hl 1 rfl) ?_
            obtain ⟨⟨fs34, hefs34⟩, hf⟩ := b_is_inv hf
            obtain ⟨v31, N32, hg33, hf⟩ := b_call_inv hf
            refine x_call hI (hm_mo hg33) (va_runV (As := [.int p1, .int p0]) (rest := []) S (c_MD_hasAll l hg33) (cwV 2 S.2.2.2.2 (gi_V wd_746 wd_747 wd_748 wd_564 wd_749) rfl rfl rfl (by decide +kernel) ⟨Nat.le_trans (Nat.le_of_ble_eq_true rfl) hRf.1, Nat.le_trans (Nat.le_of_ble_eq_true rfl) hRf.2⟩) ⟨hm_B.blind, va_recv hK (hI.1.one hefs34) (ci := 1) (q0 := 0) rfl rfl, fun U hU hW => ⟨rfl, hm_B.of hK hG hI hU hW⟩⟩ rfl rfl hl.1 rfl (lv_room (Nat.le_of_ble_eq_true rfl)) d_MD_same_86 (hx_fit hI hR (hm_mo hg33) (hm_mo hf))) (fun H locs cells slots hI => ?_)
            refine W.eq (g2 := F0 m 89 ls [.int v31]) rfl ?_
            refine lv_if_eq (tgt := 106) S.1 S.2.1 d_MD_same_89 (by decide) (fun hc => ?_) (fun hc => ?_)
            · have hf := b_if_t hc hf
              exact w106  _ _ _ _ _ _ hf hI (lv_sub hl [] rfl)
            · have hf := b_if_f hc hf
              refine lv_aload_n S.1 S.2.1 d_MD_same_92 rfl (lv_at hl 0 rfl) ?_
              refine lv_iload_n S.1 S.2.1 d_MD_same_93 rfl (lv_at hl 1 rfl) ?_
              refine lv_iload_n S.1 S.2.1 d_MD_same_94 rfl (lv_at hl 2 rfl) ?_
              refine lv_iconst (v := 0) S.1 S.2.1 d_MD_same_95 (by decide) ?_
              obtain ⟨⟨fs38, hefs38⟩, hf⟩ := b_is_inv hf
              obtain ⟨v35, N36, hg37, hf⟩ := b_call_inv hf
              refine x_call hI (hm_mo hg37) (va_runV (As := [.int p0, .int p1, .int 0]) (rest := []) S (c_MD_compareRows l hg37) (cwV 3 S.2.2.2.2 (gi_V wd_750 wd_751 wd_752 wd_564 wd_753) rfl rfl rfl (by decide +kernel) ⟨Nat.le_trans (Nat.le_of_ble_eq_true rfl) hRf.1, Nat.le_trans (Nat.le_of_ble_eq_true rfl) hRf.2⟩) ⟨hm_B.blind, va_recv hK (hI.1.one hefs38) (ci := 1) (q0 := 0) rfl rfl, fun U hU hW => ⟨rfl, hm_B.of hK hG hI hU hW⟩⟩ rfl rfl hl.1 rfl (lv_room (Nat.le_of_ble_eq_true rfl)) d_MD_same_96 (hx_fit hI hR (hm_mo hg37) (hm_mo hf))) (fun H locs cells slots hI => ?_)
              refine W.eq (g2 := F0 m 99 ls [.int v35]) rfl ?_
              refine lv_if_ne (tgt := 106) S.1 S.2.1 d_MD_same_99 (by decide) (fun hc => ?_) (fun hc => ?_)
              · have hf := b_if_f hc hf
                exact w106  _ _ _ _ _ _ hf hI (lv_sub hl [] rfl)
              · have hf := b_if_t hc hf
                refine lv_iconst (v := 1) S.1 S.2.1 d_MD_same_102 (by decide) ?_
                refine lv_goto (tgt := 107) S.1 S.2.1 d_MD_same_103 (by decide) ?_
                exact w107 1 _ _ _ _ _ _ hf hI (lv_sub hl [] rfl)
      · have hf := b_if_f hc hf
        refine lv_iconst (v := 0) S.1 S.2.1 d_MD_same_37 (by decide) ?_
        exact hret _ _ _ _ _ _ _ _ d_MD_same_38 hf hI
set_option maxHeartbeats 4000000 in
set_option maxRecDepth 100000 in
theorem c_MD_differ (l : Launch) {D : va_G} {dA : Nat → ClassId} {aK aV : Nat → Nat} {z : Nat} {N : Nat} {h0 : Nat} {p0 : Int32} {p1 : Int32} {M : hM} {Z : Int32 × hM} (hf : (f_MD_differ N h0 p0 p1).1 M = some Z) : Met l y_MD_differ w_MD_differ ({ frames := 6, cells := Z.2.2.1 - M.2.1, slots := Z.2.2.2 - M.2.2, locals := 146 }) (va_Pc [.ref h0, .int p0, .int p1] (hm_B D dA hCl (hTy dA) sT aK aV z M)) (hm_Q D dA hCl (hTy dA) sT aK aV z (some (.int Z.1)) Z.2) (Z.2.2.1 - M.2.1) (Z.2.2.2 - M.2.2) (fun q => z ≤ q) := by
  refine Met.ofW (cc := b_MD_differ) (maxL := 3) (ret := (some .int)) (by decide) rfl ?_
  intro p e s m args below meth c s₁ B hml hv
  obtain ⟨hav, hB⟩ := hv
  have S : CallFix p m c b_MD_differ 3 s args w_MD_differ R_MD := ⟨B.exec, B.bytes, hml, findClass_of_methodNamed B.named, atoms_spec (ws := w_MD_differ) B.pre⟩
  have hr : meth.sig.returnType = (some .int) := B.returns
  have hlocks := B.notSynchronized
  have hK := hB.2.2.1
  have hG := hB.2.2.2.2.2
  have hI := hm_I.start hB
  rw [← hB.2.1]
  generalize M.2.2 = k1 at hI ⊢
  refine W.eq (g2 := F0 m 0 ((lg_sl ([.ref h0, .int p0, .int p1]) ++ List.replicate (3 - (lg_sl ([.ref h0, .int p0, .int p1])).length) Slot.unset).toArray) []) (by rw [hav]; exact lg_entry_eq m ([.ref h0, .int p0, .int p1]) 3) ?_
  have hl := lv_entry ([.ref h0, .int p0, .int p1]) (n := 3) (Nat.le_of_ble_eq_true rfl)
  generalize (lg_sl ([.ref h0, .int p0, .int p1]) ++ List.replicate (3 - (lg_sl ([.ref h0, .int p0, .int p1])).length) Slot.unset).toArray = ls at hl ⊢
  simp only [lvA_nil, lvA_i, lvA_l, lvA_a, lvA_r, Nat.zero_add, Nat.reduceAdd] at hl
  have hret : ∀ (v : Int32) (M : hM) (H : Heap) (locs : List Loc) (cells slots : Nat) (ls : Array Slot) (pc : Nat), decode b_MD_differ pc = .ok (.ireturn, 1) → (b_ret v).1 M = some Z → hm_I D dA hCl z k1 s M H locs cells slots → W p l e (headSpec w_MD_differ { frames := 6, cells := Z.2.2.1 - s.heap.size, slots := Z.2.2.2 - k1, locals := 146 }).room s m args below meth c H locs cells slots (MQ below (hm_Q D dA hCl (hTy dA) sT aK aV z (some (.int Z.1)) Z.2) args s (Z.2.2.1 - s.heap.size) (Z.2.2.2 - k1) (fun q => z ≤ q)) (F0 m pc ls [.int v]) := fun v M H locs cells slots ls pc hdg hf hI => x_reti S hK hG hI hr hlocks hdg hf
  have hR : Z.2.2.1 - s.heap.size ≤ (headSpec w_MD_differ { frames := 6, cells := Z.2.2.1 - s.heap.size, slots := Z.2.2.2 - k1, locals := 146 }).room.cells ∧ Z.2.2.2 - k1 ≤ (headSpec w_MD_differ { frames := 6, cells := Z.2.2.1 - s.heap.size, slots := Z.2.2.2 - k1, locals := 146 }).room.slots := ⟨Nat.le_refl _, Nat.le_refl _⟩
  have hRf : 6 ≤ (headSpec w_MD_differ { frames := 6, cells := Z.2.2.1 - s.heap.size, slots := Z.2.2.2 - k1, locals := 146 }).room.frames ∧ 146 ≤ (headSpec w_MD_differ { frames := 6, cells := Z.2.2.1 - s.heap.size, slots := Z.2.2.2 - k1, locals := 146 }).room.locals := ⟨Nat.le_refl _, Nat.le_refl _⟩
  generalize (headSpec w_MD_differ { frames := 6, cells := Z.2.2.1 - s.heap.size, slots := Z.2.2.2 - k1, locals := 146 }).room = R at hret hR hRf ⊢
  generalize (MQ below (hm_Q D dA hCl (hTy dA) sT aK aV z (some (.int Z.1)) Z.2) args s (Z.2.2.1 - s.heap.size) (Z.2.2.2 - k1) (fun q => z ≤ q)) = Q at hret ⊢
  rw [e_MD_differ] at hf
  refine lv_aload_n S.1 S.2.1 d_MD_differ_0 rfl (lv_at hl 0 rfl) ?_
  refine lv_iconst (v := 0) S.1 S.2.1 d_MD_differ_1 (by decide) ?_
  refine x_put (ci := 1) (k := 0) S hK hI (fun w h => List.mem_cons_of_mem _ (i_MD w h)) t_MD t_MD_ok n_MD rfl (by decide) (List.mem_cons_of_mem _ wd_559) rfl (Or.inl rfl) (by rfl) rfl d_MD_differ_2 hf (fun M H locs hf hI => ?_)
  refine lv_aload_n S.1 S.2.1 d_MD_differ_5 rfl (lv_at hl 0 rfl) ?_
  refine lv_iload_n S.1 S.2.1 d_MD_differ_6 rfl (lv_at hl 1 rfl) ?_
  obtain ⟨⟨fs4, hefs4⟩, hf⟩ := b_is_inv hf
  obtain ⟨v1, N2, hg3, hf⟩ := b_call_inv hf
  refine x_call hI (hm_mo hg3) (va_runV (As := [.int p0]) (rest := []) S (c_MD_isPackage l hg3) (cwV 1 S.2.2.2.2 (gi_V wd_721 wd_722 wd_723 wd_564 wd_724) rfl rfl rfl (by decide +kernel) ⟨Nat.le_trans (Nat.le_of_ble_eq_true rfl) hRf.1, Nat.le_trans (Nat.le_of_ble_eq_true rfl) hRf.2⟩) ⟨hm_B.blind, va_recv hK (hI.1.one hefs4) (ci := 1) (q0 := 0) rfl rfl, fun U hU hW => ⟨rfl, hm_B.of hK hG hI hU hW⟩⟩ rfl rfl hl.1 rfl (lv_room (Nat.le_of_ble_eq_true rfl)) d_MD_differ_7 (hx_fit hI hR (hm_mo hg3) (hm_mo hf))) (fun H locs cells slots hI => ?_)
  refine W.eq (g2 := F0 m 10 ls [.int v1]) rfl ?_
  refine lv_if_eq (tgt := 21) S.1 S.2.1 d_MD_differ_10 (by decide) (fun hc => ?_) (fun hc => ?_)
  · have hf := b_if_t hc hf
    refine lv_iconst (v := (-1)) S.1 S.2.1 d_MD_differ_21 (by decide) ?_
    exact hret _ _ _ _ _ _ _ _ d_MD_differ_22 hf hI
  · have hf := b_if_f hc hf
    refine lv_aload_n S.1 S.2.1 d_MD_differ_13 rfl (lv_at hl 0 rfl) ?_
    refine lv_iload_n S.1 S.2.1 d_MD_differ_14 rfl (lv_at hl 2 rfl) ?_
    obtain ⟨⟨fs8, hefs8⟩, hf⟩ := b_is_inv hf
    obtain ⟨v5, N6, hg7, hf⟩ := b_call_inv hf
    refine x_call hI (hm_mo hg7) (va_runV (As := [.int p1]) (rest := []) S (c_MD_isPackage l hg7) (cwV 1 S.2.2.2.2 (gi_V wd_721 wd_722 wd_723 wd_564 wd_724) rfl rfl rfl (by decide +kernel) ⟨Nat.le_trans (Nat.le_of_ble_eq_true rfl) hRf.1, Nat.le_trans (Nat.le_of_ble_eq_true rfl) hRf.2⟩) ⟨hm_B.blind, va_recv hK (hI.1.one hefs8) (ci := 1) (q0 := 0) rfl rfl, fun U hU hW => ⟨rfl, hm_B.of hK hG hI hU hW⟩⟩ rfl rfl hl.1 rfl (lv_room (Nat.le_of_ble_eq_true rfl)) d_MD_differ_15 (hx_fit hI hR (hm_mo hg7) (hm_mo hf))) (fun H locs cells slots hI => ?_)
    refine W.eq (g2 := F0 m 18 ls [.int v5]) rfl ?_
    refine lv_if_ne (tgt := 23) S.1 S.2.1 d_MD_differ_18 (by decide) (fun hc => ?_) (fun hc => ?_)
    · have hf := b_if_f hc hf
      refine lv_aload_n S.1 S.2.1 d_MD_differ_23 rfl (lv_at hl 0 rfl) ?_
      refine lv_iconst (v := 0) S.1 S.2.1 d_MD_differ_24 (by decide) ?_
      refine x_put (ci := 1) (k := 39) S hK hI (fun w h => List.mem_cons_of_mem _ (i_MD w h)) t_MD t_MD_ok n_MD rfl (by decide) (List.mem_cons_of_mem _ wd_737) rfl (Or.inl rfl) (by rfl) rfl d_MD_differ_25 hf (fun M H locs hf hI => ?_)
      refine lv_aload_n S.1 S.2.1 d_MD_differ_28 rfl (lv_at hl 0 rfl) ?_
      refine lv_iload_n S.1 S.2.1 d_MD_differ_29 rfl (lv_at hl 1 rfl) ?_
      refine lv_iload_n S.1 S.2.1 d_MD_differ_30 rfl (lv_at hl 2 rfl) ?_
      refine lv_iconst (v := 1) S.1 S.2.1 d_MD_differ_31 (by decide) ?_
      obtain ⟨⟨fs12, hefs12⟩, hf⟩ := b_is_inv hf
      obtain ⟨v9, N10, hg11, hf⟩ := b_call_inv hf
      refine x_call hI (hm_mo hg11) (va_runV (As := [.int p0, .int p1, .int 1]) (rest := []) S (c_MD_compareRows l hg11) (cwV 3 S.2.2.2.2 (gi_V wd_750 wd_751 wd_752 wd_564 wd_753) rfl rfl rfl (by decide +kernel) ⟨Nat.le_trans (Nat.le_of_ble_eq_true rfl) hRf.1, Nat.le_trans (Nat.le_of_ble_eq_true rfl) hRf.2⟩) ⟨hm_B.blind, va_recv hK (hI.1.one hefs12) (ci := 1) (q0 := 0) rfl rfl, fun U hU hW => ⟨rfl, hm_B.of hK hG hI hU hW⟩⟩ rfl rfl hl.1 rfl (lv_room (Nat.le_of_ble_eq_true rfl)) d_MD_differ_32 (hx_fit hI hR (hm_mo hg11) (hm_mo hf))) (fun H locs cells slots hI => ?_)
      refine W.eq (g2 := F0 m 35 ls [.int v9]) rfl ?_
      exact hret _ _ _ _ _ _ _ _ d_MD_differ_35 hf hI
    · have hf := b_if_t hc hf
      refine lv_iconst (v := (-1)) S.1 S.2.1 d_MD_differ_21 (by decide) ?_
      exact hret _ _ _ _ _ _ _ _ d_MD_differ_22 hf hI
set_option maxHeartbeats 4000000 in
set_option maxRecDepth 100000 in
theorem c_MD_change (l : Launch) {D : va_G} {dA : Nat → ClassId} {aK aV : Nat → Nat} {z : Nat} {N : Nat} {h0 : Nat} {p0 : Int32} {p1 : Int32} {M : hM} {Z : Int32 × hM} (hf : (f_MD_change N h0 p0 p1).1 M = some Z) : Met l y_MD_change w_MD_change ({ frames := 0, cells := Z.2.2.1 - M.2.1, slots := Z.2.2.2 - M.2.2, locals := 0 }) (va_Pc [.ref h0, .int p0, .int p1] (hm_B D dA hCl (hTy dA) sT aK aV z M)) (hm_Q D dA hCl (hTy dA) sT aK aV z (some (.int Z.1)) Z.2) (Z.2.2.1 - M.2.1) (Z.2.2.2 - M.2.2) (fun q => z ≤ q) := by
  refine Met.ofW (cc := b_MD_change) (maxL := 3) (ret := (some .int)) (by decide) rfl ?_
  intro p e s m args below meth c s₁ B hml hv
  obtain ⟨hav, hB⟩ := hv
  have S : CallFix p m c b_MD_change 3 s args w_MD_change R_MD := ⟨B.exec, B.bytes, hml, findClass_of_methodNamed B.named, atoms_spec (ws := w_MD_change) B.pre⟩
  have hr : meth.sig.returnType = (some .int) := B.returns
  have hlocks := B.notSynchronized
  have hK := hB.2.2.1
  have hG := hB.2.2.2.2.2
  have hI := hm_I.start hB
  rw [← hB.2.1]
  generalize M.2.2 = k1 at hI ⊢
  refine W.eq (g2 := F0 m 0 ((lg_sl ([.ref h0, .int p0, .int p1]) ++ List.replicate (3 - (lg_sl ([.ref h0, .int p0, .int p1])).length) Slot.unset).toArray) []) (by rw [hav]; exact lg_entry_eq m ([.ref h0, .int p0, .int p1]) 3) ?_
  have hl := lv_entry ([.ref h0, .int p0, .int p1]) (n := 3) (Nat.le_of_ble_eq_true rfl)
  generalize (lg_sl ([.ref h0, .int p0, .int p1]) ++ List.replicate (3 - (lg_sl ([.ref h0, .int p0, .int p1])).length) Slot.unset).toArray = ls at hl ⊢
  simp only [lvA_nil, lvA_i, lvA_l, lvA_a, lvA_r, Nat.zero_add, Nat.reduceAdd] at hl
  have hret : ∀ (v : Int32) (M : hM) (H : Heap) (locs : List Loc) (cells slots : Nat) (ls : Array Slot) (pc : Nat), decode b_MD_change pc = .ok (.ireturn, 1) → (b_ret v).1 M = some Z → hm_I D dA hCl z k1 s M H locs cells slots → W p l e (headSpec w_MD_change { frames := 0, cells := Z.2.2.1 - s.heap.size, slots := Z.2.2.2 - k1, locals := 0 }).room s m args below meth c H locs cells slots (MQ below (hm_Q D dA hCl (hTy dA) sT aK aV z (some (.int Z.1)) Z.2) args s (Z.2.2.1 - s.heap.size) (Z.2.2.2 - k1) (fun q => z ≤ q)) (F0 m pc ls [.int v]) := fun v M H locs cells slots ls pc hdg hf hI => x_reti S hK hG hI hr hlocks hdg hf
  have hR : Z.2.2.1 - s.heap.size ≤ (headSpec w_MD_change { frames := 0, cells := Z.2.2.1 - s.heap.size, slots := Z.2.2.2 - k1, locals := 0 }).room.cells ∧ Z.2.2.2 - k1 ≤ (headSpec w_MD_change { frames := 0, cells := Z.2.2.1 - s.heap.size, slots := Z.2.2.2 - k1, locals := 0 }).room.slots := ⟨Nat.le_refl _, Nat.le_refl _⟩
  have hRf : 0 ≤ (headSpec w_MD_change { frames := 0, cells := Z.2.2.1 - s.heap.size, slots := Z.2.2.2 - k1, locals := 0 }).room.frames ∧ 0 ≤ (headSpec w_MD_change { frames := 0, cells := Z.2.2.1 - s.heap.size, slots := Z.2.2.2 - k1, locals := 0 }).room.locals := ⟨Nat.le_refl _, Nat.le_refl _⟩
  generalize (headSpec w_MD_change { frames := 0, cells := Z.2.2.1 - s.heap.size, slots := Z.2.2.2 - k1, locals := 0 }).room = R at hret hR hRf ⊢
  generalize (MQ below (hm_Q D dA hCl (hTy dA) sT aK aV z (some (.int Z.1)) Z.2) args s (Z.2.2.1 - s.heap.size) (Z.2.2.2 - k1) (fun q => z ≤ q)) = Q at hret ⊢
  rw [e_MD_change] at hf
  obtain ⟨J47, eJ47, hf⟩ := b_let_inv hf
  have w47 : ∀ (y0 : Int32) (M : hM) (H : Heap) (locs : List Loc) (ls : Array Slot) (cells slots : Nat), (J47 y0).1 M = some Z → hm_I D dA hCl z k1 s M H locs cells slots → lv_has ls 3 [] → W p l e R s m args below meth c H locs cells slots Q (F0 m 47 ls [.int y0]) := by
    intro y0 M H locs ls cells slots hf hI hl
    rw [eJ47] at hf
    exact hret _ _ _ _ _ _ _ _ d_MD_change_47 hf hI
  refine lv_aload_n S.1 S.2.1 d_MD_change_0 rfl (lv_at hl 0 rfl) ?_
  refine lv_iconst (v := 0) S.1 S.2.1 d_MD_change_1 (by decide) ?_
  refine x_put (ci := 1) (k := 0) S hK hI (fun w h => List.mem_cons_of_mem _ (i_MD w h)) t_MD t_MD_ok n_MD rfl (by decide) (List.mem_cons_of_mem _ wd_559) rfl (Or.inl rfl) (by rfl) rfl d_MD_change_2 hf (fun M H locs hf hI => ?_)
  refine lv_iload_n S.1 S.2.1 d_MD_change_5 rfl (lv_at hl 1 rfl) ?_
  refine lv_if_lt (tgt := 26) S.1 S.2.1 d_MD_change_6 (by decide) (fun hc => ?_) (fun hc => ?_)
  · have hf := b_if_t hc hf
    refine lv_iconst (v := (-1)) S.1 S.2.1 d_MD_change_26 (by decide) ?_
    exact hret _ _ _ _ _ _ _ _ d_MD_change_27 hf hI
  · have hf := b_if_f hc hf
    refine lv_iload_n S.1 S.2.1 d_MD_change_9 rfl (lv_at hl 1 rfl) ?_
    refine lv_aload_n S.1 S.2.1 d_MD_change_10 rfl (lv_at hl 0 rfl) ?_
    refine x_getI (ci := 1) (k := 39) S hK hI (fun w h => List.mem_cons_of_mem _ (i_MD w h)) rfl (by decide) (List.mem_cons_of_mem _ wd_737) rfl d_MD_change_11 hf (fun v1 hf => ?_)
    refine lv_icmp_ge (tgt := 26) S.1 S.2.1 d_MD_change_14 (by decide) (fun hc => ?_) (fun hc => ?_)
    · have hf := b_if_t hc hf
      refine lv_iconst (v := (-1)) S.1 S.2.1 d_MD_change_26 (by decide) ?_
      exact hret _ _ _ _ _ _ _ _ d_MD_change_27 hf hI
    · have hf := b_if_f hc hf
      refine lv_iload_n S.1 S.2.1 d_MD_change_17 rfl (lv_at hl 2 rfl) ?_
      refine lv_if_lt (tgt := 26) S.1 S.2.1 d_MD_change_18 (by decide) (fun hc => ?_) (fun hc => ?_)
      · have hf := b_if_t hc hf
        refine lv_iconst (v := (-1)) S.1 S.2.1 d_MD_change_26 (by decide) ?_
        exact hret _ _ _ _ _ _ _ _ d_MD_change_27 hf hI
      · have hf := b_if_f hc hf
        refine lv_iload_n S.1 S.2.1 d_MD_change_21 rfl (lv_at hl 2 rfl) ?_
        refine lv_iconst (v := 1) S.1 S.2.1 d_MD_change_22 (by decide) ?_
        refine lv_icmp_le (tgt := 28) S.1 S.2.1 d_MD_change_23 (by decide) (fun hc => ?_) (fun hc => ?_)
        · have hf := b_if_t hc hf
          refine lv_iload_n S.1 S.2.1 d_MD_change_28 rfl (lv_at hl 2 rfl) ?_
          refine lv_if_ne (tgt := 41) S.1 S.2.1 d_MD_change_29 (by decide) (fun hc => ?_) (fun hc => ?_)
          · have hf := b_if_f hc hf
            refine lv_aload_n S.1 S.2.1 d_MD_change_41 rfl (lv_at hl 0 rfl) ?_
            refine x_getR (ci := 1) (k := 41) S hK hI (fun w h => List.mem_cons_of_mem _ (i_MD w h)) rfl (by decide) (List.mem_cons_of_mem _ wd_554) rfl d_MD_change_42 hf (fun r2 hf => ?_)
            refine lv_iload_n S.1 S.2.1 d_MD_change_45 rfl (lv_at hl 1 rfl) ?_
            obtain ⟨a3, ea3, hg⟩ := b_nn_inv hf
            have hI0 := hI
            have hl0 := hl
            clear hf hI hl
            subst ea3
            have hf := hg
            have hI := hI0
            have hl := hl0
            clear hg hI0 hl0
            refine x_iald (t := 2) S hK hI rfl d_MD_change_46 hf (fun v4 hf => ?_)
            exact w47 v4 _ _ _ _ _ _ hf hI (lv_sub hl [] rfl)
          · have hf := b_if_t hc hf
            refine lv_aload_n S.1 S.2.1 d_MD_change_32 rfl (lv_at hl 0 rfl) ?_
            refine x_getR (ci := 1) (k := 40) S hK hI (fun w h => List.mem_cons_of_mem _ (i_MD w h)) rfl (by decide) (List.mem_cons_of_mem _ wd_553) rfl d_MD_change_33 hf (fun r5 hf => ?_)
            refine lv_iload_n S.1 S.2.1 d_MD_change_36 rfl (lv_at hl 1 rfl) ?_
            obtain ⟨a6, ea6, hg⟩ := b_nn_inv hf
            have hI0 := hI
            have hl0 := hl
            clear hf hI hl
            subst ea6
            have hf := hg
            have hI := hI0
            have hl := hl0
            clear hg hI0 hl0
            refine x_iald (t := 2) S hK hI rfl d_MD_change_37 hf (fun v7 hf => ?_)
            refine lv_goto (tgt := 47) S.1 S.2.1 d_MD_change_38 (by decide) ?_
            exact w47 v7 _ _ _ _ _ _ hf hI (lv_sub hl [] rfl)
        · have hf := b_if_f hc hf
          refine lv_iconst (v := (-1)) S.1 S.2.1 d_MD_change_26 (by decide) ?_
          exact hret _ _ _ _ _ _ _ _ d_MD_change_27 hf hI
