set_option maxHeartbeats 4000000 in
set_option maxRecDepth 100000 in
theorem c_MD_readPlain (l : Launch) {D : va_G} {dA : Nat → ClassId} {aK aV : Nat → Nat} {z : Nat} {N : Nat} {h0 : Nat} {M : hM} {Z : Unit × hM} (hf : (f_MD_readPlain N h0 ).1 M = some Z) : Met l y_MD_readPlain w_MD_readPlain ({ frames := 4, cells := Z.2.2.1 - M.2.1, slots := Z.2.2.2 - M.2.2, locals := 88 }) (va_Pc [.ref h0] (hm_B D dA hCl (hTy dA) sT aK aV z M)) (hm_Q D dA hCl (hTy dA) sT aK aV z none Z.2) (Z.2.2.1 - M.2.1) (Z.2.2.2 - M.2.2) (fun q => z ≤ q) := by
  refine Met.ofW (cc := b_MD_readPlain) (maxL := 5) (ret := none) (by decide) rfl ?_
  intro p e s m args below meth c s₁ B hml hv
  obtain ⟨hav, hB⟩ := hv
  have S : CallFix p m c b_MD_readPlain 5 s args w_MD_readPlain R_MD := ⟨B.exec, B.bytes, hml, findClass_of_methodNamed B.named, atoms_spec (ws := w_MD_readPlain) B.pre⟩
  have hr : meth.sig.returnType = none := B.returns
  have hlocks := B.notSynchronized
  have hK := hB.2.2.1
  have hG := hB.2.2.2.2.2
  have hI := hm_I.start hB
  rw [← hB.2.1]
  generalize M.2.2 = k1 at hI ⊢
  refine W.eq (g2 := F0 m 0 ((lg_sl ([.ref h0]) ++ List.replicate (5 - (lg_sl ([.ref h0])).length) Slot.unset).toArray) []) (by rw [hav]; exact lg_entry_eq m ([.ref h0]) 5) ?_
  have hl := lv_entry ([.ref h0]) (n := 5) (Nat.le_of_ble_eq_true rfl)
  generalize (lg_sl ([.ref h0]) ++ List.replicate (5 - (lg_sl ([.ref h0])).length) Slot.unset).toArray = ls at hl ⊢
  simp only [lvA_nil, lvA_i, lvA_l, lvA_a, lvA_r, Nat.zero_add, Nat.reduceAdd] at hl
  have hret : ∀ (M : hM) (H : Heap) (locs : List Loc) (cells slots : Nat) (ls : Array Slot) (pc : Nat), decode b_MD_readPlain pc = .ok (.return_, 1) → (b_ret ()).1 M = some Z → hm_I D dA hCl z k1 s M H locs cells slots → W p l e (headSpec w_MD_readPlain { frames := 4, cells := Z.2.2.1 - s.heap.size, slots := Z.2.2.2 - k1, locals := 88 }).room s m args below meth c H locs cells slots (MQ below (hm_Q D dA hCl (hTy dA) sT aK aV z none Z.2) args s (Z.2.2.1 - s.heap.size) (Z.2.2.2 - k1) (fun q => z ≤ q)) (F0 m pc ls []) := fun M H locs cells slots ls pc hdg hf hI => x_retv S hK hG hI hr hlocks hdg hf
  have hR : Z.2.2.1 - s.heap.size ≤ (headSpec w_MD_readPlain { frames := 4, cells := Z.2.2.1 - s.heap.size, slots := Z.2.2.2 - k1, locals := 88 }).room.cells ∧ Z.2.2.2 - k1 ≤ (headSpec w_MD_readPlain { frames := 4, cells := Z.2.2.1 - s.heap.size, slots := Z.2.2.2 - k1, locals := 88 }).room.slots := ⟨Nat.le_refl _, Nat.le_refl _⟩
  have hRf : 4 ≤ (headSpec w_MD_readPlain { frames := 4, cells := Z.2.2.1 - s.heap.size, slots := Z.2.2.2 - k1, locals := 88 }).room.frames ∧ 88 ≤ (headSpec w_MD_readPlain { frames := 4, cells := Z.2.2.1 - s.heap.size, slots := Z.2.2.2 - k1, locals := 88 }).room.locals := ⟨Nat.le_refl _, Nat.le_refl _⟩
  generalize (headSpec w_MD_readPlain { frames := 4, cells := Z.2.2.1 - s.heap.size, slots := Z.2.2.2 - k1, locals := 88 }).room = R at hret hR hRf ⊢
  generalize (MQ below (hm_Q D dA hCl (hTy dA) sT aK aV z none Z.2) args s (Z.2.2.1 - s.heap.size) (Z.2.2.2 - k1) (fun q => z ≤ q)) = Q at hret ⊢
  rw [e_MD_readPlain] at hf
  refine lv_aload_n S.1 S.2.1 d_MD_readPlain_0 rfl (lv_at hl 0 rfl) ?_
  obtain ⟨⟨fs4, hefs4⟩, hf⟩ := b_is_inv hf
  obtain ⟨v1, N2, hg3, hf⟩ := b_call_inv hf
  refine x_call hI (hm_mo hg3) (va_runV (As := []) (rest := []) S (c_MD_takeName l hg3) (cwV 0 S.2.2.2.2 (gi_V wd_642 wd_643 wd_644 wd_564 wd_645) rfl rfl rfl (by decide +kernel) ⟨Nat.le_trans (Nat.le_of_ble_eq_true rfl) hRf.1, Nat.le_trans (Nat.le_of_ble_eq_true rfl) hRf.2⟩) ⟨hm_B.blind, va_recv hK (hI.1.one hefs4) (ci := 1) (q0 := 0) rfl rfl, fun U hU hW => ⟨rfl, hm_B.of hK hG hI hU hW⟩⟩ rfl rfl hl.1 rfl (lv_room (Nat.le_of_ble_eq_true rfl)) d_MD_readPlain_1 (hx_fit hI hR (hm_mo hg3) (hm_mo hf))) (fun H locs cells slots hI => ?_)
  refine W.eq (g2 := F0 m 4 ls [.int v1]) rfl ?_
  refine x_istore_n (lv2 := [(0, .ref h0)]) S d_MD_readPlain_4 rfl hl (by decide) [0] rfl ⟨⟨(by decide : (0 : Nat) ≠ 1), fun _ => rfl⟩, trivial⟩ (fun ls hl => ?_)
  refine lv_aload_n S.1 S.2.1 d_MD_readPlain_5 rfl (lv_at hl 1 rfl) ?_
  refine x_getI (ci := 1) (k := 45) S hK hI (fun w h => List.mem_cons_of_mem _ (i_MD w h)) rfl (by decide) (List.mem_cons_of_mem _ wd_637) rfl d_MD_readPlain_6 hf (fun v5 hf => ?_)
  refine x_istore_n (lv2 := [(1, .int v1), (0, .ref h0)]) S d_MD_readPlain_9 rfl hl (by decide) [0, 1] rfl ⟨⟨(by decide : (1 : Nat) ≠ 2), fun _ => rfl⟩, ⟨⟨(by decide : (0 : Nat) ≠ 2), fun h => absurd (show (0 : Nat) + 1 = 2 from h) (by decide)⟩, trivial⟩⟩ (fun ls hl => ?_)
  refine lv_aload_n S.1 S.2.1 d_MD_readPlain_10 rfl (lv_at hl 2 rfl) ?_
  refine x_getI (ci := 1) (k := 31) S hK hI (fun w h => List.mem_cons_of_mem _ (i_MD w h)) rfl (by decide) (List.mem_cons_of_mem _ wd_634) rfl d_MD_readPlain_11 hf (fun v6 hf => ?_)
  refine lv_bipush (v := 7) S.1 S.2.1 d_MD_readPlain_14 (by decide) ?_
  refine lv_icmp_ne (tgt := 40) S.1 S.2.1 d_MD_readPlain_16 (by decide) (fun hc => ?_) (fun hc => ?_)
  · have hf := b_if_f hc hf
    refine lv_aload_n S.1 S.2.1 d_MD_readPlain_40 rfl (lv_at hl 2 rfl) ?_
    refine x_getI (ci := 1) (k := 31) S hK hI (fun w h => List.mem_cons_of_mem _ (i_MD w h)) rfl (by decide) (List.mem_cons_of_mem _ wd_634) rfl d_MD_readPlain_41 hf (fun v7 hf => ?_)
    refine lv_bipush (v := 14) S.1 S.2.1 d_MD_readPlain_44 (by decide) ?_
    refine lv_icmp_ne (tgt := 79) S.1 S.2.1 d_MD_readPlain_46 (by decide) (fun hc => ?_) (fun hc => ?_)
    · have hf := b_if_f hc hf
      refine lv_aload_n S.1 S.2.1 d_MD_readPlain_79 rfl (lv_at hl 2 rfl) ?_
      obtain ⟨⟨fs11, hefs11⟩, hf⟩ := b_is_inv hf
      obtain ⟨v8, N9, hg10, hf⟩ := b_call_inv hf
      refine x_call hI (hm_mo hg10) (va_runV (As := []) (rest := []) S (c_MD_number l hg10) (cwV 0 S.2.2.2.2 (gi_V wd_590 wd_591 wd_592 wd_564 wd_593) rfl rfl rfl (by decide +kernel) ⟨Nat.le_trans (Nat.le_of_ble_eq_true rfl) hRf.1, Nat.le_trans (Nat.le_of_ble_eq_true rfl) hRf.2⟩) ⟨hm_B.blind, va_recv hK (hI.1.one hefs11) (ci := 1) (q0 := 0) rfl rfl, fun U hU hW => ⟨rfl, hm_B.of hK hG hI hU hW⟩⟩ rfl rfl hl.1 rfl (lv_room (Nat.le_of_ble_eq_true rfl)) d_MD_readPlain_80 (hx_fit hI hR (hm_mo hg10) (hm_mo hf))) (fun H locs cells slots hI => ?_)
      refine W.eq (g2 := F0 m 83 ls [.long v8]) rfl ?_
      refine x_lstore_n (lv2 := [(2, .int v5), (1, .int v1), (0, .ref h0)]) S d_MD_readPlain_83 rfl hl (by decide) [0, 1, 2] rfl ⟨⟨(by decide : (2 : Nat) ≠ 3), (by decide : (2 : Nat) ≠ 3 + 1), fun _ => rfl⟩, ⟨⟨(by decide : (1 : Nat) ≠ 3), (by decide : (1 : Nat) ≠ 3 + 1), fun h => absurd (show (1 : Nat) + 1 = 3 from h) (by decide)⟩, ⟨⟨(by decide : (0 : Nat) ≠ 3), (by decide : (0 : Nat) ≠ 3 + 1), fun h => absurd (show (0 : Nat) + 1 = 3 from h) (by decide)⟩, trivial⟩⟩⟩ (fun ls hl => ?_)
      refine lv_aload_n S.1 S.2.1 d_MD_readPlain_84 rfl (lv_at hl 3 rfl) ?_
      refine lv_iload_n S.1 S.2.1 d_MD_readPlain_85 rfl (lv_at hl 2 rfl) ?_
      refine lv_iload_n S.1 S.2.1 d_MD_readPlain_86 rfl (lv_at hl 1 rfl) ?_
      refine lv_iconst (v := 0) S.1 S.2.1 d_MD_readPlain_87 (by decide) ?_
      refine lv_iconst (v := 0) S.1 S.2.1 d_MD_readPlain_88 (by decide) ?_
      refine lv_lload_n S.1 S.2.1 d_MD_readPlain_89 rfl (lv_at hl 0 rfl) ?_
      refine lv_ldc2 (v := (-1)) S.1 S.2.1 S.2.2.2.1 (S.2.2.2.2 _ (List.mem_cons_of_mem _ wd_662)) d_MD_readPlain_90 ?_
      obtain ⟨⟨fs15, hefs15⟩, hf⟩ := b_is_inv hf
      obtain ⟨v12, N13, hg14, hf⟩ := b_call_inv hf
      refine x_call hI (hm_mo hg14) (va_runV (As := [.int v1, .int v5, .int 0, .int 0, .long v8, .long (-1)]) (rest := []) S (c_MD_addRow l hg14) (cwV 6 S.2.2.2.2 (gi_V wd_650 wd_651 wd_652 wd_564 wd_653) rfl rfl rfl (by decide +kernel) ⟨Nat.le_trans (Nat.le_of_ble_eq_true rfl) hRf.1, Nat.le_trans (Nat.le_of_ble_eq_true rfl) hRf.2⟩) ⟨hm_B.blind, va_recv hK (hI.1.one hefs15) (ci := 1) (q0 := 0) rfl rfl, fun U hU hW => ⟨rfl, hm_B.of hK hG hI hU hW⟩⟩ rfl rfl hl.1 rfl (lv_room (Nat.le_of_ble_eq_true rfl)) d_MD_readPlain_93 (hx_fit hI hR (hm_mo hg14) (hm_mo hf))) (fun H locs cells slots hI => ?_)
      refine W.eq (g2 := F0 m 96 ls [.int v12]) rfl ?_
      refine lv_pop S.1 S.2.1 d_MD_readPlain_96 rfl ?_
      exact hret _ _ _ _ _ _ _ d_MD_readPlain_97 hf hI
    · have hf := b_if_t hc hf
      refine lv_aload_n S.1 S.2.1 d_MD_readPlain_49 rfl (lv_at hl 2 rfl) ?_
      obtain ⟨⟨fs19, hefs19⟩, hf⟩ := b_is_inv hf
      obtain ⟨v16, N17, hg18, hf⟩ := b_call_inv hf
      refine x_call hI (hm_mo hg18) (va_runV (As := []) (rest := []) S (c_MD_takeName l hg18) (cwV 0 S.2.2.2.2 (gi_V wd_642 wd_643 wd_644 wd_564 wd_645) rfl rfl rfl (by decide +kernel) ⟨Nat.le_trans (Nat.le_of_ble_eq_true rfl) hRf.1, Nat.le_trans (Nat.le_of_ble_eq_true rfl) hRf.2⟩) ⟨hm_B.blind, va_recv hK (hI.1.one hefs19) (ci := 1) (q0 := 0) rfl rfl, fun U hU hW => ⟨rfl, hm_B.of hK hG hI hU hW⟩⟩ rfl rfl hl.1 rfl (lv_room (Nat.le_of_ble_eq_true rfl)) d_MD_readPlain_50 (hx_fit hI hR (hm_mo hg18) (hm_mo hf))) (fun H locs cells slots hI => ?_)
      refine W.eq (g2 := F0 m 53 ls [.int v16]) rfl ?_
      refine x_istore_n (lv2 := [(2, .int v5), (1, .int v1), (0, .ref h0)]) S d_MD_readPlain_53 rfl hl (by decide) [0, 1, 2] rfl ⟨⟨(by decide : (2 : Nat) ≠ 3), fun _ => rfl⟩, ⟨⟨(by decide : (1 : Nat) ≠ 3), fun h => absurd (show (1 : Nat) + 1 = 3 from h) (by decide)⟩, ⟨⟨(by decide : (0 : Nat) ≠ 3), fun h => absurd (show (0 : Nat) + 1 = 3 from h) (by decide)⟩, trivial⟩⟩⟩ (fun ls hl => ?_)
      refine lv_aload_n S.1 S.2.1 d_MD_readPlain_54 rfl (lv_at hl 3 rfl) ?_
      refine x_getI (ci := 1) (k := 45) S hK hI (fun w h => List.mem_cons_of_mem _ (i_MD w h)) rfl (by decide) (List.mem_cons_of_mem _ wd_637) rfl d_MD_readPlain_55 hf (fun v20 hf => ?_)
      refine x_istore (lv2 := [(3, .int v16), (2, .int v5), (1, .int v1), (0, .ref h0)]) S d_MD_readPlain_58 hl (by decide) [0, 1, 2, 3] rfl ⟨⟨(by decide : (3 : Nat) ≠ 4), fun _ => rfl⟩, ⟨⟨(by decide : (2 : Nat) ≠ 4), fun h => absurd (show (2 : Nat) + 1 = 4 from h) (by decide)⟩, ⟨⟨(by decide : (1 : Nat) ≠ 4), fun h => absurd (show (1 : Nat) + 1 = 4 from h) (by decide)⟩, ⟨⟨(by decide : (0 : Nat) ≠ 4), fun h => absurd (show (0 : Nat) + 1 = 4 from h) (by decide)⟩, trivial⟩⟩⟩⟩ (fun ls hl => ?_)
      refine lv_aload_n S.1 S.2.1 d_MD_readPlain_60 rfl (lv_at hl 4 rfl) ?_
      refine lv_iload_n S.1 S.2.1 d_MD_readPlain_61 rfl (lv_at hl 3 rfl) ?_
      refine lv_iload_n S.1 S.2.1 d_MD_readPlain_62 rfl (lv_at hl 2 rfl) ?_
      refine lv_iload_n S.1 S.2.1 d_MD_readPlain_63 rfl (lv_at hl 1 rfl) ?_
      refine lv_iload S.1 S.2.1 d_MD_readPlain_64 (lv_at hl 0 rfl) ?_
      refine lv_ldc2 (v := (-1)) S.1 S.2.1 S.2.2.2.1 (S.2.2.2.2 _ (List.mem_cons_of_mem _ wd_662)) d_MD_readPlain_66 ?_
      refine lv_ldc2 (v := (-1)) S.1 S.2.1 S.2.2.2.1 (S.2.2.2.2 _ (List.mem_cons_of_mem _ wd_662)) d_MD_readPlain_69 ?_
      obtain ⟨⟨fs24, hefs24⟩, hf⟩ := b_is_inv hf
      obtain ⟨v21, N22, hg23, hf⟩ := b_call_inv hf
      refine x_call hI (hm_mo hg23) (va_runV (As := [.int v1, .int v5, .int v16, .int v20, .long (-1), .long (-1)]) (rest := []) S (c_MD_addRow l hg23) (cwV 6 S.2.2.2.2 (gi_V wd_650 wd_651 wd_652 wd_564 wd_653) rfl rfl rfl (by decide +kernel) ⟨Nat.le_trans (Nat.le_of_ble_eq_true rfl) hRf.1, Nat.le_trans (Nat.le_of_ble_eq_true rfl) hRf.2⟩) ⟨hm_B.blind, va_recv hK (hI.1.one hefs24) (ci := 1) (q0 := 0) rfl rfl, fun U hU hW => ⟨rfl, hm_B.of hK hG hI hU hW⟩⟩ rfl rfl hl.1 rfl (lv_room (Nat.le_of_ble_eq_true rfl)) d_MD_readPlain_72 (hx_fit hI hR (hm_mo hg23) (hm_mo hf))) (fun H locs cells slots hI => ?_)
      refine W.eq (g2 := F0 m 75 ls [.int v21]) rfl ?_
      refine lv_pop S.1 S.2.1 d_MD_readPlain_75 rfl ?_
      refine lv_goto (tgt := 97) S.1 S.2.1 d_MD_readPlain_76 (by decide) ?_
      exact hret _ _ _ _ _ _ _ d_MD_readPlain_97 hf hI
  · have hf := b_if_t hc hf
    refine lv_aload_n S.1 S.2.1 d_MD_readPlain_19 rfl (lv_at hl 2 rfl) ?_
    obtain ⟨⟨fs28, hefs28⟩, hf⟩ := b_is_inv hf
    obtain ⟨v25, N26, hg27, hf⟩ := b_call_inv hf
    refine x_call hI (hm_mo hg27) (va_runV (As := []) (rest := []) S (c_MD_readVersion l hg27) (cwV 0 S.2.2.2.2 (gi_V wd_604 wd_605 wd_606 wd_564 wd_607) rfl rfl rfl (by decide +kernel) ⟨Nat.le_trans (Nat.le_of_ble_eq_true rfl) hRf.1, Nat.le_trans (Nat.le_of_ble_eq_true rfl) hRf.2⟩) ⟨hm_B.blind, va_recv hK (hI.1.one hefs28) (ci := 1) (q0 := 0) rfl rfl, fun U hU hW => ⟨rfl, hm_B.of hK hG hI hU hW⟩⟩ rfl rfl hl.1 rfl (lv_room (Nat.le_of_ble_eq_true rfl)) d_MD_readPlain_20 (hx_fit hI hR (hm_mo hg27) (hm_mo hf))) (fun H locs cells slots hI => ?_)
    refine W.eq (g2 := F0 m 23 ls [.long v25]) rfl ?_
    refine x_lstore_n (lv2 := [(2, .int v5), (1, .int v1), (0, .ref h0)]) S d_MD_readPlain_23 rfl hl (by decide) [0, 1, 2] rfl ⟨⟨(by decide : (2 : Nat) ≠ 3), (by decide : (2 : Nat) ≠ 3 + 1), fun _ => rfl⟩, ⟨⟨(by decide : (1 : Nat) ≠ 3), (by decide : (1 : Nat) ≠ 3 + 1), fun h => absurd (show (1 : Nat) + 1 = 3 from h) (by decide)⟩, ⟨⟨(by decide : (0 : Nat) ≠ 3), (by decide : (0 : Nat) ≠ 3 + 1), fun h => absurd (show (0 : Nat) + 1 = 3 from h) (by decide)⟩, trivial⟩⟩⟩ (fun ls hl => ?_)
    refine lv_aload_n S.1 S.2.1 d_MD_readPlain_24 rfl (lv_at hl 3 rfl) ?_
    refine lv_iload_n S.1 S.2.1 d_MD_readPlain_25 rfl (lv_at hl 2 rfl) ?_
    refine lv_iload_n S.1 S.2.1 d_MD_readPlain_26 rfl (lv_at hl 1 rfl) ?_
    refine lv_iconst (v := 0) S.1 S.2.1 d_MD_readPlain_27 (by decide) ?_
    refine lv_iconst (v := 0) S.1 S.2.1 d_MD_readPlain_28 (by decide) ?_
    refine lv_lload_n S.1 S.2.1 d_MD_readPlain_29 rfl (lv_at hl 0 rfl) ?_
    refine lv_lload_n S.1 S.2.1 d_MD_readPlain_30 rfl (lv_at hl 0 rfl) ?_
    refine lv_lconst (v := 1) S.1 S.2.1 d_MD_readPlain_31 (by decide) ?_
    refine lv_ladd S.1 S.2.1 d_MD_readPlain_32 ?_
    obtain ⟨⟨fs32, hefs32⟩, hf⟩ := b_is_inv hf
    obtain ⟨v29, N30, hg31, hf⟩ := b_call_inv hf
    refine x_call hI (hm_mo hg31) (va_runV (As := [.int v1, .int v5, .int 0, .int 0, .long v25, .long (v25 + 1)]) (rest := []) S (c_MD_addRow l hg31) (cwV 6 S.2.2.2.2 (gi_V wd_650 wd_651 wd_652 wd_564 wd_653) rfl rfl rfl (by decide +kernel) ⟨Nat.le_trans (Nat.le_of_ble_eq_true rfl) hRf.1, Nat.le_trans (Nat.le_of_ble_eq_true rfl) hRf.2⟩) ⟨hm_B.blind, va_recv hK (hI.1.one hefs32) (ci := 1) (q0 := 0) rfl rfl, fun U hU hW => ⟨rfl, hm_B.of hK hG hI hU hW⟩⟩ rfl rfl hl.1 rfl (lv_room (Nat.le_of_ble_eq_true rfl)) d_MD_readPlain_33 (hx_fit hI hR (hm_mo hg31) (hm_mo hf))) (fun H locs cells slots hI => ?_)
    refine W.eq (g2 := F0 m 36 ls [.int v29]) rfl ?_
    refine lv_pop S.1 S.2.1 d_MD_readPlain_36 rfl ?_
    refine lv_goto (tgt := 97) S.1 S.2.1 d_MD_readPlain_37 (by decide) ?_
    exact hret _ _ _ _ _ _ _ d_MD_readPlain_97 hf hI
set_option maxHeartbeats 4000000 in
set_option maxRecDepth 100000 in
theorem c_MD_readRow (l : Launch) {D : va_G} {dA : Nat → ClassId} {aK aV : Nat → Nat} {z : Nat} {N : Nat} {h0 : Nat} {M : hM} {Z : Unit × hM} (hf : (f_MD_readRow N h0 ).1 M = some Z) : Met l y_MD_readRow w_MD_readRow ({ frames := 8, cells := Z.2.2.1 - M.2.1, slots := Z.2.2.2 - M.2.2, locals := 176 }) (va_Pc [.ref h0] (hm_B D dA hCl (hTy dA) sT aK aV z M)) (hm_Q D dA hCl (hTy dA) sT aK aV z none Z.2) (Z.2.2.1 - M.2.1) (Z.2.2.2 - M.2.2) (fun q => z ≤ q) := by
  refine Met.ofW (cc := b_MD_readRow) (maxL := 4) (ret := none) (by decide) rfl ?_
  intro p e s m args below meth c s₁ B hml hv
  obtain ⟨hav, hB⟩ := hv
  have S : CallFix p m c b_MD_readRow 4 s args w_MD_readRow R_MD := ⟨B.exec, B.bytes, hml, findClass_of_methodNamed B.named, atoms_spec (ws := w_MD_readRow) B.pre⟩
  have hr : meth.sig.returnType = none := B.returns
  have hlocks := B.notSynchronized
  have hK := hB.2.2.1
  have hG := hB.2.2.2.2.2
  have hI := hm_I.start hB
  rw [← hB.2.1]
  generalize M.2.2 = k1 at hI ⊢
  refine W.eq (g2 := F0 m 0 ((lg_sl ([.ref h0]) ++ List.replicate (4 - (lg_sl ([.ref h0])).length) Slot.unset).toArray) []) (by rw [hav]; exact lg_entry_eq m ([.ref h0]) 4) ?_
  have hl := lv_entry ([.ref h0]) (n := 4) (Nat.le_of_ble_eq_true rfl)
  generalize (lg_sl ([.ref h0]) ++ List.replicate (4 - (lg_sl ([.ref h0])).length) Slot.unset).toArray = ls at hl ⊢
  simp only [lvA_nil, lvA_i, lvA_l, lvA_a, lvA_r, Nat.zero_add, Nat.reduceAdd] at hl
  have hret : ∀ (M : hM) (H : Heap) (locs : List Loc) (cells slots : Nat) (ls : Array Slot) (pc : Nat), decode b_MD_readRow pc = .ok (.return_, 1) → (b_ret ()).1 M = some Z → hm_I D dA hCl z k1 s M H locs cells slots → W p l e (headSpec w_MD_readRow { frames := 8, cells := Z.2.2.1 - s.heap.size, slots := Z.2.2.2 - k1, locals := 176 }).room s m args below meth c H locs cells slots (MQ below (hm_Q D dA hCl (hTy dA) sT aK aV z none Z.2) args s (Z.2.2.1 - s.heap.size) (Z.2.2.2 - k1) (fun q => z ≤ q)) (F0 m pc ls []) := fun M H locs cells slots ls pc hdg hf hI => x_retv S hK hG hI hr hlocks hdg hf
  have hR : Z.2.2.1 - s.heap.size ≤ (headSpec w_MD_readRow { frames := 8, cells := Z.2.2.1 - s.heap.size, slots := Z.2.2.2 - k1, locals := 176 }).room.cells ∧ Z.2.2.2 - k1 ≤ (headSpec w_MD_readRow { frames := 8, cells := Z.2.2.1 - s.heap.size, slots := Z.2.2.2 - k1, locals := 176 }).room.slots := ⟨Nat.le_refl _, Nat.le_refl _⟩
  have hRf : 8 ≤ (headSpec w_MD_readRow { frames := 8, cells := Z.2.2.1 - s.heap.size, slots := Z.2.2.2 - k1, locals := 176 }).room.frames ∧ 176 ≤ (headSpec w_MD_readRow { frames := 8, cells := Z.2.2.1 - s.heap.size, slots := Z.2.2.2 - k1, locals := 176 }).room.locals := ⟨Nat.le_refl _, Nat.le_refl _⟩
  generalize (headSpec w_MD_readRow { frames := 8, cells := Z.2.2.1 - s.heap.size, slots := Z.2.2.2 - k1, locals := 176 }).room = R at hret hR hRf ⊢
  generalize (MQ below (hm_Q D dA hCl (hTy dA) sT aK aV z none Z.2) args s (Z.2.2.1 - s.heap.size) (Z.2.2.2 - k1) (fun q => z ≤ q)) = Q at hret ⊢
  rw [e_MD_readRow] at hf
  have w15 : ∀ (n : Nat) (x1 : Int64) (x3 : Int32) (M : hM) (H : Heap) (locs : List Loc) (ls : Array Slot) (cells slots : Nat), (f_MD_readRow_15 N h0  n x1 x3).1 M = some Z → hm_I D dA hCl z k1 s M H locs cells slots → lv_has ls 4 [(0, .ref h0), (1, .long x1), (3, .int x3)] → W p l e R s m args below meth c H locs cells slots Q (F0 m 15 ls []) := by
    intro n
    induction n with
    | zero => intro x1 x3 M H locs ls cells slots hf hI hl; cases hf
    | succ n15 ih15 =>
      intro x1 x3 M H locs ls cells slots hf hI hl
      rw [e_MD_readRow_15] at hf
      obtain ⟨J38, eJ38, hf⟩ := b_let_inv hf
      have w38 : ∀ (x1 : Int64) (x3 : Int32) (M : hM) (H : Heap) (locs : List Loc) (ls : Array Slot) (cells slots : Nat), (J38 x1 x3).1 M = some Z → hm_I D dA hCl z k1 s M H locs cells slots → lv_has ls 4 [(0, .ref h0), (1, .long x1), (3, .int x3)] → W p l e R s m args below meth c H locs cells slots Q (F0 m 38 ls []) := by
        intro x1 x3 M H locs ls cells slots hf hI hl
        rw [eJ38] at hf
        obtain ⟨J50, eJ50, hf⟩ := b_let_inv hf
        have w50 : ∀  (M : hM) (H : Heap) (locs : List Loc) (ls : Array Slot) (cells slots : Nat), (J50).1 M = some Z → hm_I D dA hCl z k1 s M H locs cells slots → lv_has ls 4 [(0, .ref h0)] → W p l e R s m args below meth c H locs cells slots Q (F0 m 50 ls []) := by
          intro M H locs ls cells slots hf hI hl
          rw [eJ50] at hf
          refine lv_aload_n S.1 S.2.1 d_MD_readRow_50 rfl (lv_at hl 0 rfl) ?_
          refine lv_aload_n S.1 S.2.1 d_MD_readRow_51 rfl (lv_at hl 0 rfl) ?_
          refine x_getI (ci := 1) (k := 3) S hK hI (fun w h => List.mem_cons_of_mem _ (i_MD w h)) rfl (by decide) (List.mem_cons_of_mem _ wd_560) rfl d_MD_readRow_52 hf (fun v1 hf => ?_)
          obtain ⟨⟨fs5, hefs5⟩, hf⟩ := b_is_inv hf
          obtain ⟨r2, N3, hg4, hf⟩ := b_call_inv hf
          refine x_call hI (hm_mo hg4) (va_runV (As := [.int v1]) (rest := []) S (c_MD_fail l hg4) (cwV 1 S.2.2.2.2 (gi_V wd_579 wd_580 wd_581 wd_564 wd_582) rfl rfl rfl (by decide +kernel) ⟨Nat.le_trans (Nat.le_of_ble_eq_true rfl) hRf.1, Nat.le_trans (Nat.le_of_ble_eq_true rfl) hRf.2⟩) ⟨hm_B.blind, va_recv hK (hI.1.one hefs5) (ci := 1) (q0 := 0) rfl rfl, fun U hU hW => ⟨rfl, hm_B.of hK hG hI hU hW⟩⟩ rfl rfl hl.1 rfl (lv_room (Nat.le_of_ble_eq_true rfl)) d_MD_readRow_55 (hx_fit hI hR (hm_mo hg4) (hm_mo hf))) (fun H locs cells slots hI => ?_)
          refine W.eq (g2 := F0 m 58 ls []) rfl ?_
          exact hret _ _ _ _ _ _ _ d_MD_readRow_58 hf hI
        obtain ⟨J174, eJ174, hf⟩ := b_let_inv hf
        have w174 : ∀  (M : hM) (H : Heap) (locs : List Loc) (ls : Array Slot) (cells slots : Nat), (J174).1 M = some Z → hm_I D dA hCl z k1 s M H locs cells slots → lv_has ls 4 [(0, .ref h0)] → W p l e R s m args below meth c H locs cells slots Q (F0 m 174 ls []) := by
          intro M H locs ls cells slots hf hI hl
          rw [eJ174] at hf
          refine lv_aload_n S.1 S.2.1 d_MD_readRow_174 rfl (lv_at hl 0 rfl) ?_
          refine lv_bipush (v := 59) S.1 S.2.1 d_MD_readRow_175 (by decide) ?_
          obtain ⟨⟨fs9, hefs9⟩, hf⟩ := b_is_inv hf
          obtain ⟨r6, N7, hg8, hf⟩ := b_call_inv hf
          refine x_call hI (hm_mo hg8) (va_runV (As := [.int 59]) (rest := []) S (c_MD_sign l hg8) (cwV 1 S.2.2.2.2 (gi_V wd_598 wd_599 wd_600 wd_564 wd_601) rfl rfl rfl (by decide +kernel) ⟨Nat.le_trans (Nat.le_of_ble_eq_true rfl) hRf.1, Nat.le_trans (Nat.le_of_ble_eq_true rfl) hRf.2⟩) ⟨hm_B.blind, va_recv hK (hI.1.one hefs9) (ci := 1) (q0 := 0) rfl rfl, fun U hU hW => ⟨rfl, hm_B.of hK hG hI hU hW⟩⟩ rfl rfl hl.1 rfl (lv_room (Nat.le_of_ble_eq_true rfl)) d_MD_readRow_177 (hx_fit hI hR (hm_mo hg8) (hm_mo hf))) (fun H locs cells slots hI => ?_)
          refine W.eq (g2 := F0 m 180 ls []) rfl ?_
          exact hret _ _ _ _ _ _ _ d_MD_readRow_180 hf hI
        obtain ⟨J104, eJ104, hf⟩ := b_let_inv hf
        have w104 : ∀  (M : hM) (H : Heap) (locs : List Loc) (ls : Array Slot) (cells slots : Nat), (J104).1 M = some Z → hm_I D dA hCl z k1 s M H locs cells slots → lv_has ls 4 [(0, .ref h0)] → W p l e R s m args below meth c H locs cells slots Q (F0 m 104 ls []) := by
          intro M H locs ls cells slots hf hI hl
          rw [eJ104] at hf
          refine lv_aload_n S.1 S.2.1 d_MD_readRow_104 rfl (lv_at hl 0 rfl) ?_
          obtain ⟨⟨fs13, hefs13⟩, hf⟩ := b_is_inv hf
          obtain ⟨r10, N11, hg12, hf⟩ := b_call_inv hf
          refine x_call hI (hm_mo hg12) (va_runV (As := []) (rest := []) S (c_MD_readRanged l hg12) (cwV 0 S.2.2.2.2 (gi_V wd_654 wd_655 wd_656 wd_564 wd_657) rfl rfl rfl (by decide +kernel) ⟨Nat.le_trans (Nat.le_of_ble_eq_true rfl) hRf.1, Nat.le_trans (Nat.le_of_ble_eq_true rfl) hRf.2⟩) ⟨hm_B.blind, va_recv hK (hI.1.one hefs13) (ci := 1) (q0 := 0) rfl rfl, fun U hU hW => ⟨rfl, hm_B.of hK hG hI hU hW⟩⟩ rfl rfl hl.1 rfl (lv_room (Nat.le_of_ble_eq_true rfl)) d_MD_readRow_105 (hx_fit hI hR (hm_mo hg12) (hm_mo hf))) (fun H locs cells slots hI => ?_)
          refine W.eq (g2 := F0 m 108 ls []) rfl ?_
          refine lv_goto (tgt := 174) S.1 S.2.1 d_MD_readRow_108 (by decide) ?_
          exact w174  _ _ _ _ _ _ hf hI (lv_sub hl [0] rfl)
        obtain ⟨J170, eJ170, hf⟩ := b_let_inv hf
        have w170 : ∀  (M : hM) (H : Heap) (locs : List Loc) (ls : Array Slot) (cells slots : Nat), (J170).1 M = some Z → hm_I D dA hCl z k1 s M H locs cells slots → lv_has ls 4 [(0, .ref h0)] → W p l e R s m args below meth c H locs cells slots Q (F0 m 170 ls []) := by
          intro M H locs ls cells slots hf hI hl
          rw [eJ170] at hf
          refine lv_aload_n S.1 S.2.1 d_MD_readRow_170 rfl (lv_at hl 0 rfl) ?_
          obtain ⟨⟨fs17, hefs17⟩, hf⟩ := b_is_inv hf
          obtain ⟨r14, N15, hg16, hf⟩ := b_call_inv hf
          refine x_call hI (hm_mo hg16) (va_runV (As := []) (rest := []) S (c_MD_readPlain l hg16) (cwV 0 S.2.2.2.2 (gi_V wd_668 wd_669 wd_670 wd_564 wd_671) rfl rfl rfl (by decide +kernel) ⟨Nat.le_trans (Nat.le_of_ble_eq_true rfl) hRf.1, Nat.le_trans (Nat.le_of_ble_eq_true rfl) hRf.2⟩) ⟨hm_B.blind, va_recv hK (hI.1.one hefs17) (ci := 1) (q0 := 0) rfl rfl, fun U hU hW => ⟨rfl, hm_B.of hK hG hI hU hW⟩⟩ rfl rfl hl.1 rfl (lv_room (Nat.le_of_ble_eq_true rfl)) d_MD_readRow_171 (hx_fit hI hR (hm_mo hg16) (hm_mo hf))) (fun H locs cells slots hI => ?_)
          refine W.eq (g2 := F0 m 174 ls []) rfl ?_
          exact w174  _ _ _ _ _ _ hf hI (lv_sub hl [0] rfl)
        refine lv_iload_n S.1 S.2.1 d_MD_readRow_38 rfl (lv_at hl 2 rfl) ?_
        refine lv_bipush (v := 12) S.1 S.2.1 d_MD_readRow_39 (by decide) ?_
        refine lv_icmp_eq (tgt := 50) S.1 S.2.1 d_MD_readRow_41 (by decide) (fun hc => ?_) (fun hc => ?_)
        · have hf := b_if_t hc hf
          exact w50  _ _ _ _ _ _ hf hI (lv_sub hl [0] rfl)
        · have hf := b_if_f hc hf
          refine lv_lload_n S.1 S.2.1 d_MD_readRow_44 rfl (lv_at hl 1 rfl) ?_
          refine lv_lconst (v := 0) S.1 S.2.1 d_MD_readRow_45 (by decide) ?_
          refine W.lcmp S.1 S.2.1 d_MD_readRow_46 ?_
          refine lv_if_ne (tgt := 59) S.1 S.2.1 d_MD_readRow_47 (by decide) (fun hc => ?_) (fun hc => ?_)
          · have hf := b_if_f hc hf
            refine lv_aload_n S.1 S.2.1 d_MD_readRow_59 rfl (lv_at hl 0 rfl) ?_
            refine lv_aload_n S.1 S.2.1 d_MD_readRow_60 rfl (lv_at hl 0 rfl) ?_
            refine x_getR (ci := 1) (k := 10) S hK hI (fun w h => List.mem_cons_of_mem _ (i_MD w h)) rfl (by decide) (List.mem_cons_of_mem _ wd_530) rfl d_MD_readRow_61 hf (fun r18 hf => ?_)
            refine lv_iload_n S.1 S.2.1 d_MD_readRow_64 rfl (lv_at hl 2 rfl) ?_
            obtain ⟨a19, ea19, hg⟩ := b_nn_inv hf
            have hI0 := hI
            have hl0 := hl
            clear hf hI hl
            subst ea19
            have hf := hg
            have hI := hI0
            have hl := hl0
            clear hg hI0 hl0
            refine x_iald (t := 2) S hK hI rfl d_MD_readRow_65 hf (fun v20 hf => ?_)
            refine x_put (ci := 1) (k := 31) S hK hI (fun w h => List.mem_cons_of_mem _ (i_MD w h)) t_MD t_MD_ok n_MD rfl (by decide) (List.mem_cons_of_mem _ wd_634) rfl (Or.inl rfl) (by rfl) rfl d_MD_readRow_66 hf (fun M H locs hf hI => ?_)
            refine lv_aload_n S.1 S.2.1 d_MD_readRow_69 rfl (lv_at hl 0 rfl) ?_
            obtain ⟨⟨fs24, hefs24⟩, hf⟩ := b_is_inv hf
            obtain ⟨r21, N22, hg23, hf⟩ := b_call_inv hf
            refine x_call hI (hm_mo hg23) (va_runV (As := []) (rest := []) S (c_MD_next l hg23) (cwV 0 S.2.2.2.2 (gi_V wd_583 wd_584 wd_585 wd_564 wd_586) rfl rfl rfl (by decide +kernel) ⟨Nat.le_trans (Nat.le_of_ble_eq_true rfl) hRf.1, Nat.le_trans (Nat.le_of_ble_eq_true rfl) hRf.2⟩) ⟨hm_B.blind, va_recv hK (hI.1.one hefs24) (ci := 1) (q0 := 0) rfl rfl, fun U hU hW => ⟨rfl, hm_B.of hK hG hI hU hW⟩⟩ rfl rfl hl.1 rfl (lv_room (Nat.le_of_ble_eq_true rfl)) d_MD_readRow_70 (hx_fit hI hR (hm_mo hg23) (hm_mo hf))) (fun H locs cells slots hI => ?_)
            refine W.eq (g2 := F0 m 73 ls []) rfl ?_
            refine lv_aload_n S.1 S.2.1 d_MD_readRow_73 rfl (lv_at hl 0 rfl) ?_
            refine x_getI (ci := 1) (k := 31) S hK hI (fun w h => List.mem_cons_of_mem _ (i_MD w h)) rfl (by decide) (List.mem_cons_of_mem _ wd_634) rfl d_MD_readRow_74 hf (fun v25 hf => ?_)
            refine lv_if_ne (tgt := 87) S.1 S.2.1 d_MD_readRow_77 (by decide) (fun hc => ?_) (fun hc => ?_)
            · have hf := b_if_f hc hf
              refine lv_aload_n S.1 S.2.1 d_MD_readRow_87 rfl (lv_at hl 0 rfl) ?_
              refine x_getI (ci := 1) (k := 31) S hK hI (fun w h => List.mem_cons_of_mem _ (i_MD w h)) rfl (by decide) (List.mem_cons_of_mem _ wd_634) rfl d_MD_readRow_88 hf (fun v26 hf => ?_)
              refine lv_iconst (v := 5) S.1 S.2.1 d_MD_readRow_91 (by decide) ?_
              refine lv_icmp_eq (tgt := 104) S.1 S.2.1 d_MD_readRow_92 (by decide) (fun hc => ?_) (fun hc => ?_)
              · have hf := b_if_t hc hf
                exact w104  _ _ _ _ _ _ hf hI (lv_sub hl [0] rfl)
              · have hf := b_if_f hc hf
                refine lv_aload_n S.1 S.2.1 d_MD_readRow_95 rfl (lv_at hl 0 rfl) ?_
                refine x_getI (ci := 1) (k := 31) S hK hI (fun w h => List.mem_cons_of_mem _ (i_MD w h)) rfl (by decide) (List.mem_cons_of_mem _ wd_634) rfl d_MD_readRow_96 hf (fun v27 hf => ?_)
                refine lv_bipush (v := 6) S.1 S.2.1 d_MD_readRow_99 (by decide) ?_
                refine lv_icmp_ne (tgt := 111) S.1 S.2.1 d_MD_readRow_101 (by decide) (fun hc => ?_) (fun hc => ?_)
                · have hf := b_if_f hc hf
                  refine lv_aload_n S.1 S.2.1 d_MD_readRow_111 rfl (lv_at hl 0 rfl) ?_
                  refine x_getI (ci := 1) (k := 31) S hK hI (fun w h => List.mem_cons_of_mem _ (i_MD w h)) rfl (by decide) (List.mem_cons_of_mem _ wd_634) rfl d_MD_readRow_112 hf (fun v28 hf => ?_)
                  refine lv_bipush (v := 8) S.1 S.2.1 d_MD_readRow_115 (by decide) ?_
                  refine lv_icmp_ne (tgt := 127) S.1 S.2.1 d_MD_readRow_117 (by decide) (fun hc => ?_) (fun hc => ?_)
                  · have hf := b_if_f hc hf
                    refine lv_aload_n S.1 S.2.1 d_MD_readRow_127 rfl (lv_at hl 0 rfl) ?_
                    refine x_getI (ci := 1) (k := 31) S hK hI (fun w h => List.mem_cons_of_mem _ (i_MD w h)) rfl (by decide) (List.mem_cons_of_mem _ wd_634) rfl d_MD_readRow_128 hf (fun v29 hf => ?_)
                    refine lv_bipush (v := 9) S.1 S.2.1 d_MD_readRow_131 (by decide) ?_
                    refine lv_icmp_ne (tgt := 143) S.1 S.2.1 d_MD_readRow_133 (by decide) (fun hc => ?_) (fun hc => ?_)
                    · have hf := b_if_f hc hf
                      refine lv_aload_n S.1 S.2.1 d_MD_readRow_143 rfl (lv_at hl 0 rfl) ?_
                      refine x_getI (ci := 1) (k := 31) S hK hI (fun w h => List.mem_cons_of_mem _ (i_MD w h)) rfl (by decide) (List.mem_cons_of_mem _ wd_634) rfl d_MD_readRow_144 hf (fun v30 hf => ?_)
                      refine lv_bipush (v := 9) S.1 S.2.1 d_MD_readRow_147 (by decide) ?_
                      refine lv_icmp_le (tgt := 170) S.1 S.2.1 d_MD_readRow_149 (by decide) (fun hc => ?_) (fun hc => ?_)
                      · have hf := b_if_t hc hf
                        exact w170  _ _ _ _ _ _ hf hI (lv_sub hl [0] rfl)
                      · have hf := b_if_f hc hf
                        refine lv_aload_n S.1 S.2.1 d_MD_readRow_152 rfl (lv_at hl 0 rfl) ?_
                        refine x_getI (ci := 1) (k := 31) S hK hI (fun w h => List.mem_cons_of_mem _ (i_MD w h)) rfl (by decide) (List.mem_cons_of_mem _ wd_634) rfl d_MD_readRow_153 hf (fun v31 hf => ?_)
                        refine lv_bipush (v := 14) S.1 S.2.1 d_MD_readRow_156 (by decide) ?_
                        refine lv_icmp_ge (tgt := 170) S.1 S.2.1 d_MD_readRow_158 (by decide) (fun hc => ?_) (fun hc => ?_)
                        · have hf := b_if_t hc hf
                          exact w170  _ _ _ _ _ _ hf hI (lv_sub hl [0] rfl)
                        · have hf := b_if_f hc hf
                          refine lv_aload_n S.1 S.2.1 d_MD_readRow_161 rfl (lv_at hl 0 rfl) ?_
                          refine lv_iconst (v := 0) S.1 S.2.1 d_MD_readRow_162 (by decide) ?_
                          refine lv_iconst (v := 0) S.1 S.2.1 d_MD_readRow_163 (by decide) ?_
                          obtain ⟨⟨fs35, hefs35⟩, hf⟩ := b_is_inv hf
                          obtain ⟨r32, N33, hg34, hf⟩ := b_call_inv hf
                          refine x_call hI (hm_mo hg34) (va_runV (As := [.int 0, .int 0]) (rest := []) S (c_MD_readNames l hg34) (cwV 2 S.2.2.2.2 (gi_V wd_664 wd_665 wd_666 wd_564 wd_667) rfl rfl rfl (by decide +kernel) ⟨Nat.le_trans (Nat.le_of_ble_eq_true rfl) hRf.1, Nat.le_trans (Nat.le_of_ble_eq_true rfl) hRf.2⟩) ⟨hm_B.blind, va_recv hK (hI.1.one hefs35) (ci := 1) (q0 := 0) rfl rfl, fun U hU hW => ⟨rfl, hm_B.of hK hG hI hU hW⟩⟩ rfl rfl hl.1 rfl (lv_room (Nat.le_of_ble_eq_true rfl)) d_MD_readRow_164 (hx_fit hI hR (hm_mo hg34) (hm_mo hf))) (fun H locs cells slots hI => ?_)
                          refine W.eq (g2 := F0 m 167 ls []) rfl ?_
                          refine lv_goto (tgt := 174) S.1 S.2.1 d_MD_readRow_167 (by decide) ?_
                          exact w174  _ _ _ _ _ _ hf hI (lv_sub hl [0] rfl)
                    · have hf := b_if_t hc hf
                      refine lv_aload_n S.1 S.2.1 d_MD_readRow_136 rfl (lv_at hl 0 rfl) ?_
                      obtain ⟨⟨fs39, hefs39⟩, hf⟩ := b_is_inv hf
                      obtain ⟨r36, N37, hg38, hf⟩ := b_call_inv hf
                      refine x_call hI (hm_mo hg38) (va_runV (As := []) (rest := []) S (c_MD_readFeature l hg38) (cwV 0 S.2.2.2.2 (gi_V wd_672 wd_673 wd_674 wd_564 wd_675) rfl rfl rfl (by decide +kernel) ⟨Nat.le_trans (Nat.le_of_ble_eq_true rfl) hRf.1, Nat.le_trans (Nat.le_of_ble_eq_true rfl) hRf.2⟩) ⟨hm_B.blind, va_recv hK (hI.1.one hefs39) (ci := 1) (q0 := 0) rfl rfl, fun U hU hW => ⟨rfl, hm_B.of hK hG hI hU hW⟩⟩ rfl rfl hl.1 rfl (lv_room (Nat.le_of_ble_eq_true rfl)) d_MD_readRow_137 (hx_fit hI hR (hm_mo hg38) (hm_mo hf))) (fun H locs cells slots hI => ?_)
                      refine W.eq (g2 := F0 m 140 ls []) rfl ?_
                      refine lv_goto (tgt := 174) S.1 S.2.1 d_MD_readRow_140 (by decide) ?_
                      exact w174  _ _ _ _ _ _ hf hI (lv_sub hl [0] rfl)
                  · have hf := b_if_t hc hf
                    refine lv_aload_n S.1 S.2.1 d_MD_readRow_120 rfl (lv_at hl 0 rfl) ?_
                    obtain ⟨⟨fs43, hefs43⟩, hf⟩ := b_is_inv hf
                    obtain ⟨r40, N41, hg42, hf⟩ := b_call_inv hf
                    refine x_call hI (hm_mo hg42) (va_runV (As := []) (rest := []) S (c_MD_readAny l hg42) (cwV 0 S.2.2.2.2 (gi_V wd_676 wd_677 wd_678 wd_564 wd_679) rfl rfl rfl (by decide +kernel) ⟨Nat.le_trans (Nat.le_of_ble_eq_true rfl) hRf.1, Nat.le_trans (Nat.le_of_ble_eq_true rfl) hRf.2⟩) ⟨hm_B.blind, va_recv hK (hI.1.one hefs43) (ci := 1) (q0 := 0) rfl rfl, fun U hU hW => ⟨rfl, hm_B.of hK hG hI hU hW⟩⟩ rfl rfl hl.1 rfl (lv_room (Nat.le_of_ble_eq_true rfl)) d_MD_readRow_121 (hx_fit hI hR (hm_mo hg42) (hm_mo hf))) (fun H locs cells slots hI => ?_)
                    refine W.eq (g2 := F0 m 124 ls []) rfl ?_
                    refine lv_goto (tgt := 174) S.1 S.2.1 d_MD_readRow_124 (by decide) ?_
                    exact w174  _ _ _ _ _ _ hf hI (lv_sub hl [0] rfl)
                · have hf := b_if_t hc hf
                  exact w104  _ _ _ _ _ _ hf hI (lv_sub hl [0] rfl)
            · have hf := b_if_t hc hf
              refine lv_aload_n S.1 S.2.1 d_MD_readRow_80 rfl (lv_at hl 0 rfl) ?_
              obtain ⟨⟨fs47, hefs47⟩, hf⟩ := b_is_inv hf
              obtain ⟨r44, N45, hg46, hf⟩ := b_call_inv hf
              refine x_call hI (hm_mo hg46) (va_runV (As := []) (rest := []) S (c_MD_readNeed l hg46) (cwV 0 S.2.2.2.2 (gi_V wd_680 wd_681 wd_682 wd_564 wd_683) rfl rfl rfl (by decide +kernel) ⟨Nat.le_trans (Nat.le_of_ble_eq_true rfl) hRf.1, Nat.le_trans (Nat.le_of_ble_eq_true rfl) hRf.2⟩) ⟨hm_B.blind, va_recv hK (hI.1.one hefs47) (ci := 1) (q0 := 0) rfl rfl, fun U hU hW => ⟨rfl, hm_B.of hK hG hI hU hW⟩⟩ rfl rfl hl.1 rfl (lv_room (Nat.le_of_ble_eq_true rfl)) d_MD_readRow_81 (hx_fit hI hR (hm_mo hg46) (hm_mo hf))) (fun H locs cells slots hI => ?_)
              refine W.eq (g2 := F0 m 84 ls []) rfl ?_
              refine lv_goto (tgt := 174) S.1 S.2.1 d_MD_readRow_84 (by decide) ?_
              exact w174  _ _ _ _ _ _ hf hI (lv_sub hl [0] rfl)
          · have hf := b_if_t hc hf
            exact w50  _ _ _ _ _ _ hf hI (lv_sub hl [0] rfl)
      refine lv_iload_n S.1 S.2.1 d_MD_readRow_15 rfl (lv_at hl 2 rfl) ?_
      refine lv_bipush (v := 12) S.1 S.2.1 d_MD_readRow_16 (by decide) ?_
      refine lv_icmp_ge (tgt := 38) S.1 S.2.1 d_MD_readRow_18 (by decide) (fun hc => ?_) (fun hc => ?_)
      · have hf := b_if_t hc hf
        exact w38 x1 x3 _ _ _ _ _ _ hf hI (lv_sub hl [0, 1, 2] rfl)
      · have hf := b_if_f hc hf
        refine lv_aload_n S.1 S.2.1 d_MD_readRow_21 rfl (lv_at hl 0 rfl) ?_
        refine x_getR (ci := 1) (k := 9) S hK hI (fun w h => List.mem_cons_of_mem _ (i_MD w h)) rfl (by decide) (List.mem_cons_of_mem _ wd_529) rfl d_MD_readRow_22 hf (fun r48 hf => ?_)
        refine lv_iload_n S.1 S.2.1 d_MD_readRow_25 rfl (lv_at hl 2 rfl) ?_
        obtain ⟨a49, ea49, hg⟩ := b_nn_inv hf
        have hI0 := hI
        have hl0 := hl
        clear hf hI hl
        subst ea49
        have hf := hg
        have hI := hI0
        have hl := hl0
        clear hg hI0 hl0
        refine x_lald (t := 7) S hK hI rfl d_MD_readRow_26 hf (fun v50 hf => ?_)
        refine lv_lload_n S.1 S.2.1 d_MD_readRow_27 rfl (lv_at hl 1 rfl) ?_
        refine W.lcmp S.1 S.2.1 d_MD_readRow_28 ?_
        refine lv_if_eq (tgt := 38) S.1 S.2.1 d_MD_readRow_29 (by decide) (fun hc => ?_) (fun hc => ?_)
        · have hf := b_if_t hc hf
          exact w38 x1 x3 _ _ _ _ _ _ hf hI (lv_sub hl [0, 1, 2] rfl)
        · have hf := b_if_f hc hf
          refine x_iinc (v := 1) (lv2 := [(0, .ref h0), (1, .long x1)]) S d_MD_readRow_32 hl 2 rfl (by decide) (by decide) [0, 1] rfl ⟨⟨(by decide : (0 : Nat) ≠ 3), fun h => absurd (show (0 : Nat) + 1 = 3 from h) (by decide)⟩, ⟨⟨(by decide : (1 : Nat) ≠ 3), fun h => absurd (show (1 : Nat) + 1 = 3 from h) (by decide)⟩, trivial⟩⟩ (fun ls hl => ?_)
          refine lv_goto (tgt := 15) S.1 S.2.1 d_MD_readRow_35 (by decide) ?_
          exact ih15 x1 (x3 + 1) _ _ _ _ _ _ hf hI (lv_sub hl [1, 2, 0] rfl)
  refine lv_aload_n S.1 S.2.1 d_MD_readRow_0 rfl (lv_at hl 0 rfl) ?_
  refine lv_aload_n S.1 S.2.1 d_MD_readRow_1 rfl (lv_at hl 0 rfl) ?_
  refine x_getI (ci := 1) (k := 3) S hK hI (fun w h => List.mem_cons_of_mem _ (i_MD w h)) rfl (by decide) (List.mem_cons_of_mem _ wd_560) rfl d_MD_readRow_2 hf (fun v51 hf => ?_)
  refine x_put (ci := 1) (k := 30) S hK hI (fun w h => List.mem_cons_of_mem _ (i_MD w h)) t_MD t_MD_ok n_MD rfl (by decide) (List.mem_cons_of_mem _ wd_636) rfl (Or.inl rfl) (by rfl) rfl d_MD_readRow_5 hf (fun M H locs hf hI => ?_)
  refine lv_aload_n S.1 S.2.1 d_MD_readRow_8 rfl (lv_at hl 0 rfl) ?_
  obtain ⟨⟨fs55, hefs55⟩, hf⟩ := b_is_inv hf
  obtain ⟨v52, N53, hg54, hf⟩ := b_call_inv hf
  refine x_call hI (hm_mo hg54) (va_runV (As := []) (rest := []) S (c_MD_key l hg54) (cwV 0 S.2.2.2.2 (gi_V wd_658 wd_659 wd_660 wd_564 wd_661) rfl rfl rfl (by decide +kernel) ⟨Nat.le_trans (Nat.le_of_ble_eq_true rfl) hRf.1, Nat.le_trans (Nat.le_of_ble_eq_true rfl) hRf.2⟩) ⟨hm_B.blind, va_recv hK (hI.1.one hefs55) (ci := 1) (q0 := 0) rfl rfl, fun U hU hW => ⟨rfl, hm_B.of hK hG hI hU hW⟩⟩ rfl rfl hl.1 rfl (lv_room (Nat.le_of_ble_eq_true rfl)) d_MD_readRow_9 (hx_fit hI hR (hm_mo hg54) (hm_mo hf))) (fun H locs cells slots hI => ?_)
  refine W.eq (g2 := F0 m 12 ls [.long v52]) rfl ?_
  refine x_lstore_n (lv2 := [(0, .ref h0)]) S d_MD_readRow_12 rfl hl (by decide) [0] rfl ⟨⟨(by decide : (0 : Nat) ≠ 1), (by decide : (0 : Nat) ≠ 1 + 1), fun _ => rfl⟩, trivial⟩ (fun ls hl => ?_)
  refine lv_iconst (v := 0) S.1 S.2.1 d_MD_readRow_13 (by decide) ?_
  refine x_istore_n (lv2 := [(1, .long v52), (0, .ref h0)]) S d_MD_readRow_14 rfl hl (by decide) [0, 1] rfl ⟨⟨(by decide : (1 : Nat) ≠ 3), fun h => absurd (show (1 : Nat) + 1 = 3 from h) (by decide)⟩, ⟨⟨(by decide : (0 : Nat) ≠ 3), fun h => absurd (show (0 : Nat) + 1 = 3 from h) (by decide)⟩, trivial⟩⟩ (fun ls hl => ?_)
  exact w15 N v52 0 _ _ _ _ _ _ hf hI (lv_sub hl [2, 1, 0] rfl)
set_option maxHeartbeats 4000000 in
set_option maxRecDepth 100000 in
theorem c_MD_isFeature (l : Launch) {D : va_G} {dA : Nat → ClassId} {aK aV : Nat → Nat} {z : Nat} {N : Nat} {h0 : Nat} {p0 : Int32} {p1 : Option Nat} {p2 : Int32} {p3 : Int32} {M : hM} {Z : Int32 × hM} (hf : (f_MD_isFeature N h0 p0 p1 p2 p3).1 M = some Z) : Met l y_MD_isFeature w_MD_isFeature ({ frames := 3, cells := Z.2.2.1 - M.2.1, slots := Z.2.2.2 - M.2.2, locals := 75 }) (va_Pc [.ref h0, .int p0, va_rf p1, .int p2, .int p3] (hm_B D dA hCl (hTy dA) sT aK aV z M)) (hm_Q D dA hCl (hTy dA) sT aK aV z (some (.int Z.1)) Z.2) (Z.2.2.1 - M.2.1) (Z.2.2.2 - M.2.2) (fun q => z ≤ q) := by
  refine Met.ofW (cc := b_MD_isFeature) (maxL := 6) (ret := (some .boolean)) (by decide) rfl ?_
  intro p e s m args below meth c s₁ B hml hv
  obtain ⟨hav, hB⟩ := hv
  have S : CallFix p m c b_MD_isFeature 6 s args w_MD_isFeature R_MD := ⟨B.exec, B.bytes, hml, findClass_of_methodNamed B.named, atoms_spec (ws := w_MD_isFeature) B.pre⟩
  have hr : meth.sig.returnType = (some .boolean) := B.returns
  have hlocks := B.notSynchronized
  have hK := hB.2.2.1
  have hG := hB.2.2.2.2.2
  have hI := hm_I.start hB
  rw [← hB.2.1]
  generalize M.2.2 = k1 at hI ⊢
  refine W.eq (g2 := F0 m 0 ((lg_sl ([.ref h0, .int p0, va_rf p1, .int p2, .int p3]) ++ List.replicate (6 - (lg_sl ([.ref h0, .int p0, va_rf p1, .int p2, .int p3])).length) Slot.unset).toArray) []) (by rw [hav]; exact lg_entry_eq m ([.ref h0, .int p0, va_rf p1, .int p2, .int p3]) 6) ?_
  have hl := lv_entry ([.ref h0, .int p0, va_rf p1, .int p2, .int p3]) (n := 6) (by cases p1 <;> exact Nat.le_of_ble_eq_true rfl)
  generalize (lg_sl ([.ref h0, .int p0, va_rf p1, .int p2, .int p3]) ++ List.replicate (6 - (lg_sl ([.ref h0, .int p0, va_rf p1, .int p2, .int p3])).length) Slot.unset).toArray = ls at hl ⊢
  simp only [lvA_nil, lvA_i, lvA_l, lvA_a, lvA_r, Nat.zero_add, Nat.reduceAdd] at hl
  have hret : ∀ (v : Int32) (M : hM) (H : Heap) (locs : List Loc) (cells slots : Nat) (ls : Array Slot) (pc : Nat), decode b_MD_isFeature pc = .ok (.ireturn, 1) → (b_retN .boolean v).1 M = some Z → hm_I D dA hCl z k1 s M H locs cells slots → W p l e (headSpec w_MD_isFeature { frames := 3, cells := Z.2.2.1 - s.heap.size, slots := Z.2.2.2 - k1, locals := 75 }).room s m args below meth c H locs cells slots (MQ below (hm_Q D dA hCl (hTy dA) sT aK aV z (some (.int Z.1)) Z.2) args s (Z.2.2.1 - s.heap.size) (Z.2.2.2 - k1) (fun q => z ≤ q)) (F0 m pc ls [.int v]) := fun v M H locs cells slots ls pc hdg hf hI => x_retn S hK hG hI hr hlocks hdg hf
  have hR : Z.2.2.1 - s.heap.size ≤ (headSpec w_MD_isFeature { frames := 3, cells := Z.2.2.1 - s.heap.size, slots := Z.2.2.2 - k1, locals := 75 }).room.cells ∧ Z.2.2.2 - k1 ≤ (headSpec w_MD_isFeature { frames := 3, cells := Z.2.2.1 - s.heap.size, slots := Z.2.2.2 - k1, locals := 75 }).room.slots := ⟨Nat.le_refl _, Nat.le_refl _⟩
  have hRf : 3 ≤ (headSpec w_MD_isFeature { frames := 3, cells := Z.2.2.1 - s.heap.size, slots := Z.2.2.2 - k1, locals := 75 }).room.frames ∧ 75 ≤ (headSpec w_MD_isFeature { frames := 3, cells := Z.2.2.1 - s.heap.size, slots := Z.2.2.2 - k1, locals := 75 }).room.locals := ⟨Nat.le_refl _, Nat.le_refl _⟩
  generalize (headSpec w_MD_isFeature { frames := 3, cells := Z.2.2.1 - s.heap.size, slots := Z.2.2.2 - k1, locals := 75 }).room = R at hret hR hRf ⊢
  generalize (MQ below (hm_Q D dA hCl (hTy dA) sT aK aV z (some (.int Z.1)) Z.2) args s (Z.2.2.1 - s.heap.size) (Z.2.2.2 - k1) (fun q => z ≤ q)) = Q at hret ⊢
  rw [e_MD_isFeature] at hf
  have w7 : ∀ (n : Nat) (x5 : Int32) (M : hM) (H : Heap) (locs : List Loc) (ls : Array Slot) (cells slots : Nat), (f_MD_isFeature_7 N h0 p0 p1 p2 p3  n x5).1 M = some Z → hm_I D dA hCl z k1 s M H locs cells slots → lv_has ls 6 [(0, .ref h0), (1, .int p0), (2, va_rf p1), (3, .int p2), (4, .int p3), (5, .int x5)] → W p l e R s m args below meth c H locs cells slots Q (F0 m 7 ls []) := by
    intro n
    induction n with
    | zero => intro x5 M H locs ls cells slots hf hI hl; cases hf
    | succ n7 ih7 =>
      intro x5 M H locs ls cells slots hf hI hl
      rw [e_MD_isFeature_7] at hf
      refine lv_iload S.1 S.2.1 d_MD_isFeature_7 (lv_at hl 5 rfl) ?_
      refine lv_sipush (v := 250) S.1 S.2.1 d_MD_isFeature_9 (by decide) ?_
      refine lv_iload_n S.1 S.2.1 d_MD_isFeature_12 rfl (lv_at hl 1 rfl) ?_
      refine lv_imul S.1 S.2.1 d_MD_isFeature_13 ?_
      refine lv_aload_n S.1 S.2.1 d_MD_isFeature_14 rfl (lv_at hl 0 rfl) ?_
      refine x_getR (ci := 1) (k := 14) S hK hI (fun w h => List.mem_cons_of_mem _ (i_MD w h)) rfl (by decide) (List.mem_cons_of_mem _ wd_533) rfl d_MD_isFeature_15 hf (fun r1 hf => ?_)
      refine lv_iload_n S.1 S.2.1 d_MD_isFeature_18 rfl (lv_at hl 1 rfl) ?_
      obtain ⟨a2, ea2, hg⟩ := b_nn_inv hf
      have hI0 := hI
      have hl0 := hl
      clear hf hI hl
      subst ea2
      have hf := hg
      have hI := hI0
      have hl := hl0
      clear hg hI0 hl0
      refine x_iald (t := 2) S hK hI rfl d_MD_isFeature_19 hf (fun v3 hf => ?_)
      refine lv_iadd S.1 S.2.1 d_MD_isFeature_20 ?_
      refine lv_icmp_ge (tgt := 59) S.1 S.2.1 d_MD_isFeature_21 (by decide) (fun hc => ?_) (fun hc => ?_)
      · have hf := b_if_t hc hf
        refine lv_iconst (v := 0) S.1 S.2.1 d_MD_isFeature_59 (by decide) ?_
        exact hret _ _ _ _ _ _ _ _ d_MD_isFeature_60 hf hI
      · have hf := b_if_f hc hf
        refine lv_aload_n S.1 S.2.1 d_MD_isFeature_24 rfl (lv_at hl 0 rfl) ?_
        refine x_aload_n (r := p1) S d_MD_isFeature_25 rfl (lv_at hl 2 rfl) ?_
        refine lv_iload_n S.1 S.2.1 d_MD_isFeature_26 rfl (lv_at hl 3 rfl) ?_
        refine lv_iload S.1 S.2.1 d_MD_isFeature_27 (lv_at hl 4 rfl) ?_
        refine lv_aload_n S.1 S.2.1 d_MD_isFeature_29 rfl (lv_at hl 0 rfl) ?_
        refine x_getR (ci := 1) (k := 17) S hK hI (fun w h => List.mem_cons_of_mem _ (i_MD w h)) rfl (by decide) (List.mem_cons_of_mem _ wd_537) rfl d_MD_isFeature_30 hf (fun r4 hf => ?_)
        refine lv_bipush (v := 20) S.1 S.2.1 d_MD_isFeature_33 (by decide) ?_
        refine lv_iload S.1 S.2.1 d_MD_isFeature_35 (lv_at hl 5 rfl) ?_
        refine lv_imul S.1 S.2.1 d_MD_isFeature_37 ?_
        refine lv_aload_n S.1 S.2.1 d_MD_isFeature_38 rfl (lv_at hl 0 rfl) ?_
        refine x_getR (ci := 1) (k := 18) S hK hI (fun w h => List.mem_cons_of_mem _ (i_MD w h)) rfl (by decide) (List.mem_cons_of_mem _ wd_538) rfl d_MD_isFeature_39 hf (fun r5 hf => ?_)
        refine lv_iload S.1 S.2.1 d_MD_isFeature_42 (lv_at hl 5 rfl) ?_
        obtain ⟨a6, ea6, hg⟩ := b_nn_inv hf
        have hI0 := hI
        have hl0 := hl
        clear hf hI hl
        subst ea6
        have hf := hg
        have hI := hI0
        have hl := hl0
        clear hg hI0 hl0
        refine x_iald (t := 2) S hK hI rfl d_MD_isFeature_44 hf (fun v7 hf => ?_)
        obtain ⟨⟨fs11, hefs11⟩, hf⟩ := b_is_inv hf
        obtain ⟨v8, N9, hg10, hf⟩ := b_call_inv hf
        refine x_call hI (hm_mo hg10) (va_runV (As := [va_rf p1, .int p2, .int p3, va_rf r4, .int (20 * x5), .int v7]) (rest := []) S (c_MD_compare l hg10) (cwV 6 S.2.2.2.2 (gi_V wd_684 wd_685 wd_686 wd_564 wd_687) rfl rfl rfl (by decide +kernel) ⟨Nat.le_trans (Nat.le_of_ble_eq_true rfl) hRf.1, Nat.le_trans (Nat.le_of_ble_eq_true rfl) hRf.2⟩) ⟨hm_B.blind, va_recv hK (hI.1.one hefs11) (ci := 1) (q0 := 0) rfl rfl, fun U hU hW => ⟨rfl, hm_B.of hK hG hI hU hW⟩⟩ rfl rfl hl.1 rfl (lv_room (Nat.le_of_ble_eq_true rfl)) d_MD_isFeature_45 (hx_fit hI hR (hm_mo hg10) (hm_mo hf))) (fun H locs cells slots hI => ?_)
        refine W.eq (g2 := F0 m 48 ls [.int v8]) rfl ?_
        refine lv_if_ne (tgt := 53) S.1 S.2.1 d_MD_isFeature_48 (by decide) (fun hc => ?_) (fun hc => ?_)
        · have hf := b_if_f hc hf
          refine x_iinc (v := 1) (lv2 := [(0, .ref h0), (1, .int p0), (2, va_rf p1), (3, .int p2), (4, .int p3)]) S d_MD_isFeature_53 hl 5 rfl (by decide) (by decide) [0, 1, 2, 3, 4] rfl ⟨⟨(by decide : (0 : Nat) ≠ 5), fun h => absurd (show (0 : Nat) + 1 = 5 from h) (by decide)⟩, ⟨⟨(by decide : (1 : Nat) ≠ 5), fun h => absurd (show (1 : Nat) + 1 = 5 from h) (by decide)⟩, ⟨⟨(by decide : (2 : Nat) ≠ 5), fun h => absurd (show (2 : Nat) + 1 = 5 from h) (by decide)⟩, ⟨⟨(by decide : (3 : Nat) ≠ 5), fun h => absurd (show (3 : Nat) + 1 = 5 from h) (by decide)⟩, ⟨⟨(by decide : (4 : Nat) ≠ 5), fun _ => rfl⟩, trivial⟩⟩⟩⟩⟩ (fun ls hl => ?_)
          refine lv_goto (tgt := 7) S.1 S.2.1 d_MD_isFeature_56 (by decide) ?_
          exact ih7 (x5 + 1) _ _ _ _ _ _ hf hI (lv_sub hl [1, 2, 3, 4, 5, 0] rfl)
        · have hf := b_if_t hc hf
          refine lv_iconst (v := 1) S.1 S.2.1 d_MD_isFeature_51 (by decide) ?_
          exact hret _ _ _ _ _ _ _ _ d_MD_isFeature_52 hf hI
  refine lv_sipush (v := 250) S.1 S.2.1 d_MD_isFeature_0 (by decide) ?_
  refine lv_iload_n S.1 S.2.1 d_MD_isFeature_3 rfl (lv_at hl 1 rfl) ?_
  refine lv_imul S.1 S.2.1 d_MD_isFeature_4 ?_
  refine x_istore (lv2 := [(0, .ref h0), (1, .int p0), (2, va_rf p1), (3, .int p2), (4, .int p3)]) S d_MD_isFeature_5 hl (by decide) [0, 1, 2, 3, 4] rfl ⟨⟨(by decide : (0 : Nat) ≠ 5), fun h => absurd (show (0 : Nat) + 1 = 5 from h) (by decide)⟩, ⟨⟨(by decide : (1 : Nat) ≠ 5), fun h => absurd (show (1 : Nat) + 1 = 5 from h) (by decide)⟩, ⟨⟨(by decide : (2 : Nat) ≠ 5), fun h => absurd (show (2 : Nat) + 1 = 5 from h) (by decide)⟩, ⟨⟨(by decide : (3 : Nat) ≠ 5), fun h => absurd (show (3 : Nat) + 1 = 5 from h) (by decide)⟩, ⟨⟨(by decide : (4 : Nat) ≠ 5), fun _ => rfl⟩, trivial⟩⟩⟩⟩⟩ (fun ls hl => ?_)
  exact w7 N (250 * p0) _ _ _ _ _ _ hf hI (lv_sub hl [1, 2, 3, 4, 5, 0] rfl)
set_option maxHeartbeats 4000000 in
set_option maxRecDepth 100000 in
theorem c_MD_readAll (l : Launch) {D : va_G} {dA : Nat → ClassId} {aK aV : Nat → Nat} {z : Nat} {N : Nat} {h0 : Nat} {M : hM} {Z : Unit × hM} (hf : (f_MD_readAll N h0 ).1 M = some Z) : Met l y_MD_readAll w_MD_readAll ({ frames := 9, cells := Z.2.2.1 - M.2.1, slots := Z.2.2.2 - M.2.2, locals := 199 }) (va_Pc [.ref h0] (hm_B D dA hCl (hTy dA) sT aK aV z M)) (hm_Q D dA hCl (hTy dA) sT aK aV z none Z.2) (Z.2.2.1 - M.2.1) (Z.2.2.2 - M.2.2) (fun q => z ≤ q) := by
  refine Met.ofW (cc := b_MD_readAll) (maxL := 5) (ret := none) (by decide) rfl ?_
  intro p e s m args below meth c s₁ B hml hv
  obtain ⟨hav, hB⟩ := hv
  have S : CallFix p m c b_MD_readAll 5 s args w_MD_readAll R_MD := ⟨B.exec, B.bytes, hml, findClass_of_methodNamed B.named, atoms_spec (ws := w_MD_readAll) B.pre⟩
  have hr : meth.sig.returnType = none := B.returns
  have hlocks := B.notSynchronized
  have hK := hB.2.2.1
  have hG := hB.2.2.2.2.2
  have hI := hm_I.start hB
  rw [← hB.2.1]
  generalize M.2.2 = k1 at hI ⊢
  refine W.eq (g2 := F0 m 0 ((lg_sl ([.ref h0]) ++ List.replicate (5 - (lg_sl ([.ref h0])).length) Slot.unset).toArray) []) (by rw [hav]; exact lg_entry_eq m ([.ref h0]) 5) ?_
  have hl := lv_entry ([.ref h0]) (n := 5) (Nat.le_of_ble_eq_true rfl)
  generalize (lg_sl ([.ref h0]) ++ List.replicate (5 - (lg_sl ([.ref h0])).length) Slot.unset).toArray = ls at hl ⊢
  simp only [lvA_nil, lvA_i, lvA_l, lvA_a, lvA_r, Nat.zero_add, Nat.reduceAdd] at hl
  have hret : ∀ (M : hM) (H : Heap) (locs : List Loc) (cells slots : Nat) (ls : Array Slot) (pc : Nat), decode b_MD_readAll pc = .ok (.return_, 1) → (b_ret ()).1 M = some Z → hm_I D dA hCl z k1 s M H locs cells slots → W p l e (headSpec w_MD_readAll { frames := 9, cells := Z.2.2.1 - s.heap.size, slots := Z.2.2.2 - k1, locals := 199 }).room s m args below meth c H locs cells slots (MQ below (hm_Q D dA hCl (hTy dA) sT aK aV z none Z.2) args s (Z.2.2.1 - s.heap.size) (Z.2.2.2 - k1) (fun q => z ≤ q)) (F0 m pc ls []) := fun M H locs cells slots ls pc hdg hf hI => x_retv S hK hG hI hr hlocks hdg hf
  have hR : Z.2.2.1 - s.heap.size ≤ (headSpec w_MD_readAll { frames := 9, cells := Z.2.2.1 - s.heap.size, slots := Z.2.2.2 - k1, locals := 199 }).room.cells ∧ Z.2.2.2 - k1 ≤ (headSpec w_MD_readAll { frames := 9, cells := Z.2.2.1 - s.heap.size, slots := Z.2.2.2 - k1, locals := 199 }).room.slots := ⟨Nat.le_refl _, Nat.le_refl _⟩
  have hRf : 9 ≤ (headSpec w_MD_readAll { frames := 9, cells := Z.2.2.1 - s.heap.size, slots := Z.2.2.2 - k1, locals := 199 }).room.frames ∧ 199 ≤ (headSpec w_MD_readAll { frames := 9, cells := Z.2.2.1 - s.heap.size, slots := Z.2.2.2 - k1, locals := 199 }).room.locals := ⟨Nat.le_refl _, Nat.le_refl _⟩
  generalize (headSpec w_MD_readAll { frames := 9, cells := Z.2.2.1 - s.heap.size, slots := Z.2.2.2 - k1, locals := 199 }).room = R at hret hR hRf ⊢
  generalize (MQ below (hm_Q D dA hCl (hTy dA) sT aK aV z none Z.2) args s (Z.2.2.1 - s.heap.size) (Z.2.2.2 - k1) (fun q => z ≤ q)) = Q at hret ⊢
  rw [e_MD_readAll] at hf
  have w119 : ∀ (n : Nat) (x1 : Int32) (M : hM) (H : Heap) (locs : List Loc) (ls : Array Slot) (cells slots : Nat), (f_MD_readAll_119 N h0  n x1).1 M = some Z → hm_I D dA hCl z k1 s M H locs cells slots → lv_has ls 5 [(0, .ref h0), (1, .int x1)] → W p l e R s m args below meth c H locs cells slots Q (F0 m 119 ls []) := by
    intro n
    induction n with
    | zero => intro x1 M H locs ls cells slots hf hI hl; cases hf
    | succ n119 ih119 =>
      intro x1 M H locs ls cells slots hf hI hl
      rw [e_MD_readAll_119] at hf
      obtain ⟨J141, eJ141, hf⟩ := b_let_inv hf
      have w141 : ∀ (x1 : Int32) (M : hM) (H : Heap) (locs : List Loc) (ls : Array Slot) (cells slots : Nat), (J141 x1).1 M = some Z → hm_I D dA hCl z k1 s M H locs cells slots → lv_has ls 5 [(0, .ref h0), (1, .int x1)] → W p l e R s m args below meth c H locs cells slots Q (F0 m 141 ls []) := by
        intro x1 M H locs ls cells slots hf hI hl
        rw [eJ141] at hf
        have w144 : ∀ (n : Nat) (x1 : Int32) (x4 : Int32) (M : hM) (H : Heap) (locs : List Loc) (ls : Array Slot) (cells slots : Nat), (f_MD_readAll_144 N h0  n x1 x4).1 M = some Z → hm_I D dA hCl z k1 s M H locs cells slots → lv_has ls 5 [(0, .ref h0), (1, .int x1), (4, .int x4)] → W p l e R s m args below meth c H locs cells slots Q (F0 m 144 ls []) := by
          intro n
          induction n with
          | zero => intro x1 x4 M H locs ls cells slots hf hI hl; cases hf
          | succ n144 ih144 =>
            intro x1 x4 M H locs ls cells slots hf hI hl
            rw [e_MD_readAll_144] at hf
            obtain ⟨J197, eJ197, hf⟩ := b_let_inv hf
            have w197 : ∀ (x1 : Int32) (x4 : Int32) (M : hM) (H : Heap) (locs : List Loc) (ls : Array Slot) (cells slots : Nat), (J197 x1 x4).1 M = some Z → hm_I D dA hCl z k1 s M H locs cells slots → lv_has ls 5 [(0, .ref h0), (1, .int x1), (4, .int x4)] → W p l e R s m args below meth c H locs cells slots Q (F0 m 197 ls []) := by
              intro x1 x4 M H locs ls cells slots hf hI hl
              rw [eJ197] at hf
              refine x_iinc (v := 1) (lv2 := [(0, .ref h0), (1, .int x1)]) S d_MD_readAll_197 hl 2 rfl (by decide) (by decide) [0, 1] rfl ⟨⟨(by decide : (0 : Nat) ≠ 4), fun h => absurd (show (0 : Nat) + 1 = 4 from h) (by decide)⟩, ⟨⟨(by decide : (1 : Nat) ≠ 4), fun h => absurd (show (1 : Nat) + 1 = 4 from h) (by decide)⟩, trivial⟩⟩ (fun ls hl => ?_)
              refine lv_goto (tgt := 144) S.1 S.2.1 d_MD_readAll_200 (by decide) ?_
              exact ih144 x1 (x4 + 1) _ _ _ _ _ _ hf hI (lv_sub hl [1, 2, 0] rfl)
            refine lv_iload S.1 S.2.1 d_MD_readAll_144 (lv_at hl 2 rfl) ?_
            refine lv_aload_n S.1 S.2.1 d_MD_readAll_146 rfl (lv_at hl 0 rfl) ?_
            refine x_getI (ci := 1) (k := 34) S hK hI (fun w h => List.mem_cons_of_mem _ (i_MD w h)) rfl (by decide) (List.mem_cons_of_mem _ wd_663) rfl d_MD_readAll_147 hf (fun v1 hf => ?_)
            refine lv_icmp_ge (tgt := 203) S.1 S.2.1 d_MD_readAll_150 (by decide) (fun hc => ?_) (fun hc => ?_)
            · have hf := b_if_t hc hf
              exact hret _ _ _ _ _ _ _ d_MD_readAll_203 hf hI
            · have hf := b_if_f hc hf
              refine lv_aload_n S.1 S.2.1 d_MD_readAll_153 rfl (lv_at hl 0 rfl) ?_
              obtain ⟨⟨fs5, hefs5⟩, hf⟩ := b_is_inv hf
              obtain ⟨v2, N3, hg4, hf⟩ := b_call_inv hf
              refine x_call hI (hm_mo hg4) (va_runV (As := []) (rest := []) S (c_MD_isWrong l hg4) (cwV 0 S.2.2.2.2 (gi_V wd_575 wd_576 wd_577 wd_564 wd_578) rfl rfl rfl (by decide +kernel) ⟨Nat.le_trans (Nat.le_of_ble_eq_true rfl) hRf.1, Nat.le_trans (Nat.le_of_ble_eq_true rfl) hRf.2⟩) ⟨hm_B.blind, va_recv hK (hI.1.one hefs5) (ci := 1) (q0 := 0) rfl rfl, fun U hU hW => ⟨rfl, hm_B.of hK hG hI hU hW⟩⟩ rfl rfl hl.1 rfl (lv_room (Nat.le_of_ble_eq_true rfl)) d_MD_readAll_154 (hx_fit hI hR (hm_mo hg4) (hm_mo hf))) (fun H locs cells slots hI => ?_)
              refine W.eq (g2 := F0 m 157 ls [.int v2]) rfl ?_
              refine lv_if_ne (tgt := 203) S.1 S.2.1 d_MD_readAll_157 (by decide) (fun hc => ?_) (fun hc => ?_)
              · have hf := b_if_f hc hf
                exact hret _ _ _ _ _ _ _ d_MD_readAll_203 hf hI
              · have hf := b_if_t hc hf
                refine lv_aload_n S.1 S.2.1 d_MD_readAll_160 rfl (lv_at hl 0 rfl) ?_
                refine lv_iload_n S.1 S.2.1 d_MD_readAll_161 rfl (lv_at hl 1 rfl) ?_
                refine lv_aload_n S.1 S.2.1 d_MD_readAll_162 rfl (lv_at hl 0 rfl) ?_
                refine x_getR (ci := 1) (k := 1) S hK hI (fun w h => List.mem_cons_of_mem _ (i_MD w h)) rfl (by decide) (List.mem_cons_of_mem _ wd_509) rfl d_MD_readAll_163 hf (fun r6 hf => ?_)
                refine lv_aload_n S.1 S.2.1 d_MD_readAll_166 rfl (lv_at hl 0 rfl) ?_
                refine x_getR (ci := 1) (k := 35) S hK hI (fun w h => List.mem_cons_of_mem _ (i_MD w h)) rfl (by decide) (List.mem_cons_of_mem _ wd_549) rfl d_MD_readAll_167 hf (fun r7 hf => ?_)
                refine lv_iload S.1 S.2.1 d_MD_readAll_170 (lv_at hl 2 rfl) ?_
                obtain ⟨a8, ea8, hg⟩ := b_nn_inv hf
                have hI0 := hI
                have hl0 := hl
                clear hf hI hl
                subst ea8
                have hf := hg
                have hI := hI0
                have hl := hl0
                clear hg hI0 hl0
                refine x_iald (t := 2) S hK hI rfl d_MD_readAll_172 hf (fun v9 hf => ?_)
                refine lv_aload_n S.1 S.2.1 d_MD_readAll_173 rfl (lv_at hl 0 rfl) ?_
                refine x_getR (ci := 1) (k := 36) S hK hI (fun w h => List.mem_cons_of_mem _ (i_MD w h)) rfl (by decide) (List.mem_cons_of_mem _ wd_550) rfl d_MD_readAll_174 hf (fun r10 hf => ?_)
                refine lv_iload S.1 S.2.1 d_MD_readAll_177 (lv_at hl 2 rfl) ?_
                obtain ⟨a11, ea11, hg⟩ := b_nn_inv hf
                have hI0 := hI
                have hl0 := hl
                clear hf hI hl
                subst ea11
                have hf := hg
                have hI := hI0
                have hl := hl0
                clear hg hI0 hl0
                refine x_iald (t := 2) S hK hI rfl d_MD_readAll_179 hf (fun v12 hf => ?_)
                obtain ⟨⟨fs16, hefs16⟩, hf⟩ := b_is_inv hf
                obtain ⟨v13, N14, hg15, hf⟩ := b_call_inv hf
                refine x_call hI (hm_mo hg15) (va_runV (As := [.int x1, va_rf r6, .int v9, .int v12]) (rest := []) S (c_MD_isFeature l hg15) (cwV 4 S.2.2.2.2 (gi_V wd_688 wd_689 wd_690 wd_564 wd_691) rfl rfl rfl (by decide +kernel) ⟨Nat.le_trans (Nat.le_of_ble_eq_true rfl) hRf.1, Nat.le_trans (Nat.le_of_ble_eq_true rfl) hRf.2⟩) ⟨hm_B.blind, va_recv hK (hI.1.one hefs16) (ci := 1) (q0 := 0) rfl rfl, fun U hU hW => ⟨rfl, hm_B.of hK hG hI hU hW⟩⟩ rfl rfl hl.1 rfl (lv_room (Nat.le_of_ble_eq_true rfl)) d_MD_readAll_180 (hx_fit hI hR (hm_mo hg15) (hm_mo hf))) (fun H locs cells slots hI => ?_)
                refine W.eq (g2 := F0 m 183 ls [.int v13]) rfl ?_
                refine lv_if_ne (tgt := 197) S.1 S.2.1 d_MD_readAll_183 (by decide) (fun hc => ?_) (fun hc => ?_)
                · have hf := b_if_f hc hf
                  exact w197 x1 x4 _ _ _ _ _ _ hf hI (lv_sub hl [0, 1, 2] rfl)
                · have hf := b_if_t hc hf
                  refine lv_aload_n S.1 S.2.1 d_MD_readAll_186 rfl (lv_at hl 0 rfl) ?_
                  refine lv_aload_n S.1 S.2.1 d_MD_readAll_187 rfl (lv_at hl 0 rfl) ?_
                  refine x_getR (ci := 1) (k := 35) S hK hI (fun w h => List.mem_cons_of_mem _ (i_MD w h)) rfl (by decide) (List.mem_cons_of_mem _ wd_549) rfl d_MD_readAll_188 hf (fun r17 hf => ?_)
                  refine lv_iload S.1 S.2.1 d_MD_readAll_191 (lv_at hl 2 rfl) ?_
                  obtain ⟨a18, ea18, hg⟩ := b_nn_inv hf
                  have hI0 := hI
                  have hl0 := hl
                  clear hf hI hl
                  subst ea18
                  have hf := hg
                  have hI := hI0
                  have hl := hl0
                  clear hg hI0 hl0
                  refine x_iald (t := 2) S hK hI rfl d_MD_readAll_193 hf (fun v19 hf => ?_)
                  obtain ⟨⟨fs23, hefs23⟩, hf⟩ := b_is_inv hf
                  obtain ⟨r20, N21, hg22, hf⟩ := b_call_inv hf
                  refine x_call hI (hm_mo hg22) (va_runV (As := [.int v19]) (rest := []) S (c_MD_fail l hg22) (cwV 1 S.2.2.2.2 (gi_V wd_579 wd_580 wd_581 wd_564 wd_582) rfl rfl rfl (by decide +kernel) ⟨Nat.le_trans (Nat.le_of_ble_eq_true rfl) hRf.1, Nat.le_trans (Nat.le_of_ble_eq_true rfl) hRf.2⟩) ⟨hm_B.blind, va_recv hK (hI.1.one hefs23) (ci := 1) (q0 := 0) rfl rfl, fun U hU hW => ⟨rfl, hm_B.of hK hG hI hU hW⟩⟩ rfl rfl hl.1 rfl (lv_room (Nat.le_of_ble_eq_true rfl)) d_MD_readAll_194 (hx_fit hI hR (hm_mo hg22) (hm_mo hf))) (fun H locs cells slots hI => ?_)
                  refine W.eq (g2 := F0 m 197 ls []) rfl ?_
                  exact w197 x1 x4 _ _ _ _ _ _ hf hI (lv_sub hl [0, 1, 2] rfl)
        refine lv_iconst (v := 0) S.1 S.2.1 d_MD_readAll_141 (by decide) ?_
        refine x_istore (lv2 := [(0, .ref h0), (1, .int x1)]) S d_MD_readAll_142 hl (by decide) [0, 1] rfl ⟨⟨(by decide : (0 : Nat) ≠ 4), fun h => absurd (show (0 : Nat) + 1 = 4 from h) (by decide)⟩, ⟨⟨(by decide : (1 : Nat) ≠ 4), fun h => absurd (show (1 : Nat) + 1 = 4 from h) (by decide)⟩, trivial⟩⟩ (fun ls hl => ?_)
        exact w144 N x1 0 _ _ _ _ _ _ hf hI (lv_sub hl [1, 2, 0] rfl)
      refine lv_aload_n S.1 S.2.1 d_MD_readAll_119 rfl (lv_at hl 0 rfl) ?_
      obtain ⟨⟨fs27, hefs27⟩, hf⟩ := b_is_inv hf
      obtain ⟨v24, N25, hg26, hf⟩ := b_call_inv hf
      refine x_call hI (hm_mo hg26) (va_runV (As := []) (rest := []) S (c_MD_isWrong l hg26) (cwV 0 S.2.2.2.2 (gi_V wd_575 wd_576 wd_577 wd_564 wd_578) rfl rfl rfl (by decide +kernel) ⟨Nat.le_trans (Nat.le_of_ble_eq_true rfl) hRf.1, Nat.le_trans (Nat.le_of_ble_eq_true rfl) hRf.2⟩) ⟨hm_B.blind, va_recv hK (hI.1.one hefs27) (ci := 1) (q0 := 0) rfl rfl, fun U hU hW => ⟨rfl, hm_B.of hK hG hI hU hW⟩⟩ rfl rfl hl.1 rfl (lv_room (Nat.le_of_ble_eq_true rfl)) d_MD_readAll_120 (hx_fit hI hR (hm_mo hg26) (hm_mo hf))) (fun H locs cells slots hI => ?_)
      refine W.eq (g2 := F0 m 123 ls [.int v24]) rfl ?_
      refine lv_if_ne (tgt := 141) S.1 S.2.1 d_MD_readAll_123 (by decide) (fun hc => ?_) (fun hc => ?_)
      · have hf := b_if_f hc hf
        exact w141 x1 _ _ _ _ _ _ hf hI (lv_sub hl [0, 1] rfl)
      · have hf := b_if_t hc hf
        refine lv_aload_n S.1 S.2.1 d_MD_readAll_126 rfl (lv_at hl 0 rfl) ?_
        refine x_getI (ci := 1) (k := 5) S hK hI (fun w h => List.mem_cons_of_mem _ (i_MD w h)) rfl (by decide) (List.mem_cons_of_mem _ wd_572) rfl d_MD_readAll_127 hf (fun v28 hf => ?_)
        refine lv_iconst (v := (-1)) S.1 S.2.1 d_MD_readAll_130 (by decide) ?_
        refine lv_icmp_eq (tgt := 141) S.1 S.2.1 d_MD_readAll_131 (by decide) (fun hc => ?_) (fun hc => ?_)
        · have hf := b_if_t hc hf
          exact w141 x1 _ _ _ _ _ _ hf hI (lv_sub hl [0, 1] rfl)
        · have hf := b_if_f hc hf
          refine lv_aload_n S.1 S.2.1 d_MD_readAll_134 rfl (lv_at hl 0 rfl) ?_
          obtain ⟨⟨fs32, hefs32⟩, hf⟩ := b_is_inv hf
          obtain ⟨r29, N30, hg31, hf⟩ := b_call_inv hf
          refine x_call hI (hm_mo hg31) (va_runV (As := []) (rest := []) S (c_MD_readRow l hg31) (cwV 0 S.2.2.2.2 (gi_V wd_692 wd_693 wd_694 wd_564 wd_695) rfl rfl rfl (by decide +kernel) ⟨Nat.le_trans (Nat.le_of_ble_eq_true rfl) hRf.1, Nat.le_trans (Nat.le_of_ble_eq_true rfl) hRf.2⟩) ⟨hm_B.blind, va_recv hK (hI.1.one hefs32) (ci := 1) (q0 := 0) rfl rfl, fun U hU hW => ⟨rfl, hm_B.of hK hG hI hU hW⟩⟩ rfl rfl hl.1 rfl (lv_room (Nat.le_of_ble_eq_true rfl)) d_MD_readAll_135 (hx_fit hI hR (hm_mo hg31) (hm_mo hf))) (fun H locs cells slots hI => ?_)
          refine W.eq (g2 := F0 m 138 ls []) rfl ?_
          refine lv_goto (tgt := 119) S.1 S.2.1 d_MD_readAll_138 (by decide) ?_
          exact ih119 x1 _ _ _ _ _ _ hf hI (lv_sub hl [0, 1] rfl)
  refine lv_aload_n S.1 S.2.1 d_MD_readAll_0 rfl (lv_at hl 0 rfl) ?_
  refine x_getI (ci := 1) (k := 11) S hK hI (fun w h => List.mem_cons_of_mem _ (i_MD w h)) rfl (by decide) (List.mem_cons_of_mem _ wd_624) rfl d_MD_readAll_1 hf (fun v33 hf => ?_)
  refine x_istore_n (lv2 := [(0, .ref h0)]) S d_MD_readAll_4 rfl hl (by decide) [0] rfl ⟨⟨(by decide : (0 : Nat) ≠ 1), fun _ => rfl⟩, trivial⟩ (fun ls hl => ?_)
  refine lv_aload_n S.1 S.2.1 d_MD_readAll_5 rfl (lv_at hl 1 rfl) ?_
  refine lv_iconst (v := 0) S.1 S.2.1 d_MD_readAll_6 (by decide) ?_
  refine x_put (ci := 1) (k := 4) S hK hI (fun w h => List.mem_cons_of_mem _ (i_MD w h)) t_MD t_MD_ok n_MD rfl (by decide) (List.mem_cons_of_mem _ wd_561) rfl (Or.inl rfl) (by rfl) rfl d_MD_readAll_7 hf (fun M H locs hf hI => ?_)
  refine lv_aload_n S.1 S.2.1 d_MD_readAll_10 rfl (lv_at hl 1 rfl) ?_
  refine lv_iconst (v := 0) S.1 S.2.1 d_MD_readAll_11 (by decide) ?_
  refine x_put (ci := 1) (k := 7) S hK hI (fun w h => List.mem_cons_of_mem _ (i_MD w h)) t_MD t_MD_ok n_MD rfl (by decide) (List.mem_cons_of_mem _ wd_574) rfl (Or.inl rfl) (by rfl) rfl d_MD_readAll_12 hf (fun M H locs hf hI => ?_)
  refine lv_aload_n S.1 S.2.1 d_MD_readAll_15 rfl (lv_at hl 1 rfl) ?_
  refine lv_iconst (v := 0) S.1 S.2.1 d_MD_readAll_16 (by decide) ?_
  refine x_put (ci := 1) (k := 28) S hK hI (fun w h => List.mem_cons_of_mem _ (i_MD w h)) t_MD t_MD_ok n_MD rfl (by decide) (List.mem_cons_of_mem _ wd_629) rfl (Or.inl rfl) (by rfl) rfl d_MD_readAll_17 hf (fun M H locs hf hI => ?_)
  refine lv_aload_n S.1 S.2.1 d_MD_readAll_20 rfl (lv_at hl 1 rfl) ?_
  refine lv_iconst (v := 0) S.1 S.2.1 d_MD_readAll_21 (by decide) ?_
  refine x_put (ci := 1) (k := 29) S hK hI (fun w h => List.mem_cons_of_mem _ (i_MD w h)) t_MD t_MD_ok n_MD rfl (by decide) (List.mem_cons_of_mem _ wd_635) rfl (Or.inl rfl) (by rfl) rfl d_MD_readAll_22 hf (fun M H locs hf hI => ?_)
  refine lv_aload_n S.1 S.2.1 d_MD_readAll_25 rfl (lv_at hl 1 rfl) ?_
  refine lv_iconst (v := 0) S.1 S.2.1 d_MD_readAll_26 (by decide) ?_
  refine x_put (ci := 1) (k := 34) S hK hI (fun w h => List.mem_cons_of_mem _ (i_MD w h)) t_MD t_MD_ok n_MD rfl (by decide) (List.mem_cons_of_mem _ wd_663) rfl (Or.inl rfl) (by rfl) rfl d_MD_readAll_27 hf (fun M H locs hf hI => ?_)
  refine lv_aload_n S.1 S.2.1 d_MD_readAll_30 rfl (lv_at hl 1 rfl) ?_
  refine x_getR (ci := 1) (k := 14) S hK hI (fun w h => List.mem_cons_of_mem _ (i_MD w h)) rfl (by decide) (List.mem_cons_of_mem _ wd_533) rfl d_MD_readAll_31 hf (fun r34 hf => ?_)
  refine lv_iload_n S.1 S.2.1 d_MD_readAll_34 rfl (lv_at hl 0 rfl) ?_
  refine lv_iconst (v := 0) S.1 S.2.1 d_MD_readAll_35 (by decide) ?_
  obtain ⟨a35, ea35, hg⟩ := b_nn_inv hf
  have hI0 := hI
  have hl0 := hl
  clear hf hI hl
  subst ea35
  have hf := hg
  have hI := hI0
  have hl := hl0
  clear hg hI0 hl0
  refine x_iast (t := 2) S hK hI rfl d_MD_readAll_36 hf (fun M H locs hf hI => ?_)
  refine lv_aload_n S.1 S.2.1 d_MD_readAll_37 rfl (lv_at hl 1 rfl) ?_
  obtain ⟨⟨fs39, hefs39⟩, hf⟩ := b_is_inv hf
  obtain ⟨r36, N37, hg38, hf⟩ := b_call_inv hf
  refine x_call hI (hm_mo hg38) (va_runV (As := []) (rest := []) S (c_MD_next l hg38) (cwV 0 S.2.2.2.2 (gi_V wd_583 wd_584 wd_585 wd_564 wd_586) rfl rfl rfl (by decide +kernel) ⟨Nat.le_trans (Nat.le_of_ble_eq_true rfl) hRf.1, Nat.le_trans (Nat.le_of_ble_eq_true rfl) hRf.2⟩) ⟨hm_B.blind, va_recv hK (hI.1.one hefs39) (ci := 1) (q0 := 0) rfl rfl, fun U hU hW => ⟨rfl, hm_B.of hK hG hI hU hW⟩⟩ rfl rfl hl.1 rfl (lv_room (Nat.le_of_ble_eq_true rfl)) d_MD_readAll_38 (hx_fit hI hR (hm_mo hg38) (hm_mo hf))) (fun H locs cells slots hI => ?_)
  refine W.eq (g2 := F0 m 41 ls []) rfl ?_
  refine lv_aload_n S.1 S.2.1 d_MD_readAll_41 rfl (lv_at hl 1 rfl) ?_
  obtain ⟨⟨fs43, hefs43⟩, hf⟩ := b_is_inv hf
  obtain ⟨v40, N41, hg42, hf⟩ := b_call_inv hf
  refine x_call hI (hm_mo hg42) (va_runV (As := []) (rest := []) S (c_MD_key l hg42) (cwV 0 S.2.2.2.2 (gi_V wd_658 wd_659 wd_660 wd_564 wd_661) rfl rfl rfl (by decide +kernel) ⟨Nat.le_trans (Nat.le_of_ble_eq_true rfl) hRf.1, Nat.le_trans (Nat.le_of_ble_eq_true rfl) hRf.2⟩) ⟨hm_B.blind, va_recv hK (hI.1.one hefs43) (ci := 1) (q0 := 0) rfl rfl, fun U hU hW => ⟨rfl, hm_B.of hK hG hI hU hW⟩⟩ rfl rfl hl.1 rfl (lv_room (Nat.le_of_ble_eq_true rfl)) d_MD_readAll_42 (hx_fit hI hR (hm_mo hg42) (hm_mo hf))) (fun H locs cells slots hI => ?_)
  refine W.eq (g2 := F0 m 45 ls [.long v40]) rfl ?_
  refine lv_ldc2 (v := 31632277022795621) S.1 S.2.1 S.2.2.2.1 (S.2.2.2.2 _ (List.mem_cons_of_mem _ wd_696)) d_MD_readAll_45 ?_
  refine W.lcmp S.1 S.2.1 d_MD_readAll_48 ?_
  refine lv_if_eq (tgt := 61) S.1 S.2.1 d_MD_readAll_49 (by decide) (fun hc => ?_) (fun hc => ?_)
  · have hf := b_if_t hc hf
    refine lv_aload_n S.1 S.2.1 d_MD_readAll_61 rfl (lv_at hl 1 rfl) ?_
    obtain ⟨⟨fs47, hefs47⟩, hf⟩ := b_is_inv hf
    obtain ⟨r44, N45, hg46, hf⟩ := b_call_inv hf
    refine x_call hI (hm_mo hg46) (va_runV (As := []) (rest := []) S (c_MD_next l hg46) (cwV 0 S.2.2.2.2 (gi_V wd_583 wd_584 wd_585 wd_564 wd_586) rfl rfl rfl (by decide +kernel) ⟨Nat.le_trans (Nat.le_of_ble_eq_true rfl) hRf.1, Nat.le_trans (Nat.le_of_ble_eq_true rfl) hRf.2⟩) ⟨hm_B.blind, va_recv hK (hI.1.one hefs47) (ci := 1) (q0 := 0) rfl rfl, fun U hU hW => ⟨rfl, hm_B.of hK hG hI hU hW⟩⟩ rfl rfl hl.1 rfl (lv_room (Nat.le_of_ble_eq_true rfl)) d_MD_readAll_62 (hx_fit hI hR (hm_mo hg46) (hm_mo hf))) (fun H locs cells slots hI => ?_)
    refine W.eq (g2 := F0 m 65 ls []) rfl ?_
    refine lv_aload_n S.1 S.2.1 d_MD_readAll_65 rfl (lv_at hl 1 rfl) ?_
    obtain ⟨⟨fs51, hefs51⟩, hf⟩ := b_is_inv hf
    obtain ⟨v48, N49, hg50, hf⟩ := b_call_inv hf
    refine x_call hI (hm_mo hg50) (va_runV (As := []) (rest := []) S (c_MD_takeName l hg50) (cwV 0 S.2.2.2.2 (gi_V wd_642 wd_643 wd_644 wd_564 wd_645) rfl rfl rfl (by decide +kernel) ⟨Nat.le_trans (Nat.le_of_ble_eq_true rfl) hRf.1, Nat.le_trans (Nat.le_of_ble_eq_true rfl) hRf.2⟩) ⟨hm_B.blind, va_recv hK (hI.1.one hefs51) (ci := 1) (q0 := 0) rfl rfl, fun U hU hW => ⟨rfl, hm_B.of hK hG hI hU hW⟩⟩ rfl rfl hl.1 rfl (lv_room (Nat.le_of_ble_eq_true rfl)) d_MD_readAll_66 (hx_fit hI hR (hm_mo hg50) (hm_mo hf))) (fun H locs cells slots hI => ?_)
    refine W.eq (g2 := F0 m 69 ls [.int v48]) rfl ?_
    refine x_istore_n (lv2 := [(1, .int v33), (0, .ref h0)]) S d_MD_readAll_69 rfl hl (by decide) [0, 1] rfl ⟨⟨(by decide : (1 : Nat) ≠ 2), fun _ => rfl⟩, ⟨⟨(by decide : (0 : Nat) ≠ 2), fun h => absurd (show (0 : Nat) + 1 = 2 from h) (by decide)⟩, trivial⟩⟩ (fun ls hl => ?_)
    refine lv_aload_n S.1 S.2.1 d_MD_readAll_70 rfl (lv_at hl 2 rfl) ?_
    refine x_getI (ci := 1) (k := 45) S hK hI (fun w h => List.mem_cons_of_mem _ (i_MD w h)) rfl (by decide) (List.mem_cons_of_mem _ wd_637) rfl d_MD_readAll_71 hf (fun v52 hf => ?_)
    refine x_istore_n (lv2 := [(2, .int v48), (1, .int v33), (0, .ref h0)]) S d_MD_readAll_74 rfl hl (by decide) [0, 1, 2] rfl ⟨⟨(by decide : (2 : Nat) ≠ 3), fun _ => rfl⟩, ⟨⟨(by decide : (1 : Nat) ≠ 3), fun h => absurd (show (1 : Nat) + 1 = 3 from h) (by decide)⟩, ⟨⟨(by decide : (0 : Nat) ≠ 3), fun h => absurd (show (0 : Nat) + 1 = 3 from h) (by decide)⟩, trivial⟩⟩⟩ (fun ls hl => ?_)
    refine lv_aload_n S.1 S.2.1 d_MD_readAll_75 rfl (lv_at hl 3 rfl) ?_
    refine x_getR (ci := 1) (k := 16) S hK hI (fun w h => List.mem_cons_of_mem _ (i_MD w h)) rfl (by decide) (List.mem_cons_of_mem _ wd_535) rfl d_MD_readAll_76 hf (fun r53 hf => ?_)
    refine lv_iload_n S.1 S.2.1 d_MD_readAll_79 rfl (lv_at hl 2 rfl) ?_
    refine lv_aload_n S.1 S.2.1 d_MD_readAll_80 rfl (lv_at hl 3 rfl) ?_
    obtain ⟨⟨fs57, hefs57⟩, hf⟩ := b_is_inv hf
    obtain ⟨v54, N55, hg56, hf⟩ := b_call_inv hf
    refine x_call hI (hm_mo hg56) (va_runV (As := []) (rest := [.int v33, va_rf r53]) S (c_MD_readVersion l hg56) (cwV 0 S.2.2.2.2 (gi_V wd_604 wd_605 wd_606 wd_564 wd_607) rfl rfl rfl (by decide +kernel) ⟨Nat.le_trans (Nat.le_of_ble_eq_true rfl) hRf.1, Nat.le_trans (Nat.le_of_ble_eq_true rfl) hRf.2⟩) ⟨hm_B.blind, va_recv hK (hI.1.one hefs57) (ci := 1) (q0 := 0) rfl rfl, fun U hU hW => ⟨rfl, hm_B.of hK hG hI hU hW⟩⟩ rfl rfl hl.1 rfl (lv_room (by simp only [List.map_cons, List.map_nil, List.sum_cons, List.sum_nil, rf_cat, cat_i, cat_l, cat_a, cat_n]; exact Nat.le_of_ble_eq_true rfl)) d_MD_readAll_81 (hx_fit hI hR (hm_mo hg56) (hm_mo hf))) (fun H locs cells slots hI => ?_)
    refine W.eq (g2 := F0 m 84 ls [.long v54, .int v33, va_rf r53]) rfl ?_
    obtain ⟨a58, ea58, hg⟩ := b_nn_inv hf
    have hI0 := hI
    have hl0 := hl
    clear hf hI hl
    subst ea58
    have hf := hg
    have hI := hI0
    have hl := hl0
    clear hg hI0 hl0
    refine x_last (t := 7) S hK hI rfl d_MD_readAll_84 hf (fun M H locs hf hI => ?_)
    refine lv_aload_n S.1 S.2.1 d_MD_readAll_85 rfl (lv_at hl 3 rfl) ?_
    refine lv_bipush (v := 59) S.1 S.2.1 d_MD_readAll_86 (by decide) ?_
    obtain ⟨⟨fs62, hefs62⟩, hf⟩ := b_is_inv hf
    obtain ⟨r59, N60, hg61, hf⟩ := b_call_inv hf
    refine x_call hI (hm_mo hg61) (va_runV (As := [.int 59]) (rest := []) S (c_MD_sign l hg61) (cwV 1 S.2.2.2.2 (gi_V wd_598 wd_599 wd_600 wd_564 wd_601) rfl rfl rfl (by decide +kernel) ⟨Nat.le_trans (Nat.le_of_ble_eq_true rfl) hRf.1, Nat.le_trans (Nat.le_of_ble_eq_true rfl) hRf.2⟩) ⟨hm_B.blind, va_recv hK (hI.1.one hefs62) (ci := 1) (q0 := 0) rfl rfl, fun U hU hW => ⟨rfl, hm_B.of hK hG hI hU hW⟩⟩ rfl rfl hl.1 rfl (lv_room (Nat.le_of_ble_eq_true rfl)) d_MD_readAll_88 (hx_fit hI hR (hm_mo hg61) (hm_mo hf))) (fun H locs cells slots hI => ?_)
    refine W.eq (g2 := F0 m 91 ls []) rfl ?_
    refine lv_aload_n S.1 S.2.1 d_MD_readAll_91 rfl (lv_at hl 3 rfl) ?_
    obtain ⟨⟨fs66, hefs66⟩, hf⟩ := b_is_inv hf
    obtain ⟨v63, N64, hg65, hf⟩ := b_call_inv hf
    refine x_call hI (hm_mo hg65) (va_runV (As := []) (rest := []) S (c_MD_isWrong l hg65) (cwV 0 S.2.2.2.2 (gi_V wd_575 wd_576 wd_577 wd_564 wd_578) rfl rfl rfl (by decide +kernel) ⟨Nat.le_trans (Nat.le_of_ble_eq_true rfl) hRf.1, Nat.le_trans (Nat.le_of_ble_eq_true rfl) hRf.2⟩) ⟨hm_B.blind, va_recv hK (hI.1.one hefs66) (ci := 1) (q0 := 0) rfl rfl, fun U hU hW => ⟨rfl, hm_B.of hK hG hI hU hW⟩⟩ rfl rfl hl.1 rfl (lv_room (Nat.le_of_ble_eq_true rfl)) d_MD_readAll_92 (hx_fit hI hR (hm_mo hg65) (hm_mo hf))) (fun H locs cells slots hI => ?_)
    refine W.eq (g2 := F0 m 95 ls [.int v63]) rfl ?_
    refine lv_if_ne (tgt := 119) S.1 S.2.1 d_MD_readAll_95 (by decide) (fun hc => ?_) (fun hc => ?_)
    · have hf := b_if_f hc hf
      exact w119 N v33 _ _ _ _ _ _ hf hI (lv_sub hl [3, 2] rfl)
    · have hf := b_if_t hc hf
      refine lv_aload_n S.1 S.2.1 d_MD_readAll_98 rfl (lv_at hl 3 rfl) ?_
      refine x_getR (ci := 1) (k := 12) S hK hI (fun w h => List.mem_cons_of_mem _ (i_MD w h)) rfl (by decide) (List.mem_cons_of_mem _ wd_531) rfl d_MD_readAll_99 hf (fun r67 hf => ?_)
      refine lv_iload_n S.1 S.2.1 d_MD_readAll_102 rfl (lv_at hl 2 rfl) ?_
      refine lv_iload_n S.1 S.2.1 d_MD_readAll_103 rfl (lv_at hl 0 rfl) ?_
      obtain ⟨a68, ea68, hg⟩ := b_nn_inv hf
      have hI0 := hI
      have hl0 := hl
      clear hf hI hl
      subst ea68
      have hf := hg
      have hI := hI0
      have hl := hl0
      clear hg hI0 hl0
      refine x_iast (t := 2) S hK hI rfl d_MD_readAll_104 hf (fun M H locs hf hI => ?_)
      refine lv_aload_n S.1 S.2.1 d_MD_readAll_105 rfl (lv_at hl 3 rfl) ?_
      refine lv_iload_n S.1 S.2.1 d_MD_readAll_106 rfl (lv_at hl 1 rfl) ?_
      refine lv_iload_n S.1 S.2.1 d_MD_readAll_107 rfl (lv_at hl 0 rfl) ?_
      refine lv_aload_n S.1 S.2.1 d_MD_readAll_108 rfl (lv_at hl 3 rfl) ?_
      refine x_getR (ci := 1) (k := 15) S hK hI (fun w h => List.mem_cons_of_mem _ (i_MD w h)) rfl (by decide) (List.mem_cons_of_mem _ wd_534) rfl d_MD_readAll_109 hf (fun r69 hf => ?_)
      refine lv_bipush (v := 20) S.1 S.2.1 d_MD_readAll_112 (by decide) ?_
      refine lv_iload_n S.1 S.2.1 d_MD_readAll_114 rfl (lv_at hl 2 rfl) ?_
      refine lv_imul S.1 S.2.1 d_MD_readAll_115 ?_
      obtain ⟨⟨fs73, hefs73⟩, hf⟩ := b_is_inv hf
      obtain ⟨r70, N71, hg72, hf⟩ := b_call_inv hf
      refine x_call hI (hm_mo hg72) (va_runV (As := [.int v48, .int v52, va_rf r69, .int (20 * v33)]) (rest := []) S (c_MD_copyName l hg72) (cwV 4 S.2.2.2.2 (gi_V wd_625 wd_626 wd_627 wd_564 wd_628) rfl rfl rfl (by decide +kernel) ⟨Nat.le_trans (Nat.le_of_ble_eq_true rfl) hRf.1, Nat.le_trans (Nat.le_of_ble_eq_true rfl) hRf.2⟩) ⟨hm_B.blind, va_recv hK (hI.1.one hefs73) (ci := 1) (q0 := 0) rfl rfl, fun U hU hW => ⟨rfl, hm_B.of hK hG hI hU hW⟩⟩ rfl rfl hl.1 rfl (lv_room (Nat.le_of_ble_eq_true rfl)) d_MD_readAll_116 (hx_fit hI hR (hm_mo hg72) (hm_mo hf))) (fun H locs cells slots hI => ?_)
      refine W.eq (g2 := F0 m 119 ls []) rfl ?_
      exact w119 N v33 _ _ _ _ _ _ hf hI (lv_sub hl [3, 2] rfl)
  · have hf := b_if_f hc hf
    refine lv_aload_n S.1 S.2.1 d_MD_readAll_52 rfl (lv_at hl 1 rfl) ?_
    refine lv_aload_n S.1 S.2.1 d_MD_readAll_53 rfl (lv_at hl 1 rfl) ?_
    refine x_getI (ci := 1) (k := 3) S hK hI (fun w h => List.mem_cons_of_mem _ (i_MD w h)) rfl (by decide) (List.mem_cons_of_mem _ wd_560) rfl d_MD_readAll_54 hf (fun v74 hf => ?_)
    obtain ⟨⟨fs78, hefs78⟩, hf⟩ := b_is_inv hf
    obtain ⟨r75, N76, hg77, hf⟩ := b_call_inv hf
    refine x_call hI (hm_mo hg77) (va_runV (As := [.int v74]) (rest := []) S (c_MD_fail l hg77) (cwV 1 S.2.2.2.2 (gi_V wd_579 wd_580 wd_581 wd_564 wd_582) rfl rfl rfl (by decide +kernel) ⟨Nat.le_trans (Nat.le_of_ble_eq_true rfl) hRf.1, Nat.le_trans (Nat.le_of_ble_eq_true rfl) hRf.2⟩) ⟨hm_B.blind, va_recv hK (hI.1.one hefs78) (ci := 1) (q0 := 0) rfl rfl, fun U hU hW => ⟨rfl, hm_B.of hK hG hI hU hW⟩⟩ rfl rfl hl.1 rfl (lv_room (Nat.le_of_ble_eq_true rfl)) d_MD_readAll_57 (hx_fit hI hR (hm_mo hg77) (hm_mo hf))) (fun H locs cells slots hI => ?_)
    refine W.eq (g2 := F0 m 60 ls []) rfl ?_
    exact hret _ _ _ _ _ _ _ d_MD_readAll_60 hf hI
set_option maxHeartbeats 4000000 in
set_option maxRecDepth 100000 in
theorem c_MD_order (l : Launch) {D : va_G} {dA : Nat → ClassId} {aK aV : Nat → Nat} {z : Nat} {N : Nat} {h0 : Nat} {p0 : Int32} {p1 : Int32} {M : hM} {Z : Int32 × hM} (hf : (f_MD_order N h0 p0 p1).1 M = some Z) : Met l y_MD_order w_MD_order ({ frames := 3, cells := Z.2.2.1 - M.2.1, slots := Z.2.2.2 - M.2.2, locals := 75 }) (va_Pc [.ref h0, .int p0, .int p1] (hm_B D dA hCl (hTy dA) sT aK aV z M)) (hm_Q D dA hCl (hTy dA) sT aK aV z (some (.int Z.1)) Z.2) (Z.2.2.1 - M.2.1) (Z.2.2.2 - M.2.2) (fun q => z ≤ q) := by
  refine Met.ofW (cc := b_MD_order) (maxL := 4) (ret := (some .int)) (by decide) rfl ?_
  intro p e s m args below meth c s₁ B hml hv
  obtain ⟨hav, hB⟩ := hv
  have S : CallFix p m c b_MD_order 4 s args w_MD_order R_MD := ⟨B.exec, B.bytes, hml, findClass_of_methodNamed B.named, atoms_spec (ws := w_MD_order) B.pre⟩
  have hr : meth.sig.returnType = (some .int) := B.returns
  have hlocks := B.notSynchronized
  have hK := hB.2.2.1
  have hG := hB.2.2.2.2.2
  have hI := hm_I.start hB
  rw [← hB.2.1]
  generalize M.2.2 = k1 at hI ⊢
  refine W.eq (g2 := F0 m 0 ((lg_sl ([.ref h0, .int p0, .int p1]) ++ List.replicate (4 - (lg_sl ([.ref h0, .int p0, .int p1])).length) Slot.unset).toArray) []) (by rw [hav]; exact lg_entry_eq m ([.ref h0, .int p0, .int p1]) 4) ?_
  have hl := lv_entry ([.ref h0, .int p0, .int p1]) (n := 4) (Nat.le_of_ble_eq_true rfl)
  generalize (lg_sl ([.ref h0, .int p0, .int p1]) ++ List.replicate (4 - (lg_sl ([.ref h0, .int p0, .int p1])).length) Slot.unset).toArray = ls at hl ⊢
  simp only [lvA_nil, lvA_i, lvA_l, lvA_a, lvA_r, Nat.zero_add, Nat.reduceAdd] at hl
  have hret : ∀ (v : Int32) (M : hM) (H : Heap) (locs : List Loc) (cells slots : Nat) (ls : Array Slot) (pc : Nat), decode b_MD_order pc = .ok (.ireturn, 1) → (b_ret v).1 M = some Z → hm_I D dA hCl z k1 s M H locs cells slots → W p l e (headSpec w_MD_order { frames := 3, cells := Z.2.2.1 - s.heap.size, slots := Z.2.2.2 - k1, locals := 75 }).room s m args below meth c H locs cells slots (MQ below (hm_Q D dA hCl (hTy dA) sT aK aV z (some (.int Z.1)) Z.2) args s (Z.2.2.1 - s.heap.size) (Z.2.2.2 - k1) (fun q => z ≤ q)) (F0 m pc ls [.int v]) := fun v M H locs cells slots ls pc hdg hf hI => x_reti S hK hG hI hr hlocks hdg hf
  have hR : Z.2.2.1 - s.heap.size ≤ (headSpec w_MD_order { frames := 3, cells := Z.2.2.1 - s.heap.size, slots := Z.2.2.2 - k1, locals := 75 }).room.cells ∧ Z.2.2.2 - k1 ≤ (headSpec w_MD_order { frames := 3, cells := Z.2.2.1 - s.heap.size, slots := Z.2.2.2 - k1, locals := 75 }).room.slots := ⟨Nat.le_refl _, Nat.le_refl _⟩
  have hRf : 3 ≤ (headSpec w_MD_order { frames := 3, cells := Z.2.2.1 - s.heap.size, slots := Z.2.2.2 - k1, locals := 75 }).room.frames ∧ 75 ≤ (headSpec w_MD_order { frames := 3, cells := Z.2.2.1 - s.heap.size, slots := Z.2.2.2 - k1, locals := 75 }).room.locals := ⟨Nat.le_refl _, Nat.le_refl _⟩
  generalize (headSpec w_MD_order { frames := 3, cells := Z.2.2.1 - s.heap.size, slots := Z.2.2.2 - k1, locals := 75 }).room = R at hret hR hRf ⊢
  generalize (MQ below (hm_Q D dA hCl (hTy dA) sT aK aV z (some (.int Z.1)) Z.2) args s (Z.2.2.1 - s.heap.size) (Z.2.2.2 - k1) (fun q => z ≤ q)) = Q at hret ⊢
  rw [e_MD_order] at hf
  obtain ⟨J105, eJ105, hf⟩ := b_let_inv hf
  have w105 : ∀ (y0 : Int32) (M : hM) (H : Heap) (locs : List Loc) (ls : Array Slot) (cells slots : Nat), (J105 y0).1 M = some Z → hm_I D dA hCl z k1 s M H locs cells slots → lv_has ls 4 [(0, .ref h0), (1, .int p0), (2, .int p1)] → W p l e R s m args below meth c H locs cells slots Q (F0 m 105 ls [.int y0]) := by
    intro y0 M H locs ls cells slots hf hI hl
    rw [eJ105] at hf
    obtain ⟨J146, eJ146, hf⟩ := b_let_inv hf
    have w146 : ∀ (y0 : Int32) (M : hM) (H : Heap) (locs : List Loc) (ls : Array Slot) (cells slots : Nat), (J146 y0).1 M = some Z → hm_I D dA hCl z k1 s M H locs cells slots → lv_has ls 4 [] → W p l e R s m args below meth c H locs cells slots Q (F0 m 146 ls [.int y0]) := by
      intro y0 M H locs ls cells slots hf hI hl
      rw [eJ146] at hf
      exact hret _ _ _ _ _ _ _ _ d_MD_order_146 hf hI
    refine x_istore_n (lv2 := [(0, .ref h0), (1, .int p0), (2, .int p1)]) S d_MD_order_105 rfl hl (by decide) [0, 1, 2] rfl ⟨⟨(by decide : (0 : Nat) ≠ 3), fun h => absurd (show (0 : Nat) + 1 = 3 from h) (by decide)⟩, ⟨⟨(by decide : (1 : Nat) ≠ 3), fun h => absurd (show (1 : Nat) + 1 = 3 from h) (by decide)⟩, ⟨⟨(by decide : (2 : Nat) ≠ 3), fun _ => rfl⟩, trivial⟩⟩⟩ (fun ls hl => ?_)
    refine lv_iload_n S.1 S.2.1 d_MD_order_106 rfl (lv_at hl 0 rfl) ?_
    refine lv_if_eq (tgt := 114) S.1 S.2.1 d_MD_order_107 (by decide) (fun hc => ?_) (fun hc => ?_)
    · have hf := b_if_t hc hf
      refine lv_aload_n S.1 S.2.1 d_MD_order_114 rfl (lv_at hl 1 rfl) ?_
      refine lv_aload_n S.1 S.2.1 d_MD_order_115 rfl (lv_at hl 1 rfl) ?_
      refine x_getR (ci := 1) (k := 23) S hK hI (fun w h => List.mem_cons_of_mem _ (i_MD w h)) rfl (by decide) (List.mem_cons_of_mem _ wd_544) rfl d_MD_order_116 hf (fun r1 hf => ?_)
      refine lv_bipush (v := 20) S.1 S.2.1 d_MD_order_119 (by decide) ?_
      refine lv_iload_n S.1 S.2.1 d_MD_order_121 rfl (lv_at hl 2 rfl) ?_
      refine lv_imul S.1 S.2.1 d_MD_order_122 ?_
      refine lv_aload_n S.1 S.2.1 d_MD_order_123 rfl (lv_at hl 1 rfl) ?_
      refine x_getR (ci := 1) (k := 21) S hK hI (fun w h => List.mem_cons_of_mem _ (i_MD w h)) rfl (by decide) (List.mem_cons_of_mem _ wd_541) rfl d_MD_order_124 hf (fun r2 hf => ?_)
      refine lv_iload_n S.1 S.2.1 d_MD_order_127 rfl (lv_at hl 2 rfl) ?_
      obtain ⟨a3, ea3, hg⟩ := b_nn_inv hf
      have hI0 := hI
      have hl0 := hl
      clear hf hI hl
      subst ea3
      have hf := hg
      have hI := hI0
      have hl := hl0
      clear hg hI0 hl0
      refine x_iald (t := 2) S hK hI rfl d_MD_order_128 hf (fun v4 hf => ?_)
      refine lv_aload_n S.1 S.2.1 d_MD_order_129 rfl (lv_at hl 1 rfl) ?_
      refine x_getR (ci := 1) (k := 23) S hK hI (fun w h => List.mem_cons_of_mem _ (i_MD w h)) rfl (by decide) (List.mem_cons_of_mem _ wd_544) rfl d_MD_order_130 hf (fun r5 hf => ?_)
      refine lv_bipush (v := 20) S.1 S.2.1 d_MD_order_133 (by decide) ?_
      refine lv_iload_n S.1 S.2.1 d_MD_order_135 rfl (lv_at hl 3 rfl) ?_
      refine lv_imul S.1 S.2.1 d_MD_order_136 ?_
      refine lv_aload_n S.1 S.2.1 d_MD_order_137 rfl (lv_at hl 1 rfl) ?_
      refine x_getR (ci := 1) (k := 21) S hK hI (fun w h => List.mem_cons_of_mem _ (i_MD w h)) rfl (by decide) (List.mem_cons_of_mem _ wd_541) rfl d_MD_order_138 hf (fun r6 hf => ?_)
      refine lv_iload_n S.1 S.2.1 d_MD_order_141 rfl (lv_at hl 3 rfl) ?_
      obtain ⟨a7, ea7, hg⟩ := b_nn_inv hf
      have hI0 := hI
      have hl0 := hl
      clear hf hI hl
      subst ea7
      have hf := hg
      have hI := hI0
      have hl := hl0
      clear hg hI0 hl0
      refine x_iald (t := 2) S hK hI rfl d_MD_order_142 hf (fun v8 hf => ?_)
      obtain ⟨⟨fs12, hefs12⟩, hf⟩ := b_is_inv hf
      obtain ⟨v9, N10, hg11, hf⟩ := b_call_inv hf
      refine x_call hI (hm_mo hg11) (va_runV (As := [va_rf r1, .int (20 * p0), .int v4, va_rf r5, .int (20 * p1), .int v8]) (rest := []) S (c_MD_compare l hg11) (cwV 6 S.2.2.2.2 (gi_V wd_684 wd_685 wd_686 wd_564 wd_687) rfl rfl rfl (by decide +kernel) ⟨Nat.le_trans (Nat.le_of_ble_eq_true rfl) hRf.1, Nat.le_trans (Nat.le_of_ble_eq_true rfl) hRf.2⟩) ⟨hm_B.blind, va_recv hK (hI.1.one hefs12) (ci := 1) (q0 := 0) rfl rfl, fun U hU hW => ⟨rfl, hm_B.of hK hG hI hU hW⟩⟩ rfl rfl hl.1 rfl (lv_room (Nat.le_of_ble_eq_true rfl)) d_MD_order_143 (hx_fit hI hR (hm_mo hg11) (hm_mo hf))) (fun H locs cells slots hI => ?_)
      refine W.eq (g2 := F0 m 146 ls [.int v9]) rfl ?_
      exact w146 v9 _ _ _ _ _ _ hf hI (lv_sub hl [] rfl)
    · have hf := b_if_f hc hf
      refine lv_iload_n S.1 S.2.1 d_MD_order_110 rfl (lv_at hl 0 rfl) ?_
      refine lv_goto (tgt := 146) S.1 S.2.1 d_MD_order_111 (by decide) ?_
      exact w146 y0 _ _ _ _ _ _ hf hI (lv_sub hl [] rfl)
  refine lv_aload_n S.1 S.2.1 d_MD_order_0 rfl (lv_at hl 0 rfl) ?_
  refine x_getR (ci := 1) (k := 19) S hK hI (fun w h => List.mem_cons_of_mem _ (i_MD w h)) rfl (by decide) (List.mem_cons_of_mem _ wd_539) rfl d_MD_order_1 hf (fun r13 hf => ?_)
  refine lv_iload_n S.1 S.2.1 d_MD_order_4 rfl (lv_at hl 1 rfl) ?_
  obtain ⟨a14, ea14, hg⟩ := b_nn_inv hf
  have hI0 := hI
  have hl0 := hl
  clear hf hI hl
  subst ea14
  have hf := hg
  have hI := hI0
  have hl := hl0
  clear hg hI0 hl0
  refine x_bald (t := 6) S hK hI rfl d_MD_order_5 hf (fun v15 hf => ?_)
  refine lv_aload_n S.1 S.2.1 d_MD_order_6 rfl (lv_at hl 0 rfl) ?_
  refine x_getR (ci := 1) (k := 19) S hK hI (fun w h => List.mem_cons_of_mem _ (i_MD w h)) rfl (by decide) (List.mem_cons_of_mem _ wd_539) rfl d_MD_order_7 hf (fun r16 hf => ?_)
  refine lv_iload_n S.1 S.2.1 d_MD_order_10 rfl (lv_at hl 2 rfl) ?_
  obtain ⟨a17, ea17, hg⟩ := b_nn_inv hf
  have hI0 := hI
  have hl0 := hl
  clear hf hI hl
  subst ea17
  have hf := hg
  have hI := hI0
  have hl := hl0
  clear hg hI0 hl0
  refine x_bald (t := 6) S hK hI rfl d_MD_order_11 hf (fun v18 hf => ?_)
  refine lv_icmp_eq (tgt := 29) S.1 S.2.1 d_MD_order_12 (by decide) (fun hc => ?_) (fun hc => ?_)
  · have hf := b_if_t hc hf
    refine lv_aload_n S.1 S.2.1 d_MD_order_29 rfl (lv_at hl 0 rfl) ?_
    refine x_getR (ci := 1) (k := 20) S hK hI (fun w h => List.mem_cons_of_mem _ (i_MD w h)) rfl (by decide) (List.mem_cons_of_mem _ wd_540) rfl d_MD_order_30 hf (fun r19 hf => ?_)
    refine lv_iload_n S.1 S.2.1 d_MD_order_33 rfl (lv_at hl 1 rfl) ?_
    obtain ⟨a20, ea20, hg⟩ := b_nn_inv hf
    have hI0 := hI
    have hl0 := hl
    clear hf hI hl
    subst ea20
    have hf := hg
    have hI := hI0
    have hl := hl0
    clear hg hI0 hl0
    refine x_iald (t := 2) S hK hI rfl d_MD_order_34 hf (fun v21 hf => ?_)
    refine lv_aload_n S.1 S.2.1 d_MD_order_35 rfl (lv_at hl 0 rfl) ?_
    refine x_getR (ci := 1) (k := 20) S hK hI (fun w h => List.mem_cons_of_mem _ (i_MD w h)) rfl (by decide) (List.mem_cons_of_mem _ wd_540) rfl d_MD_order_36 hf (fun r22 hf => ?_)
    refine lv_iload_n S.1 S.2.1 d_MD_order_39 rfl (lv_at hl 2 rfl) ?_
    obtain ⟨a23, ea23, hg⟩ := b_nn_inv hf
    have hI0 := hI
    have hl0 := hl
    clear hf hI hl
    subst ea23
    have hf := hg
    have hI := hI0
    have hl := hl0
    clear hg hI0 hl0
    refine x_iald (t := 2) S hK hI rfl d_MD_order_40 hf (fun v24 hf => ?_)
    refine lv_icmp_eq (tgt := 58) S.1 S.2.1 d_MD_order_41 (by decide) (fun hc => ?_) (fun hc => ?_)
    · have hf := b_if_t hc hf
      refine lv_aload_n S.1 S.2.1 d_MD_order_58 rfl (lv_at hl 0 rfl) ?_
      refine x_getR (ci := 1) (k := 19) S hK hI (fun w h => List.mem_cons_of_mem _ (i_MD w h)) rfl (by decide) (List.mem_cons_of_mem _ wd_539) rfl d_MD_order_59 hf (fun r25 hf => ?_)
      refine lv_iload_n S.1 S.2.1 d_MD_order_62 rfl (lv_at hl 1 rfl) ?_
      obtain ⟨a26, ea26, hg⟩ := b_nn_inv hf
      have hI0 := hI
      have hl0 := hl
      clear hf hI hl
      subst ea26
      have hf := hg
      have hI := hI0
      have hl := hl0
      clear hg hI0 hl0
      refine x_bald (t := 6) S hK hI rfl d_MD_order_63 hf (fun v27 hf => ?_)
      refine lv_bipush (v := 9) S.1 S.2.1 d_MD_order_64 (by decide) ?_
      refine lv_icmp_ne (tgt := 104) S.1 S.2.1 d_MD_order_66 (by decide) (fun hc => ?_) (fun hc => ?_)
      · have hf := b_if_f hc hf
        refine lv_iconst (v := 0) S.1 S.2.1 d_MD_order_104 (by decide) ?_
        exact w105 0 _ _ _ _ _ _ hf hI (lv_sub hl [0, 1, 2] rfl)
      · have hf := b_if_t hc hf
        refine lv_aload_n S.1 S.2.1 d_MD_order_69 rfl (lv_at hl 0 rfl) ?_
        refine lv_aload_n S.1 S.2.1 d_MD_order_70 rfl (lv_at hl 0 rfl) ?_
        refine x_getR (ci := 1) (k := 24) S hK hI (fun w h => List.mem_cons_of_mem _ (i_MD w h)) rfl (by decide) (List.mem_cons_of_mem _ wd_545) rfl d_MD_order_71 hf (fun r28 hf => ?_)
        refine lv_bipush (v := 20) S.1 S.2.1 d_MD_order_74 (by decide) ?_
        refine lv_iload_n S.1 S.2.1 d_MD_order_76 rfl (lv_at hl 1 rfl) ?_
        refine lv_imul S.1 S.2.1 d_MD_order_77 ?_
        refine lv_aload_n S.1 S.2.1 d_MD_order_78 rfl (lv_at hl 0 rfl) ?_
        refine x_getR (ci := 1) (k := 22) S hK hI (fun w h => List.mem_cons_of_mem _ (i_MD w h)) rfl (by decide) (List.mem_cons_of_mem _ wd_542) rfl d_MD_order_79 hf (fun r29 hf => ?_)
        refine lv_iload_n S.1 S.2.1 d_MD_order_82 rfl (lv_at hl 1 rfl) ?_
        obtain ⟨a30, ea30, hg⟩ := b_nn_inv hf
        have hI0 := hI
        have hl0 := hl
        clear hf hI hl
        subst ea30
        have hf := hg
        have hI := hI0
        have hl := hl0
        clear hg hI0 hl0
        refine x_iald (t := 2) S hK hI rfl d_MD_order_83 hf (fun v31 hf => ?_)
        refine lv_aload_n S.1 S.2.1 d_MD_order_84 rfl (lv_at hl 0 rfl) ?_
        refine x_getR (ci := 1) (k := 24) S hK hI (fun w h => List.mem_cons_of_mem _ (i_MD w h)) rfl (by decide) (List.mem_cons_of_mem _ wd_545) rfl d_MD_order_85 hf (fun r32 hf => ?_)
        refine lv_bipush (v := 20) S.1 S.2.1 d_MD_order_88 (by decide) ?_
        refine lv_iload_n S.1 S.2.1 d_MD_order_90 rfl (lv_at hl 2 rfl) ?_
        refine lv_imul S.1 S.2.1 d_MD_order_91 ?_
        refine lv_aload_n S.1 S.2.1 d_MD_order_92 rfl (lv_at hl 0 rfl) ?_
        refine x_getR (ci := 1) (k := 22) S hK hI (fun w h => List.mem_cons_of_mem _ (i_MD w h)) rfl (by decide) (List.mem_cons_of_mem _ wd_542) rfl d_MD_order_93 hf (fun r33 hf => ?_)
        refine lv_iload_n S.1 S.2.1 d_MD_order_96 rfl (lv_at hl 2 rfl) ?_
        obtain ⟨a34, ea34, hg⟩ := b_nn_inv hf
        have hI0 := hI
        have hl0 := hl
        clear hf hI hl
        subst ea34
        have hf := hg
        have hI := hI0
        have hl := hl0
        clear hg hI0 hl0
        refine x_iald (t := 2) S hK hI rfl d_MD_order_97 hf (fun v35 hf => ?_)
        obtain ⟨⟨fs39, hefs39⟩, hf⟩ := b_is_inv hf
        obtain ⟨v36, N37, hg38, hf⟩ := b_call_inv hf
        refine x_call hI (hm_mo hg38) (va_runV (As := [va_rf r28, .int (20 * p0), .int v31, va_rf r32, .int (20 * p1), .int v35]) (rest := []) S (c_MD_compare l hg38) (cwV 6 S.2.2.2.2 (gi_V wd_684 wd_685 wd_686 wd_564 wd_687) rfl rfl rfl (by decide +kernel) ⟨Nat.le_trans (Nat.le_of_ble_eq_true rfl) hRf.1, Nat.le_trans (Nat.le_of_ble_eq_true rfl) hRf.2⟩) ⟨hm_B.blind, va_recv hK (hI.1.one hefs39) (ci := 1) (q0 := 0) rfl rfl, fun U hU hW => ⟨rfl, hm_B.of hK hG hI hU hW⟩⟩ rfl rfl hl.1 rfl (lv_room (Nat.le_of_ble_eq_true rfl)) d_MD_order_98 (hx_fit hI hR (hm_mo hg38) (hm_mo hf))) (fun H locs cells slots hI => ?_)
        refine W.eq (g2 := F0 m 101 ls [.int v36]) rfl ?_
        refine lv_goto (tgt := 105) S.1 S.2.1 d_MD_order_101 (by decide) ?_
        exact w105 v36 _ _ _ _ _ _ hf hI (lv_sub hl [0, 1, 2] rfl)
    · have hf := b_if_f hc hf
      refine lv_aload_n S.1 S.2.1 d_MD_order_44 rfl (lv_at hl 0 rfl) ?_
      refine x_getR (ci := 1) (k := 20) S hK hI (fun w h => List.mem_cons_of_mem _ (i_MD w h)) rfl (by decide) (List.mem_cons_of_mem _ wd_540) rfl d_MD_order_45 hf (fun r40 hf => ?_)
      refine lv_iload_n S.1 S.2.1 d_MD_order_48 rfl (lv_at hl 1 rfl) ?_
      obtain ⟨a41, ea41, hg⟩ := b_nn_inv hf
      have hI0 := hI
      have hl0 := hl
      clear hf hI hl
      subst ea41
      have hf := hg
      have hI := hI0
      have hl := hl0
      clear hg hI0 hl0
      refine x_iald (t := 2) S hK hI rfl d_MD_order_49 hf (fun v42 hf => ?_)
      refine lv_aload_n S.1 S.2.1 d_MD_order_50 rfl (lv_at hl 0 rfl) ?_
      refine x_getR (ci := 1) (k := 20) S hK hI (fun w h => List.mem_cons_of_mem _ (i_MD w h)) rfl (by decide) (List.mem_cons_of_mem _ wd_540) rfl d_MD_order_51 hf (fun r43 hf => ?_)
      refine lv_iload_n S.1 S.2.1 d_MD_order_54 rfl (lv_at hl 2 rfl) ?_
      obtain ⟨a44, ea44, hg⟩ := b_nn_inv hf
      have hI0 := hI
      have hl0 := hl
      clear hf hI hl
      subst ea44
      have hf := hg
      have hI := hI0
      have hl := hl0
      clear hg hI0 hl0
      refine x_iald (t := 2) S hK hI rfl d_MD_order_55 hf (fun v45 hf => ?_)
      refine lv_isub S.1 S.2.1 d_MD_order_56 ?_
      exact hret _ _ _ _ _ _ _ _ d_MD_order_57 hf hI
  · have hf := b_if_f hc hf
    refine lv_aload_n S.1 S.2.1 d_MD_order_15 rfl (lv_at hl 0 rfl) ?_
    refine x_getR (ci := 1) (k := 19) S hK hI (fun w h => List.mem_cons_of_mem _ (i_MD w h)) rfl (by decide) (List.mem_cons_of_mem _ wd_539) rfl d_MD_order_16 hf (fun r46 hf => ?_)
    refine lv_iload_n S.1 S.2.1 d_MD_order_19 rfl (lv_at hl 1 rfl) ?_
    obtain ⟨a47, ea47, hg⟩ := b_nn_inv hf
    have hI0 := hI
    have hl0 := hl
    clear hf hI hl
    subst ea47
    have hf := hg
    have hI := hI0
    have hl := hl0
    clear hg hI0 hl0
    refine x_bald (t := 6) S hK hI rfl d_MD_order_20 hf (fun v48 hf => ?_)
    refine lv_aload_n S.1 S.2.1 d_MD_order_21 rfl (lv_at hl 0 rfl) ?_
    refine x_getR (ci := 1) (k := 19) S hK hI (fun w h => List.mem_cons_of_mem _ (i_MD w h)) rfl (by decide) (List.mem_cons_of_mem _ wd_539) rfl d_MD_order_22 hf (fun r49 hf => ?_)
    refine lv_iload_n S.1 S.2.1 d_MD_order_25 rfl (lv_at hl 2 rfl) ?_
    obtain ⟨a50, ea50, hg⟩ := b_nn_inv hf
    have hI0 := hI
    have hl0 := hl
    clear hf hI hl
    subst ea50
    have hf := hg
    have hI := hI0
    have hl := hl0
    clear hg hI0 hl0
    refine x_bald (t := 6) S hK hI rfl d_MD_order_26 hf (fun v51 hf => ?_)
    refine lv_isub S.1 S.2.1 d_MD_order_27 ?_
    exact hret _ _ _ _ _ _ _ _ d_MD_order_28 hf hI
