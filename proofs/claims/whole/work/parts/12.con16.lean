set_option maxHeartbeats 4000000 in
set_option maxRecDepth 100000 in
theorem c_MD_isPrinted (l : Launch) {D : va_G} {dA : Nat → ClassId} {aK aV : Nat → Nat} {z : Nat} {N : Nat} {h0 : Nat} {p0 : Int32} {p1 : Int32} {M : hM} {Z : Int32 × hM} (hf : (f_MD_isPrinted N h0 p0 p1).1 M = some Z) : Met l y_MD_isPrinted w_MD_isPrinted ({ frames := 3, cells := Z.2.2.1 - M.2.1, slots := Z.2.2.2 - M.2.2, locals := 75 }) (va_Pc [.ref h0, .int p0, .int p1] (hm_B D dA hCl (hTy dA) sT aK aV z M)) (hm_Q D dA hCl (hTy dA) sT aK aV z (some (.int Z.1)) Z.2) (Z.2.2.1 - M.2.1) (Z.2.2.2 - M.2.2) (fun q => z ≤ q) := by
  refine Met.ofW (cc := b_MD_isPrinted) (maxL := 4) (ret := (some .boolean)) (by decide) rfl ?_
  intro p e s m args below meth c s₁ B hml hv
  obtain ⟨hav, hB⟩ := hv
  have S : CallFix p m c b_MD_isPrinted 4 s args w_MD_isPrinted R_MD := ⟨B.exec, B.bytes, hml, findClass_of_methodNamed B.named, atoms_spec (ws := w_MD_isPrinted) B.pre⟩
  have hr : meth.sig.returnType = (some .boolean) := B.returns
  have hlocks := B.notSynchronized
  have hK := hB.2.2.1
  have hG := hB.2.2.2.2.2
  have hI := hm_I.start hB
  rw [← hB.2.1]
  generalize M.2.2 = k1 at hI ⊢
  refine W.eq (g2 := F0 m 0 ((lg_sl ([.ref h0, .int p0, .int p1]) ++ List.replicate (4 - (lg_sl ([.ref h0, .int p0, .int p1])).length) Slot.unset).toArray) []) (by rw [hav]; exact lg_entry_eq m ([.ref h0, .int p0, .int p1]) 4) ?_
  have hl := lv_entry ([.ref h0, .int p0, .int p1]) (n := 4) (Nat.le_of_ble_eq_true rfl)
  generalize (lg_sl ([.ref h0, .int p0, .int p1]) ++ List.replicate (4 - (lg_sl ([.ref h0, .int p0, .int p1])).length) Slot.unset).toArray = ls at hl ⊢
  simp only [lvA_nil, lvA_i, lvA_l, lvA_a, lvA_r, Nat.zero_add, Nat.reduceAdd] at hl
  have hret : ∀ (v : Int32) (M : hM) (H : Heap) (locs : List Loc) (cells slots : Nat) (ls : Array Slot) (pc : Nat), decode b_MD_isPrinted pc = .ok (.ireturn, 1) → (b_retN .boolean v).1 M = some Z → hm_I D dA hCl z k1 s M H locs cells slots → W p l e (headSpec w_MD_isPrinted { frames := 3, cells := Z.2.2.1 - s.heap.size, slots := Z.2.2.2 - k1, locals := 75 }).room s m args below meth c H locs cells slots (MQ below (hm_Q D dA hCl (hTy dA) sT aK aV z (some (.int Z.1)) Z.2) args s (Z.2.2.1 - s.heap.size) (Z.2.2.2 - k1) (fun q => z ≤ q)) (F0 m pc ls [.int v]) := fun v M H locs cells slots ls pc hdg hf hI => x_retn S hK hG hI hr hlocks hdg hf
  have hR : Z.2.2.1 - s.heap.size ≤ (headSpec w_MD_isPrinted { frames := 3, cells := Z.2.2.1 - s.heap.size, slots := Z.2.2.2 - k1, locals := 75 }).room.cells ∧ Z.2.2.2 - k1 ≤ (headSpec w_MD_isPrinted { frames := 3, cells := Z.2.2.1 - s.heap.size, slots := Z.2.2.2 - k1, locals := 75 }).room.slots := ⟨Nat.le_refl _, Nat.le_refl _⟩
  have hRf : 3 ≤ (headSpec w_MD_isPrinted { frames := 3, cells := Z.2.2.1 - s.heap.size, slots := Z.2.2.2 - k1, locals := 75 }).room.frames ∧ 75 ≤ (headSpec w_MD_isPrinted { frames := 3, cells := Z.2.2.1 - s.heap.size, slots := Z.2.2.2 - k1, locals := 75 }).room.locals := ⟨Nat.le_refl _, Nat.le_refl _⟩
  generalize (headSpec w_MD_isPrinted { frames := 3, cells := Z.2.2.1 - s.heap.size, slots := Z.2.2.2 - k1, locals := 75 }).room = R at hret hR hRf ⊢
  generalize (MQ below (hm_Q D dA hCl (hTy dA) sT aK aV z (some (.int Z.1)) Z.2) args s (Z.2.2.1 - s.heap.size) (Z.2.2.2 - k1) (fun q => z ≤ q)) = Q at hret ⊢
  rw [e_MD_isPrinted] at hf
  have w6 : ∀ (n : Nat) (x3 : Int32) (M : hM) (H : Heap) (locs : List Loc) (ls : Array Slot) (cells slots : Nat), (f_MD_isPrinted_6 N h0 p0 p1  n x3).1 M = some Z → hm_I D dA hCl z k1 s M H locs cells slots → lv_has ls 4 [(0, .ref h0), (1, .int p0), (2, .int p1), (3, .int x3)] → W p l e R s m args below meth c H locs cells slots Q (F0 m 6 ls []) := by
    intro n
    induction n with
    | zero => intro x3 M H locs ls cells slots hf hI hl; cases hf
    | succ n6 ih6 =>
      intro x3 M H locs ls cells slots hf hI hl
      rw [e_MD_isPrinted_6] at hf
      obtain ⟨J70, eJ70, hf⟩ := b_let_inv hf
      have w70 : ∀ (x3 : Int32) (M : hM) (H : Heap) (locs : List Loc) (ls : Array Slot) (cells slots : Nat), (J70 x3).1 M = some Z → hm_I D dA hCl z k1 s M H locs cells slots → lv_has ls 4 [(0, .ref h0), (1, .int p0), (2, .int p1), (3, .int x3)] → W p l e R s m args below meth c H locs cells slots Q (F0 m 70 ls []) := by
        intro x3 M H locs ls cells slots hf hI hl
        rw [eJ70] at hf
        refine x_iinc (v := 1) (lv2 := [(0, .ref h0), (1, .int p0), (2, .int p1)]) S d_MD_isPrinted_70 hl 3 rfl (by decide) (by decide) [0, 1, 2] rfl ⟨⟨(by decide : (0 : Nat) ≠ 3), fun h => absurd (show (0 : Nat) + 1 = 3 from h) (by decide)⟩, ⟨⟨(by decide : (1 : Nat) ≠ 3), fun h => absurd (show (1 : Nat) + 1 = 3 from h) (by decide)⟩, ⟨⟨(by decide : (2 : Nat) ≠ 3), fun _ => rfl⟩, trivial⟩⟩⟩ (fun ls hl => ?_)
        refine lv_goto (tgt := 6) S.1 S.2.1 d_MD_isPrinted_73 (by decide) ?_
        exact ih6 (x3 + 1) _ _ _ _ _ _ hf hI (lv_sub hl [1, 2, 3, 0] rfl)
      have w82 : ∀ (n : Nat) (x3 : Int32) (M : hM) (H : Heap) (locs : List Loc) (ls : Array Slot) (cells slots : Nat), (f_MD_isPrinted_82 N h0 p0 p1  n x3).1 M = some Z → hm_I D dA hCl z k1 s M H locs cells slots → lv_has ls 4 [(0, .ref h0), (2, .int p1), (3, .int x3)] → W p l e R s m args below meth c H locs cells slots Q (F0 m 82 ls []) := by
        intro n
        induction n with
        | zero => intro x3 M H locs ls cells slots hf hI hl; cases hf
        | succ n82 ih82 =>
          intro x3 M H locs ls cells slots hf hI hl
          rw [e_MD_isPrinted_82] at hf
          refine lv_iload_n S.1 S.2.1 d_MD_isPrinted_82 rfl (lv_at hl 2 rfl) ?_
          refine lv_iload_n S.1 S.2.1 d_MD_isPrinted_83 rfl (lv_at hl 1 rfl) ?_
          refine lv_icmp_ge (tgt := 130) S.1 S.2.1 d_MD_isPrinted_84 (by decide) (fun hc => ?_) (fun hc => ?_)
          · have hf := b_if_t hc hf
            refine lv_iconst (v := 0) S.1 S.2.1 d_MD_isPrinted_130 (by decide) ?_
            exact hret _ _ _ _ _ _ _ _ d_MD_isPrinted_131 hf hI
          · have hf := b_if_f hc hf
            refine lv_aload_n S.1 S.2.1 d_MD_isPrinted_87 rfl (lv_at hl 0 rfl) ?_
            refine lv_aload_n S.1 S.2.1 d_MD_isPrinted_88 rfl (lv_at hl 0 rfl) ?_
            refine x_getR (ci := 1) (k := 17) S hK hI (fun w h => List.mem_cons_of_mem _ (i_MD w h)) rfl (by decide) (List.mem_cons_of_mem _ wd_537) rfl d_MD_isPrinted_89 hf (fun r1 hf => ?_)
            refine lv_bipush (v := 20) S.1 S.2.1 d_MD_isPrinted_92 (by decide) ?_
            refine lv_iload_n S.1 S.2.1 d_MD_isPrinted_94 rfl (lv_at hl 2 rfl) ?_
            refine lv_imul S.1 S.2.1 d_MD_isPrinted_95 ?_
            refine lv_aload_n S.1 S.2.1 d_MD_isPrinted_96 rfl (lv_at hl 0 rfl) ?_
            refine x_getR (ci := 1) (k := 18) S hK hI (fun w h => List.mem_cons_of_mem _ (i_MD w h)) rfl (by decide) (List.mem_cons_of_mem _ wd_538) rfl d_MD_isPrinted_97 hf (fun r2 hf => ?_)
            refine lv_iload_n S.1 S.2.1 d_MD_isPrinted_100 rfl (lv_at hl 2 rfl) ?_
            obtain ⟨a3, ea3, hg⟩ := b_nn_inv hf
            have hI0 := hI
            have hl0 := hl
            clear hf hI hl
            subst ea3
            have hf := hg
            have hI := hI0
            have hl := hl0
            clear hg hI0 hl0
            refine x_iald (t := 2) S hK hI rfl d_MD_isPrinted_101 hf (fun v4 hf => ?_)
            refine lv_aload_n S.1 S.2.1 d_MD_isPrinted_102 rfl (lv_at hl 0 rfl) ?_
            refine x_getR (ci := 1) (k := 17) S hK hI (fun w h => List.mem_cons_of_mem _ (i_MD w h)) rfl (by decide) (List.mem_cons_of_mem _ wd_537) rfl d_MD_isPrinted_103 hf (fun r5 hf => ?_)
            refine lv_bipush (v := 20) S.1 S.2.1 d_MD_isPrinted_106 (by decide) ?_
            refine lv_iload_n S.1 S.2.1 d_MD_isPrinted_108 rfl (lv_at hl 1 rfl) ?_
            refine lv_imul S.1 S.2.1 d_MD_isPrinted_109 ?_
            refine lv_aload_n S.1 S.2.1 d_MD_isPrinted_110 rfl (lv_at hl 0 rfl) ?_
            refine x_getR (ci := 1) (k := 18) S hK hI (fun w h => List.mem_cons_of_mem _ (i_MD w h)) rfl (by decide) (List.mem_cons_of_mem _ wd_538) rfl d_MD_isPrinted_111 hf (fun r6 hf => ?_)
            refine lv_iload_n S.1 S.2.1 d_MD_isPrinted_114 rfl (lv_at hl 1 rfl) ?_
            obtain ⟨a7, ea7, hg⟩ := b_nn_inv hf
            have hI0 := hI
            have hl0 := hl
            clear hf hI hl
            subst ea7
            have hf := hg
            have hI := hI0
            have hl := hl0
            clear hg hI0 hl0
            refine x_iald (t := 2) S hK hI rfl d_MD_isPrinted_115 hf (fun v8 hf => ?_)
            obtain ⟨⟨fs12, hefs12⟩, hf⟩ := b_is_inv hf
            obtain ⟨v9, N10, hg11, hf⟩ := b_call_inv hf
            refine x_call hI (hm_mo hg11) (va_runV (As := [va_rf r1, .int (20 * x3), .int v4, va_rf r5, .int (20 * p1), .int v8]) (rest := []) S (c_MD_compare l hg11) (cwV 6 S.2.2.2.2 (gi_V wd_684 wd_685 wd_686 wd_564 wd_687) rfl rfl rfl (by decide +kernel) ⟨Nat.le_trans (Nat.le_of_ble_eq_true rfl) hRf.1, Nat.le_trans (Nat.le_of_ble_eq_true rfl) hRf.2⟩) ⟨hm_B.blind, va_recv hK (hI.1.one hefs12) (ci := 1) (q0 := 0) rfl rfl, fun U hU hW => ⟨rfl, hm_B.of hK hG hI hU hW⟩⟩ rfl rfl hl.1 rfl (lv_room (Nat.le_of_ble_eq_true rfl)) d_MD_isPrinted_116 (hx_fit hI hR (hm_mo hg11) (hm_mo hf))) (fun H locs cells slots hI => ?_)
            refine W.eq (g2 := F0 m 119 ls [.int v9]) rfl ?_
            refine lv_if_ne (tgt := 124) S.1 S.2.1 d_MD_isPrinted_119 (by decide) (fun hc => ?_) (fun hc => ?_)
            · have hf := b_if_f hc hf
              refine x_iinc (v := 1) (lv2 := [(0, .ref h0), (2, .int p1)]) S d_MD_isPrinted_124 hl 2 rfl (by decide) (by decide) [0, 1] rfl ⟨⟨(by decide : (0 : Nat) ≠ 3), fun h => absurd (show (0 : Nat) + 1 = 3 from h) (by decide)⟩, ⟨⟨(by decide : (2 : Nat) ≠ 3), fun _ => rfl⟩, trivial⟩⟩ (fun ls hl => ?_)
              refine lv_goto (tgt := 82) S.1 S.2.1 d_MD_isPrinted_127 (by decide) ?_
              exact ih82 (x3 + 1) _ _ _ _ _ _ hf hI (lv_sub hl [1, 2, 0] rfl)
            · have hf := b_if_t hc hf
              refine lv_iconst (v := 1) S.1 S.2.1 d_MD_isPrinted_122 (by decide) ?_
              exact hret _ _ _ _ _ _ _ _ d_MD_isPrinted_123 hf hI
      refine lv_iload_n S.1 S.2.1 d_MD_isPrinted_6 rfl (lv_at hl 3 rfl) ?_
      refine lv_sipush (v := 200) S.1 S.2.1 d_MD_isPrinted_7 (by decide) ?_
      refine lv_iload_n S.1 S.2.1 d_MD_isPrinted_10 rfl (lv_at hl 1 rfl) ?_
      refine lv_imul S.1 S.2.1 d_MD_isPrinted_11 ?_
      refine lv_aload_n S.1 S.2.1 d_MD_isPrinted_12 rfl (lv_at hl 0 rfl) ?_
      refine x_getR (ci := 1) (k := 13) S hK hI (fun w h => List.mem_cons_of_mem _ (i_MD w h)) rfl (by decide) (List.mem_cons_of_mem _ wd_532) rfl d_MD_isPrinted_13 hf (fun r13 hf => ?_)
      refine lv_iload_n S.1 S.2.1 d_MD_isPrinted_16 rfl (lv_at hl 1 rfl) ?_
      obtain ⟨a14, ea14, hg⟩ := b_nn_inv hf
      have hI0 := hI
      have hl0 := hl
      clear hf hI hl
      subst ea14
      have hf := hg
      have hI := hI0
      have hl := hl0
      clear hg hI0 hl0
      refine x_iald (t := 2) S hK hI rfl d_MD_isPrinted_17 hf (fun v15 hf => ?_)
      refine lv_iadd S.1 S.2.1 d_MD_isPrinted_18 ?_
      refine lv_icmp_ge (tgt := 76) S.1 S.2.1 d_MD_isPrinted_19 (by decide) (fun hc => ?_) (fun hc => ?_)
      · have hf := b_if_t hc hf
        refine lv_sipush (v := 250) S.1 S.2.1 d_MD_isPrinted_76 (by decide) ?_
        refine lv_iload_n S.1 S.2.1 d_MD_isPrinted_79 rfl (lv_at hl 1 rfl) ?_
        refine lv_imul S.1 S.2.1 d_MD_isPrinted_80 ?_
        refine x_istore_n (lv2 := [(0, .ref h0), (1, .int p0), (2, .int p1)]) S d_MD_isPrinted_81 rfl hl (by decide) [0, 1, 2] rfl ⟨⟨(by decide : (0 : Nat) ≠ 3), fun h => absurd (show (0 : Nat) + 1 = 3 from h) (by decide)⟩, ⟨⟨(by decide : (1 : Nat) ≠ 3), fun h => absurd (show (1 : Nat) + 1 = 3 from h) (by decide)⟩, ⟨⟨(by decide : (2 : Nat) ≠ 3), fun _ => rfl⟩, trivial⟩⟩⟩ (fun ls hl => ?_)
        exact w82 N (250 * p0) _ _ _ _ _ _ hf hI (lv_sub hl [1, 3, 0] rfl)
      · have hf := b_if_f hc hf
        refine lv_aload_n S.1 S.2.1 d_MD_isPrinted_22 rfl (lv_at hl 0 rfl) ?_
        refine x_getR (ci := 1) (k := 19) S hK hI (fun w h => List.mem_cons_of_mem _ (i_MD w h)) rfl (by decide) (List.mem_cons_of_mem _ wd_539) rfl d_MD_isPrinted_23 hf (fun r16 hf => ?_)
        refine lv_iload_n S.1 S.2.1 d_MD_isPrinted_26 rfl (lv_at hl 3 rfl) ?_
        obtain ⟨a17, ea17, hg⟩ := b_nn_inv hf
        have hI0 := hI
        have hl0 := hl
        clear hf hI hl
        subst ea17
        have hf := hg
        have hI := hI0
        have hl := hl0
        clear hg hI0 hl0
        refine x_bald (t := 6) S hK hI rfl d_MD_isPrinted_27 hf (fun v18 hf => ?_)
        refine lv_bipush (v := 9) S.1 S.2.1 d_MD_isPrinted_28 (by decide) ?_
        refine lv_icmp_ne (tgt := 70) S.1 S.2.1 d_MD_isPrinted_30 (by decide) (fun hc => ?_) (fun hc => ?_)
        · have hf := b_if_f hc hf
          exact w70 x3 _ _ _ _ _ _ hf hI (lv_sub hl [0, 1, 2, 3] rfl)
        · have hf := b_if_t hc hf
          refine lv_aload_n S.1 S.2.1 d_MD_isPrinted_33 rfl (lv_at hl 0 rfl) ?_
          refine lv_aload_n S.1 S.2.1 d_MD_isPrinted_34 rfl (lv_at hl 0 rfl) ?_
          refine x_getR (ci := 1) (k := 24) S hK hI (fun w h => List.mem_cons_of_mem _ (i_MD w h)) rfl (by decide) (List.mem_cons_of_mem _ wd_545) rfl d_MD_isPrinted_35 hf (fun r19 hf => ?_)
          refine lv_bipush (v := 20) S.1 S.2.1 d_MD_isPrinted_38 (by decide) ?_
          refine lv_iload_n S.1 S.2.1 d_MD_isPrinted_40 rfl (lv_at hl 3 rfl) ?_
          refine lv_imul S.1 S.2.1 d_MD_isPrinted_41 ?_
          refine lv_aload_n S.1 S.2.1 d_MD_isPrinted_42 rfl (lv_at hl 0 rfl) ?_
          refine x_getR (ci := 1) (k := 22) S hK hI (fun w h => List.mem_cons_of_mem _ (i_MD w h)) rfl (by decide) (List.mem_cons_of_mem _ wd_542) rfl d_MD_isPrinted_43 hf (fun r20 hf => ?_)
          refine lv_iload_n S.1 S.2.1 d_MD_isPrinted_46 rfl (lv_at hl 3 rfl) ?_
          obtain ⟨a21, ea21, hg⟩ := b_nn_inv hf
          have hI0 := hI
          have hl0 := hl
          clear hf hI hl
          subst ea21
          have hf := hg
          have hI := hI0
          have hl := hl0
          clear hg hI0 hl0
          refine x_iald (t := 2) S hK hI rfl d_MD_isPrinted_47 hf (fun v22 hf => ?_)
          refine lv_aload_n S.1 S.2.1 d_MD_isPrinted_48 rfl (lv_at hl 0 rfl) ?_
          refine x_getR (ci := 1) (k := 17) S hK hI (fun w h => List.mem_cons_of_mem _ (i_MD w h)) rfl (by decide) (List.mem_cons_of_mem _ wd_537) rfl d_MD_isPrinted_49 hf (fun r23 hf => ?_)
          refine lv_bipush (v := 20) S.1 S.2.1 d_MD_isPrinted_52 (by decide) ?_
          refine lv_iload_n S.1 S.2.1 d_MD_isPrinted_54 rfl (lv_at hl 2 rfl) ?_
          refine lv_imul S.1 S.2.1 d_MD_isPrinted_55 ?_
          refine lv_aload_n S.1 S.2.1 d_MD_isPrinted_56 rfl (lv_at hl 0 rfl) ?_
          refine x_getR (ci := 1) (k := 18) S hK hI (fun w h => List.mem_cons_of_mem _ (i_MD w h)) rfl (by decide) (List.mem_cons_of_mem _ wd_538) rfl d_MD_isPrinted_57 hf (fun r24 hf => ?_)
          refine lv_iload_n S.1 S.2.1 d_MD_isPrinted_60 rfl (lv_at hl 2 rfl) ?_
          obtain ⟨a25, ea25, hg⟩ := b_nn_inv hf
          have hI0 := hI
          have hl0 := hl
          clear hf hI hl
          subst ea25
          have hf := hg
          have hI := hI0
          have hl := hl0
          clear hg hI0 hl0
          refine x_iald (t := 2) S hK hI rfl d_MD_isPrinted_61 hf (fun v26 hf => ?_)
          obtain ⟨⟨fs30, hefs30⟩, hf⟩ := b_is_inv hf
          obtain ⟨v27, N28, hg29, hf⟩ := b_call_inv hf
          refine x_call hI (hm_mo hg29) (va_runV (As := [va_rf r19, .int (20 * x3), .int v22, va_rf r23, .int (20 * p1), .int v26]) (rest := []) S (c_MD_compare l hg29) (cwV 6 S.2.2.2.2 (gi_V wd_684 wd_685 wd_686 wd_564 wd_687) rfl rfl rfl (by decide +kernel) ⟨Nat.le_trans (Nat.le_of_ble_eq_true rfl) hRf.1, Nat.le_trans (Nat.le_of_ble_eq_true rfl) hRf.2⟩) ⟨hm_B.blind, va_recv hK (hI.1.one hefs30) (ci := 1) (q0 := 0) rfl rfl, fun U hU hW => ⟨rfl, hm_B.of hK hG hI hU hW⟩⟩ rfl rfl hl.1 rfl (lv_room (Nat.le_of_ble_eq_true rfl)) d_MD_isPrinted_62 (hx_fit hI hR (hm_mo hg29) (hm_mo hf))) (fun H locs cells slots hI => ?_)
          refine W.eq (g2 := F0 m 65 ls [.int v27]) rfl ?_
          refine lv_if_ne (tgt := 70) S.1 S.2.1 d_MD_isPrinted_65 (by decide) (fun hc => ?_) (fun hc => ?_)
          · have hf := b_if_f hc hf
            exact w70 x3 _ _ _ _ _ _ hf hI (lv_sub hl [0, 1, 2, 3] rfl)
          · have hf := b_if_t hc hf
            refine lv_iconst (v := 1) S.1 S.2.1 d_MD_isPrinted_68 (by decide) ?_
            exact hret _ _ _ _ _ _ _ _ d_MD_isPrinted_69 hf hI
  refine lv_sipush (v := 200) S.1 S.2.1 d_MD_isPrinted_0 (by decide) ?_
  refine lv_iload_n S.1 S.2.1 d_MD_isPrinted_3 rfl (lv_at hl 1 rfl) ?_
  refine lv_imul S.1 S.2.1 d_MD_isPrinted_4 ?_
  refine x_istore_n (lv2 := [(0, .ref h0), (1, .int p0), (2, .int p1)]) S d_MD_isPrinted_5 rfl hl (by decide) [0, 1, 2] rfl ⟨⟨(by decide : (0 : Nat) ≠ 3), fun h => absurd (show (0 : Nat) + 1 = 3 from h) (by decide)⟩, ⟨⟨(by decide : (1 : Nat) ≠ 3), fun h => absurd (show (1 : Nat) + 1 = 3 from h) (by decide)⟩, ⟨⟨(by decide : (2 : Nat) ≠ 3), fun _ => rfl⟩, trivial⟩⟩⟩ (fun ls hl => ?_)
  exact w6 N (200 * p0) _ _ _ _ _ _ hf hI (lv_sub hl [1, 2, 3, 0] rfl)
set_option maxHeartbeats 4000000 in
set_option maxRecDepth 100000 in
theorem c_MD_print (l : Launch) {D : va_G} {dA : Nat → ClassId} {aK aV : Nat → Nat} {z : Nat} {N : Nat} {h0 : Nat} {p0 : Int32} {M : hM} {Z : Int32 × hM} (hf : (f_MD_print N h0 p0).1 M = some Z) : Met l y_MD_print w_MD_print ({ frames := 6, cells := Z.2.2.1 - M.2.1, slots := Z.2.2.2 - M.2.2, locals := 135 }) (va_Pc [.ref h0, .int p0] (hm_B D dA hCl (hTy dA) sT aK aV z M)) (hm_Q D dA hCl (hTy dA) sT aK aV z (some (.int Z.1)) Z.2) (Z.2.2.1 - M.2.1) (Z.2.2.2 - M.2.2) (fun q => z ≤ q) := by
  refine Met.ofW (cc := b_MD_print) (maxL := 3) (ret := (some .int)) (by decide) rfl ?_
  intro p e s m args below meth c s₁ B hml hv
  obtain ⟨hav, hB⟩ := hv
  have S : CallFix p m c b_MD_print 3 s args w_MD_print R_MD := ⟨B.exec, B.bytes, hml, findClass_of_methodNamed B.named, atoms_spec (ws := w_MD_print) B.pre⟩
  have hr : meth.sig.returnType = (some .int) := B.returns
  have hlocks := B.notSynchronized
  have hK := hB.2.2.1
  have hG := hB.2.2.2.2.2
  have hI := hm_I.start hB
  rw [← hB.2.1]
  generalize M.2.2 = k1 at hI ⊢
  refine W.eq (g2 := F0 m 0 ((lg_sl ([.ref h0, .int p0]) ++ List.replicate (3 - (lg_sl ([.ref h0, .int p0])).length) Slot.unset).toArray) []) (by rw [hav]; exact lg_entry_eq m ([.ref h0, .int p0]) 3) ?_
  have hl := lv_entry ([.ref h0, .int p0]) (n := 3) (Nat.le_of_ble_eq_true rfl)
  generalize (lg_sl ([.ref h0, .int p0]) ++ List.replicate (3 - (lg_sl ([.ref h0, .int p0])).length) Slot.unset).toArray = ls at hl ⊢
  simp only [lvA_nil, lvA_i, lvA_l, lvA_a, lvA_r, Nat.zero_add, Nat.reduceAdd] at hl
  have hret : ∀ (v : Int32) (M : hM) (H : Heap) (locs : List Loc) (cells slots : Nat) (ls : Array Slot) (pc : Nat), decode b_MD_print pc = .ok (.ireturn, 1) → (b_ret v).1 M = some Z → hm_I D dA hCl z k1 s M H locs cells slots → W p l e (headSpec w_MD_print { frames := 6, cells := Z.2.2.1 - s.heap.size, slots := Z.2.2.2 - k1, locals := 135 }).room s m args below meth c H locs cells slots (MQ below (hm_Q D dA hCl (hTy dA) sT aK aV z (some (.int Z.1)) Z.2) args s (Z.2.2.1 - s.heap.size) (Z.2.2.2 - k1) (fun q => z ≤ q)) (F0 m pc ls [.int v]) := fun v M H locs cells slots ls pc hdg hf hI => x_reti S hK hG hI hr hlocks hdg hf
  have hR : Z.2.2.1 - s.heap.size ≤ (headSpec w_MD_print { frames := 6, cells := Z.2.2.1 - s.heap.size, slots := Z.2.2.2 - k1, locals := 135 }).room.cells ∧ Z.2.2.2 - k1 ≤ (headSpec w_MD_print { frames := 6, cells := Z.2.2.1 - s.heap.size, slots := Z.2.2.2 - k1, locals := 135 }).room.slots := ⟨Nat.le_refl _, Nat.le_refl _⟩
  have hRf : 6 ≤ (headSpec w_MD_print { frames := 6, cells := Z.2.2.1 - s.heap.size, slots := Z.2.2.2 - k1, locals := 135 }).room.frames ∧ 135 ≤ (headSpec w_MD_print { frames := 6, cells := Z.2.2.1 - s.heap.size, slots := Z.2.2.2 - k1, locals := 135 }).room.locals := ⟨Nat.le_refl _, Nat.le_refl _⟩
  generalize (headSpec w_MD_print { frames := 6, cells := Z.2.2.1 - s.heap.size, slots := Z.2.2.2 - k1, locals := 135 }).room = R at hret hR hRf ⊢
  generalize (MQ below (hm_Q D dA hCl (hTy dA) sT aK aV z (some (.int Z.1)) Z.2) args s (Z.2.2.1 - s.heap.size) (Z.2.2.2 - k1) (fun q => z ≤ q)) = Q at hret ⊢
  rw [e_MD_print] at hf
  have w34 : ∀ (n : Nat) (x2 : Int32) (M : hM) (H : Heap) (locs : List Loc) (ls : Array Slot) (cells slots : Nat), (f_MD_print_34 N h0 p0  n x2).1 M = some Z → hm_I D dA hCl z k1 s M H locs cells slots → lv_has ls 3 [(0, .ref h0), (1, .int p0), (2, .int x2)] → W p l e R s m args below meth c H locs cells slots Q (F0 m 34 ls []) := by
    intro n
    induction n with
    | zero => intro x2 M H locs ls cells slots hf hI hl; cases hf
    | succ n34 ih34 =>
      intro x2 M H locs ls cells slots hf hI hl
      rw [e_MD_print_34] at hf
      have w110 : ∀ (n : Nat) (x2 : Int32) (M : hM) (H : Heap) (locs : List Loc) (ls : Array Slot) (cells slots : Nat), (f_MD_print_110 N h0 p0  n x2).1 M = some Z → hm_I D dA hCl z k1 s M H locs cells slots → lv_has ls 3 [(0, .ref h0), (1, .int p0), (2, .int x2)] → W p l e R s m args below meth c H locs cells slots Q (F0 m 110 ls []) := by
        intro n
        induction n with
        | zero => intro x2 M H locs ls cells slots hf hI hl; cases hf
        | succ n110 ih110 =>
          intro x2 M H locs ls cells slots hf hI hl
          rw [e_MD_print_110] at hf
          obtain ⟨J153, eJ153, hf⟩ := b_let_inv hf
          have w153 : ∀  (M : hM) (H : Heap) (locs : List Loc) (ls : Array Slot) (cells slots : Nat), (J153).1 M = some Z → hm_I D dA hCl z k1 s M H locs cells slots → lv_has ls 3 [(0, .ref h0), (1, .int p0)] → W p l e R s m args below meth c H locs cells slots Q (F0 m 153 ls []) := by
            intro M H locs ls cells slots hf hI hl
            rw [eJ153] at hf
            have w159 : ∀ (n : Nat) (x2 : Int32) (M : hM) (H : Heap) (locs : List Loc) (ls : Array Slot) (cells slots : Nat), (f_MD_print_159 N h0 p0  n x2).1 M = some Z → hm_I D dA hCl z k1 s M H locs cells slots → lv_has ls 3 [(0, .ref h0), (1, .int p0), (2, .int x2)] → W p l e R s m args below meth c H locs cells slots Q (F0 m 159 ls []) := by
              intro n
              induction n with
              | zero => intro x2 M H locs ls cells slots hf hI hl; cases hf
              | succ n159 ih159 =>
                intro x2 M H locs ls cells slots hf hI hl
                rw [e_MD_print_159] at hf
                obtain ⟨J230, eJ230, hf⟩ := b_let_inv hf
                have w230 : ∀ (x2 : Int32) (M : hM) (H : Heap) (locs : List Loc) (ls : Array Slot) (cells slots : Nat), (J230 x2).1 M = some Z → hm_I D dA hCl z k1 s M H locs cells slots → lv_has ls 3 [(0, .ref h0), (1, .int p0), (2, .int x2)] → W p l e R s m args below meth c H locs cells slots Q (F0 m 230 ls []) := by
                  intro x2 M H locs ls cells slots hf hI hl
                  rw [eJ230] at hf
                  refine x_iinc (v := 1) (lv2 := [(0, .ref h0), (1, .int p0)]) S d_MD_print_230 hl 2 rfl (by decide) (by decide) [0, 1] rfl ⟨⟨(by decide : (0 : Nat) ≠ 2), fun h => absurd (show (0 : Nat) + 1 = 2 from h) (by decide)⟩, ⟨⟨(by decide : (1 : Nat) ≠ 2), fun _ => rfl⟩, trivial⟩⟩ (fun ls hl => ?_)
                  refine lv_goto (tgt := 159) S.1 S.2.1 d_MD_print_233 (by decide) ?_
                  exact ih159 (x2 + 1) _ _ _ _ _ _ hf hI (lv_sub hl [1, 2, 0] rfl)
                refine lv_iload_n S.1 S.2.1 d_MD_print_159 rfl (lv_at hl 2 rfl) ?_
                refine lv_sipush (v := 250) S.1 S.2.1 d_MD_print_160 (by decide) ?_
                refine lv_iload_n S.1 S.2.1 d_MD_print_163 rfl (lv_at hl 1 rfl) ?_
                refine lv_imul S.1 S.2.1 d_MD_print_164 ?_
                refine lv_aload_n S.1 S.2.1 d_MD_print_165 rfl (lv_at hl 0 rfl) ?_
                refine x_getR (ci := 1) (k := 14) S hK hI (fun w h => List.mem_cons_of_mem _ (i_MD w h)) rfl (by decide) (List.mem_cons_of_mem _ wd_533) rfl d_MD_print_166 hf (fun r1 hf => ?_)
                refine lv_iload_n S.1 S.2.1 d_MD_print_169 rfl (lv_at hl 1 rfl) ?_
                obtain ⟨a2, ea2, hg⟩ := b_nn_inv hf
                have hI0 := hI
                have hl0 := hl
                clear hf hI hl
                subst ea2
                have hf := hg
                have hI := hI0
                have hl := hl0
                clear hg hI0 hl0
                refine x_iald (t := 2) S hK hI rfl d_MD_print_170 hf (fun v3 hf => ?_)
                refine lv_iadd S.1 S.2.1 d_MD_print_171 ?_
                refine lv_icmp_ge (tgt := 236) S.1 S.2.1 d_MD_print_172 (by decide) (fun hc => ?_) (fun hc => ?_)
                · have hf := b_if_t hc hf
                  refine lv_aload_n S.1 S.2.1 d_MD_print_236 rfl (lv_at hl 0 rfl) ?_
                  refine x_getI (ci := 1) (k := 43) S hK hI (fun w h => List.mem_cons_of_mem _ (i_MD w h)) rfl (by decide) (List.mem_cons_of_mem _ wd_754) rfl d_MD_print_237 hf (fun v4 hf => ?_)
                  exact hret _ _ _ _ _ _ _ _ d_MD_print_240 hf hI
                · have hf := b_if_f hc hf
                  refine lv_aload_n S.1 S.2.1 d_MD_print_175 rfl (lv_at hl 0 rfl) ?_
                  refine lv_iload_n S.1 S.2.1 d_MD_print_176 rfl (lv_at hl 1 rfl) ?_
                  refine lv_iload_n S.1 S.2.1 d_MD_print_177 rfl (lv_at hl 2 rfl) ?_
                  obtain ⟨⟨fs8, hefs8⟩, hf⟩ := b_is_inv hf
                  obtain ⟨v5, N6, hg7, hf⟩ := b_call_inv hf
                  refine x_call hI (hm_mo hg7) (va_runV (As := [.int p0, .int x2]) (rest := []) S (c_MD_isPrinted l hg7) (cwV 2 S.2.2.2.2 (gi_V wd_797 wd_798 wd_799 wd_564 wd_800) rfl rfl rfl (by decide +kernel) ⟨Nat.le_trans (Nat.le_of_ble_eq_true rfl) hRf.1, Nat.le_trans (Nat.le_of_ble_eq_true rfl) hRf.2⟩) ⟨hm_B.blind, va_recv hK (hI.1.one hefs8) (ci := 1) (q0 := 0) rfl rfl, fun U hU hW => ⟨rfl, hm_B.of hK hG hI hU hW⟩⟩ rfl rfl hl.1 rfl (lv_room (Nat.le_of_ble_eq_true rfl)) d_MD_print_178 (hx_fit hI hR (hm_mo hg7) (hm_mo hf))) (fun H locs cells slots hI => ?_)
                  refine W.eq (g2 := F0 m 181 ls [.int v5]) rfl ?_
                  refine lv_if_ne (tgt := 230) S.1 S.2.1 d_MD_print_181 (by decide) (fun hc => ?_) (fun hc => ?_)
                  · have hf := b_if_f hc hf
                    exact w230 x2 _ _ _ _ _ _ hf hI (lv_sub hl [0, 1, 2] rfl)
                  · have hf := b_if_t hc hf
                    refine lv_aload_n S.1 S.2.1 d_MD_print_184 rfl (lv_at hl 0 rfl) ?_
                    refine lv_aload_n S.1 S.2.1 d_MD_print_185 rfl (lv_at hl 0 rfl) ?_
                    refine lv_bipush (v := 9) S.1 S.2.1 d_MD_print_186 (by decide) ?_
                    obtain ⟨⟨fs12, hefs12⟩, hf⟩ := b_is_inv hf
                    obtain ⟨v9, N10, hg11, hf⟩ := b_call_inv hf
                    refine x_call hI (hm_mo hg11) (va_runV (As := [.int 9]) (rest := [.ref h0]) S (c_MD_keyOf l hg11) (cwV 1 S.2.2.2.2 (gi_V wd_777 wd_778 wd_779 wd_564 wd_780) rfl rfl rfl (by decide +kernel) ⟨Nat.le_trans (Nat.le_of_ble_eq_true rfl) hRf.1, Nat.le_trans (Nat.le_of_ble_eq_true rfl) hRf.2⟩) ⟨hm_B.blind, va_recv hK (hI.1.one hefs12) (ci := 1) (q0 := 0) rfl rfl, fun U hU hW => ⟨rfl, hm_B.of hK hG hI hU hW⟩⟩ rfl rfl hl.1 rfl (lv_room (Nat.le_of_ble_eq_true rfl)) d_MD_print_188 (hx_fit hI hR (hm_mo hg11) (hm_mo hf))) (fun H locs cells slots hI => ?_)
                    refine W.eq (g2 := F0 m 191 ls [.long v9, .ref h0]) rfl ?_
                    obtain ⟨⟨fs16, hefs16⟩, hf⟩ := b_is_inv hf
                    obtain ⟨r13, N14, hg15, hf⟩ := b_call_inv hf
                    refine x_call hI (hm_mo hg15) (va_runV (As := [.long v9]) (rest := []) S (c_MD_putKey l hg15) (cwV 1 S.2.2.2.2 (gi_V wd_781 wd_782 wd_783 wd_564 wd_784) rfl rfl rfl (by decide +kernel) ⟨Nat.le_trans (Nat.le_of_ble_eq_true rfl) hRf.1, Nat.le_trans (Nat.le_of_ble_eq_true rfl) hRf.2⟩) ⟨hm_B.blind, va_recv hK (hI.1.one hefs16) (ci := 1) (q0 := 0) rfl rfl, fun U hU hW => ⟨rfl, hm_B.of hK hG hI hU hW⟩⟩ rfl rfl hl.1 rfl (lv_room (Nat.le_of_ble_eq_true rfl)) d_MD_print_191 (hx_fit hI hR (hm_mo hg15) (hm_mo hf))) (fun H locs cells slots hI => ?_)
                    refine W.eq (g2 := F0 m 194 ls []) rfl ?_
                    refine lv_aload_n S.1 S.2.1 d_MD_print_194 rfl (lv_at hl 0 rfl) ?_
                    refine lv_bipush (v := 32) S.1 S.2.1 d_MD_print_195 (by decide) ?_
                    obtain ⟨⟨fs20, hefs20⟩, hf⟩ := b_is_inv hf
                    obtain ⟨r17, N18, hg19, hf⟩ := b_call_inv hf
                    refine x_call hI (hm_mo hg19) (va_runV (As := [.int 32]) (rest := []) S (c_MD_put l hg19) (cwV 1 S.2.2.2.2 (gi_V wd_755 wd_756 wd_757 wd_564 wd_758) rfl rfl rfl (by decide +kernel) ⟨Nat.le_trans (Nat.le_of_ble_eq_true rfl) hRf.1, Nat.le_trans (Nat.le_of_ble_eq_true rfl) hRf.2⟩) ⟨hm_B.blind, va_recv hK (hI.1.one hefs20) (ci := 1) (q0 := 0) rfl rfl, fun U hU hW => ⟨rfl, hm_B.of hK hG hI hU hW⟩⟩ rfl rfl hl.1 rfl (lv_room (Nat.le_of_ble_eq_true rfl)) d_MD_print_197 (hx_fit hI hR (hm_mo hg19) (hm_mo hf))) (fun H locs cells slots hI => ?_)
                    refine W.eq (g2 := F0 m 200 ls []) rfl ?_
                    refine lv_aload_n S.1 S.2.1 d_MD_print_200 rfl (lv_at hl 0 rfl) ?_
                    refine lv_aload_n S.1 S.2.1 d_MD_print_201 rfl (lv_at hl 0 rfl) ?_
                    refine x_getR (ci := 1) (k := 17) S hK hI (fun w h => List.mem_cons_of_mem _ (i_MD w h)) rfl (by decide) (List.mem_cons_of_mem _ wd_537) rfl d_MD_print_202 hf (fun r21 hf => ?_)
                    refine lv_bipush (v := 20) S.1 S.2.1 d_MD_print_205 (by decide) ?_
                    refine lv_iload_n S.1 S.2.1 d_MD_print_207 rfl (lv_at hl 2 rfl) ?_
                    refine lv_imul S.1 S.2.1 d_MD_print_208 ?_
                    refine lv_aload_n S.1 S.2.1 d_MD_print_209 rfl (lv_at hl 0 rfl) ?_
                    refine x_getR (ci := 1) (k := 18) S hK hI (fun w h => List.mem_cons_of_mem _ (i_MD w h)) rfl (by decide) (List.mem_cons_of_mem _ wd_538) rfl d_MD_print_210 hf (fun r22 hf => ?_)
                    refine lv_iload_n S.1 S.2.1 d_MD_print_213 rfl (lv_at hl 2 rfl) ?_
                    obtain ⟨a23, ea23, hg⟩ := b_nn_inv hf
                    have hI0 := hI
                    have hl0 := hl
                    clear hf hI hl
                    subst ea23
                    have hf := hg
                    have hI := hI0
                    have hl := hl0
                    clear hg hI0 hl0
                    refine x_iald (t := 2) S hK hI rfl d_MD_print_214 hf (fun v24 hf => ?_)
                    obtain ⟨⟨fs28, hefs28⟩, hf⟩ := b_is_inv hf
                    obtain ⟨r25, N26, hg27, hf⟩ := b_call_inv hf
                    refine x_call hI (hm_mo hg27) (va_runV (As := [va_rf r21, .int (20 * x2), .int v24]) (rest := []) S (c_MD_putName l hg27) (cwV 3 S.2.2.2.2 (gi_V wd_773 wd_774 wd_775 wd_564 wd_776) rfl rfl rfl (by decide +kernel) ⟨Nat.le_trans (Nat.le_of_ble_eq_true rfl) hRf.1, Nat.le_trans (Nat.le_of_ble_eq_true rfl) hRf.2⟩) ⟨hm_B.blind, va_recv hK (hI.1.one hefs28) (ci := 1) (q0 := 0) rfl rfl, fun U hU hW => ⟨rfl, hm_B.of hK hG hI hU hW⟩⟩ rfl rfl hl.1 rfl (lv_room (Nat.le_of_ble_eq_true rfl)) d_MD_print_215 (hx_fit hI hR (hm_mo hg27) (hm_mo hf))) (fun H locs cells slots hI => ?_)
                    refine W.eq (g2 := F0 m 218 ls []) rfl ?_
                    refine lv_aload_n S.1 S.2.1 d_MD_print_218 rfl (lv_at hl 0 rfl) ?_
                    refine lv_bipush (v := 58) S.1 S.2.1 d_MD_print_219 (by decide) ?_
                    obtain ⟨⟨fs32, hefs32⟩, hf⟩ := b_is_inv hf
                    obtain ⟨r29, N30, hg31, hf⟩ := b_call_inv hf
                    refine x_call hI (hm_mo hg31) (va_runV (As := [.int 58]) (rest := []) S (c_MD_put l hg31) (cwV 1 S.2.2.2.2 (gi_V wd_755 wd_756 wd_757 wd_564 wd_758) rfl rfl rfl (by decide +kernel) ⟨Nat.le_trans (Nat.le_of_ble_eq_true rfl) hRf.1, Nat.le_trans (Nat.le_of_ble_eq_true rfl) hRf.2⟩) ⟨hm_B.blind, va_recv hK (hI.1.one hefs32) (ci := 1) (q0 := 0) rfl rfl, fun U hU hW => ⟨rfl, hm_B.of hK hG hI hU hW⟩⟩ rfl rfl hl.1 rfl (lv_room (Nat.le_of_ble_eq_true rfl)) d_MD_print_221 (hx_fit hI hR (hm_mo hg31) (hm_mo hf))) (fun H locs cells slots hI => ?_)
                    refine W.eq (g2 := F0 m 224 ls []) rfl ?_
                    refine lv_aload_n S.1 S.2.1 d_MD_print_224 rfl (lv_at hl 0 rfl) ?_
                    refine lv_bipush (v := 59) S.1 S.2.1 d_MD_print_225 (by decide) ?_
                    obtain ⟨⟨fs36, hefs36⟩, hf⟩ := b_is_inv hf
                    obtain ⟨r33, N34, hg35, hf⟩ := b_call_inv hf
                    refine x_call hI (hm_mo hg35) (va_runV (As := [.int 59]) (rest := []) S (c_MD_put l hg35) (cwV 1 S.2.2.2.2 (gi_V wd_755 wd_756 wd_757 wd_564 wd_758) rfl rfl rfl (by decide +kernel) ⟨Nat.le_trans (Nat.le_of_ble_eq_true rfl) hRf.1, Nat.le_trans (Nat.le_of_ble_eq_true rfl) hRf.2⟩) ⟨hm_B.blind, va_recv hK (hI.1.one hefs36) (ci := 1) (q0 := 0) rfl rfl, fun U hU hW => ⟨rfl, hm_B.of hK hG hI hU hW⟩⟩ rfl rfl hl.1 rfl (lv_room (Nat.le_of_ble_eq_true rfl)) d_MD_print_227 (hx_fit hI hR (hm_mo hg35) (hm_mo hf))) (fun H locs cells slots hI => ?_)
                    refine W.eq (g2 := F0 m 230 ls []) rfl ?_
                    exact w230 x2 _ _ _ _ _ _ hf hI (lv_sub hl [0, 1, 2] rfl)
            refine lv_sipush (v := 250) S.1 S.2.1 d_MD_print_153 (by decide) ?_
            refine lv_iload_n S.1 S.2.1 d_MD_print_156 rfl (lv_at hl 1 rfl) ?_
            refine lv_imul S.1 S.2.1 d_MD_print_157 ?_
            refine x_istore_n (lv2 := [(0, .ref h0), (1, .int p0)]) S d_MD_print_158 rfl hl (by decide) [0, 1] rfl ⟨⟨(by decide : (0 : Nat) ≠ 2), fun h => absurd (show (0 : Nat) + 1 = 2 from h) (by decide)⟩, ⟨⟨(by decide : (1 : Nat) ≠ 2), fun _ => rfl⟩, trivial⟩⟩ (fun ls hl => ?_)
            exact w159 N (250 * p0) _ _ _ _ _ _ hf hI (lv_sub hl [1, 2, 0] rfl)
          refine lv_iload_n S.1 S.2.1 d_MD_print_110 rfl (lv_at hl 2 rfl) ?_
          refine lv_sipush (v := 200) S.1 S.2.1 d_MD_print_111 (by decide) ?_
          refine lv_iload_n S.1 S.2.1 d_MD_print_114 rfl (lv_at hl 1 rfl) ?_
          refine lv_imul S.1 S.2.1 d_MD_print_115 ?_
          refine lv_aload_n S.1 S.2.1 d_MD_print_116 rfl (lv_at hl 0 rfl) ?_
          refine x_getR (ci := 1) (k := 13) S hK hI (fun w h => List.mem_cons_of_mem _ (i_MD w h)) rfl (by decide) (List.mem_cons_of_mem _ wd_532) rfl d_MD_print_117 hf (fun r37 hf => ?_)
          refine lv_iload_n S.1 S.2.1 d_MD_print_120 rfl (lv_at hl 1 rfl) ?_
          obtain ⟨a38, ea38, hg⟩ := b_nn_inv hf
          have hI0 := hI
          have hl0 := hl
          clear hf hI hl
          subst ea38
          have hf := hg
          have hI := hI0
          have hl := hl0
          clear hg hI0 hl0
          refine x_iald (t := 2) S hK hI rfl d_MD_print_121 hf (fun v39 hf => ?_)
          refine lv_iadd S.1 S.2.1 d_MD_print_122 ?_
          refine lv_icmp_ge (tgt := 138) S.1 S.2.1 d_MD_print_123 (by decide) (fun hc => ?_) (fun hc => ?_)
          · have hf := b_if_t hc hf
            refine lv_aload_n S.1 S.2.1 d_MD_print_138 rfl (lv_at hl 0 rfl) ?_
            refine x_getR (ci := 1) (k := 13) S hK hI (fun w h => List.mem_cons_of_mem _ (i_MD w h)) rfl (by decide) (List.mem_cons_of_mem _ wd_532) rfl d_MD_print_139 hf (fun r40 hf => ?_)
            refine lv_iload_n S.1 S.2.1 d_MD_print_142 rfl (lv_at hl 1 rfl) ?_
            obtain ⟨a41, ea41, hg⟩ := b_nn_inv hf
            have hI0 := hI
            have hl0 := hl
            clear hf hI hl
            subst ea41
            have hf := hg
            have hI := hI0
            have hl := hl0
            clear hg hI0 hl0
            refine x_iald (t := 2) S hK hI rfl d_MD_print_143 hf (fun v42 hf => ?_)
            refine lv_if_le (tgt := 153) S.1 S.2.1 d_MD_print_144 (by decide) (fun hc => ?_) (fun hc => ?_)
            · have hf := b_if_t hc hf
              exact w153  _ _ _ _ _ _ hf hI (lv_sub hl [0, 1] rfl)
            · have hf := b_if_f hc hf
              refine lv_aload_n S.1 S.2.1 d_MD_print_147 rfl (lv_at hl 0 rfl) ?_
              refine lv_bipush (v := 59) S.1 S.2.1 d_MD_print_148 (by decide) ?_
              obtain ⟨⟨fs46, hefs46⟩, hf⟩ := b_is_inv hf
              obtain ⟨r43, N44, hg45, hf⟩ := b_call_inv hf
              refine x_call hI (hm_mo hg45) (va_runV (As := [.int 59]) (rest := []) S (c_MD_put l hg45) (cwV 1 S.2.2.2.2 (gi_V wd_755 wd_756 wd_757 wd_564 wd_758) rfl rfl rfl (by decide +kernel) ⟨Nat.le_trans (Nat.le_of_ble_eq_true rfl) hRf.1, Nat.le_trans (Nat.le_of_ble_eq_true rfl) hRf.2⟩) ⟨hm_B.blind, va_recv hK (hI.1.one hefs46) (ci := 1) (q0 := 0) rfl rfl, fun U hU hW => ⟨rfl, hm_B.of hK hG hI hU hW⟩⟩ rfl rfl hl.1 rfl (lv_room (Nat.le_of_ble_eq_true rfl)) d_MD_print_150 (hx_fit hI hR (hm_mo hg45) (hm_mo hf))) (fun H locs cells slots hI => ?_)
              refine W.eq (g2 := F0 m 153 ls []) rfl ?_
              exact w153  _ _ _ _ _ _ hf hI (lv_sub hl [0, 1] rfl)
          · have hf := b_if_f hc hf
            refine lv_aload_n S.1 S.2.1 d_MD_print_126 rfl (lv_at hl 0 rfl) ?_
            refine lv_iload_n S.1 S.2.1 d_MD_print_127 rfl (lv_at hl 1 rfl) ?_
            refine lv_iload_n S.1 S.2.1 d_MD_print_128 rfl (lv_at hl 2 rfl) ?_
            obtain ⟨⟨fs50, hefs50⟩, hf⟩ := b_is_inv hf
            obtain ⟨r47, N48, hg49, hf⟩ := b_call_inv hf
            refine x_call hI (hm_mo hg49) (va_runV (As := [.int p0, .int x2]) (rest := []) S (c_MD_putRow l hg49) (cwV 2 S.2.2.2.2 (gi_V wd_801 wd_802 wd_803 wd_564 wd_804) rfl rfl rfl (by decide +kernel) ⟨Nat.le_trans (Nat.le_of_ble_eq_true rfl) hRf.1, Nat.le_trans (Nat.le_of_ble_eq_true rfl) hRf.2⟩) ⟨hm_B.blind, va_recv hK (hI.1.one hefs50) (ci := 1) (q0 := 0) rfl rfl, fun U hU hW => ⟨rfl, hm_B.of hK hG hI hU hW⟩⟩ rfl rfl hl.1 rfl (lv_room (Nat.le_of_ble_eq_true rfl)) d_MD_print_129 (hx_fit hI hR (hm_mo hg49) (hm_mo hf))) (fun H locs cells slots hI => ?_)
            refine W.eq (g2 := F0 m 132 ls []) rfl ?_
            refine x_iinc (v := 1) (lv2 := [(0, .ref h0), (1, .int p0)]) S d_MD_print_132 hl 2 rfl (by decide) (by decide) [0, 1] rfl ⟨⟨(by decide : (0 : Nat) ≠ 2), fun h => absurd (show (0 : Nat) + 1 = 2 from h) (by decide)⟩, ⟨⟨(by decide : (1 : Nat) ≠ 2), fun _ => rfl⟩, trivial⟩⟩ (fun ls hl => ?_)
            refine lv_goto (tgt := 110) S.1 S.2.1 d_MD_print_135 (by decide) ?_
            exact ih110 (x2 + 1) _ _ _ _ _ _ hf hI (lv_sub hl [1, 2, 0] rfl)
      refine lv_iload_n S.1 S.2.1 d_MD_print_34 rfl (lv_at hl 2 rfl) ?_
      refine lv_bipush (v := 7) S.1 S.2.1 d_MD_print_35 (by decide) ?_
      refine lv_icmp_ge (tgt := 58) S.1 S.2.1 d_MD_print_37 (by decide) (fun hc => ?_) (fun hc => ?_)
      · have hf := b_if_t hc hf
        refine lv_aload_n S.1 S.2.1 d_MD_print_58 rfl (lv_at hl 0 rfl) ?_
        refine lv_bipush (v := 32) S.1 S.2.1 d_MD_print_59 (by decide) ?_
        obtain ⟨⟨fs54, hefs54⟩, hf⟩ := b_is_inv hf
        obtain ⟨r51, N52, hg53, hf⟩ := b_call_inv hf
        refine x_call hI (hm_mo hg53) (va_runV (As := [.int 32]) (rest := []) S (c_MD_put l hg53) (cwV 1 S.2.2.2.2 (gi_V wd_755 wd_756 wd_757 wd_564 wd_758) rfl rfl rfl (by decide +kernel) ⟨Nat.le_trans (Nat.le_of_ble_eq_true rfl) hRf.1, Nat.le_trans (Nat.le_of_ble_eq_true rfl) hRf.2⟩) ⟨hm_B.blind, va_recv hK (hI.1.one hefs54) (ci := 1) (q0 := 0) rfl rfl, fun U hU hW => ⟨rfl, hm_B.of hK hG hI hU hW⟩⟩ rfl rfl hl.1 rfl (lv_room (Nat.le_of_ble_eq_true rfl)) d_MD_print_61 (hx_fit hI hR (hm_mo hg53) (hm_mo hf))) (fun H locs cells slots hI => ?_)
        refine W.eq (g2 := F0 m 64 ls []) rfl ?_
        refine lv_aload_n S.1 S.2.1 d_MD_print_64 rfl (lv_at hl 0 rfl) ?_
        refine lv_aload_n S.1 S.2.1 d_MD_print_65 rfl (lv_at hl 0 rfl) ?_
        refine x_getR (ci := 1) (k := 15) S hK hI (fun w h => List.mem_cons_of_mem _ (i_MD w h)) rfl (by decide) (List.mem_cons_of_mem _ wd_534) rfl d_MD_print_66 hf (fun r55 hf => ?_)
        refine lv_bipush (v := 20) S.1 S.2.1 d_MD_print_69 (by decide) ?_
        refine lv_iload_n S.1 S.2.1 d_MD_print_71 rfl (lv_at hl 1 rfl) ?_
        refine lv_imul S.1 S.2.1 d_MD_print_72 ?_
        refine lv_aload_n S.1 S.2.1 d_MD_print_73 rfl (lv_at hl 0 rfl) ?_
        refine x_getR (ci := 1) (k := 12) S hK hI (fun w h => List.mem_cons_of_mem _ (i_MD w h)) rfl (by decide) (List.mem_cons_of_mem _ wd_531) rfl d_MD_print_74 hf (fun r56 hf => ?_)
        refine lv_iload_n S.1 S.2.1 d_MD_print_77 rfl (lv_at hl 1 rfl) ?_
        obtain ⟨a57, ea57, hg⟩ := b_nn_inv hf
        have hI0 := hI
        have hl0 := hl
        clear hf hI hl
        subst ea57
        have hf := hg
        have hI := hI0
        have hl := hl0
        clear hg hI0 hl0
        refine x_iald (t := 2) S hK hI rfl d_MD_print_78 hf (fun v58 hf => ?_)
        obtain ⟨⟨fs62, hefs62⟩, hf⟩ := b_is_inv hf
        obtain ⟨r59, N60, hg61, hf⟩ := b_call_inv hf
        refine x_call hI (hm_mo hg61) (va_runV (As := [va_rf r55, .int (20 * p0), .int v58]) (rest := []) S (c_MD_putName l hg61) (cwV 3 S.2.2.2.2 (gi_V wd_773 wd_774 wd_775 wd_564 wd_776) rfl rfl rfl (by decide +kernel) ⟨Nat.le_trans (Nat.le_of_ble_eq_true rfl) hRf.1, Nat.le_trans (Nat.le_of_ble_eq_true rfl) hRf.2⟩) ⟨hm_B.blind, va_recv hK (hI.1.one hefs62) (ci := 1) (q0 := 0) rfl rfl, fun U hU hW => ⟨rfl, hm_B.of hK hG hI hU hW⟩⟩ rfl rfl hl.1 rfl (lv_room (Nat.le_of_ble_eq_true rfl)) d_MD_print_79 (hx_fit hI hR (hm_mo hg61) (hm_mo hf))) (fun H locs cells slots hI => ?_)
        refine W.eq (g2 := F0 m 82 ls []) rfl ?_
        refine lv_aload_n S.1 S.2.1 d_MD_print_82 rfl (lv_at hl 0 rfl) ?_
        refine lv_bipush (v := 32) S.1 S.2.1 d_MD_print_83 (by decide) ?_
        obtain ⟨⟨fs66, hefs66⟩, hf⟩ := b_is_inv hf
        obtain ⟨r63, N64, hg65, hf⟩ := b_call_inv hf
        refine x_call hI (hm_mo hg65) (va_runV (As := [.int 32]) (rest := []) S (c_MD_put l hg65) (cwV 1 S.2.2.2.2 (gi_V wd_755 wd_756 wd_757 wd_564 wd_758) rfl rfl rfl (by decide +kernel) ⟨Nat.le_trans (Nat.le_of_ble_eq_true rfl) hRf.1, Nat.le_trans (Nat.le_of_ble_eq_true rfl) hRf.2⟩) ⟨hm_B.blind, va_recv hK (hI.1.one hefs66) (ci := 1) (q0 := 0) rfl rfl, fun U hU hW => ⟨rfl, hm_B.of hK hG hI hU hW⟩⟩ rfl rfl hl.1 rfl (lv_room (Nat.le_of_ble_eq_true rfl)) d_MD_print_85 (hx_fit hI hR (hm_mo hg65) (hm_mo hf))) (fun H locs cells slots hI => ?_)
        refine W.eq (g2 := F0 m 88 ls []) rfl ?_
        refine lv_aload_n S.1 S.2.1 d_MD_print_88 rfl (lv_at hl 0 rfl) ?_
        refine lv_aload_n S.1 S.2.1 d_MD_print_89 rfl (lv_at hl 0 rfl) ?_
        refine x_getR (ci := 1) (k := 16) S hK hI (fun w h => List.mem_cons_of_mem _ (i_MD w h)) rfl (by decide) (List.mem_cons_of_mem _ wd_535) rfl d_MD_print_90 hf (fun r67 hf => ?_)
        refine lv_iload_n S.1 S.2.1 d_MD_print_93 rfl (lv_at hl 1 rfl) ?_
        obtain ⟨a68, ea68, hg⟩ := b_nn_inv hf
        have hI0 := hI
        have hl0 := hl
        clear hf hI hl
        subst ea68
        have hf := hg
        have hI := hI0
        have hl := hl0
        clear hg hI0 hl0
        refine x_lald (t := 7) S hK hI rfl d_MD_print_94 hf (fun v69 hf => ?_)
        obtain ⟨⟨fs73, hefs73⟩, hf⟩ := b_is_inv hf
        obtain ⟨r70, N71, hg72, hf⟩ := b_call_inv hf
        refine x_call hI (hm_mo hg72) (va_runV (As := [.long v69]) (rest := []) S (c_MD_putVersion l hg72) (cwV 1 S.2.2.2.2 (gi_V wd_765 wd_766 wd_767 wd_564 wd_768) rfl rfl rfl (by decide +kernel) ⟨Nat.le_trans (Nat.le_of_ble_eq_true rfl) hRf.1, Nat.le_trans (Nat.le_of_ble_eq_true rfl) hRf.2⟩) ⟨hm_B.blind, va_recv hK (hI.1.one hefs73) (ci := 1) (q0 := 0) rfl rfl, fun U hU hW => ⟨rfl, hm_B.of hK hG hI hU hW⟩⟩ rfl rfl hl.1 rfl (lv_room (Nat.le_of_ble_eq_true rfl)) d_MD_print_95 (hx_fit hI hR (hm_mo hg72) (hm_mo hf))) (fun H locs cells slots hI => ?_)
        refine W.eq (g2 := F0 m 98 ls []) rfl ?_
        refine lv_aload_n S.1 S.2.1 d_MD_print_98 rfl (lv_at hl 0 rfl) ?_
        refine lv_bipush (v := 59) S.1 S.2.1 d_MD_print_99 (by decide) ?_
        obtain ⟨⟨fs77, hefs77⟩, hf⟩ := b_is_inv hf
        obtain ⟨r74, N75, hg76, hf⟩ := b_call_inv hf
        refine x_call hI (hm_mo hg76) (va_runV (As := [.int 59]) (rest := []) S (c_MD_put l hg76) (cwV 1 S.2.2.2.2 (gi_V wd_755 wd_756 wd_757 wd_564 wd_758) rfl rfl rfl (by decide +kernel) ⟨Nat.le_trans (Nat.le_of_ble_eq_true rfl) hRf.1, Nat.le_trans (Nat.le_of_ble_eq_true rfl) hRf.2⟩) ⟨hm_B.blind, va_recv hK (hI.1.one hefs77) (ci := 1) (q0 := 0) rfl rfl, fun U hU hW => ⟨rfl, hm_B.of hK hG hI hU hW⟩⟩ rfl rfl hl.1 rfl (lv_room (Nat.le_of_ble_eq_true rfl)) d_MD_print_101 (hx_fit hI hR (hm_mo hg76) (hm_mo hf))) (fun H locs cells slots hI => ?_)
        refine W.eq (g2 := F0 m 104 ls []) rfl ?_
        refine lv_sipush (v := 200) S.1 S.2.1 d_MD_print_104 (by decide) ?_
        refine lv_iload_n S.1 S.2.1 d_MD_print_107 rfl (lv_at hl 1 rfl) ?_
        refine lv_imul S.1 S.2.1 d_MD_print_108 ?_
        refine x_istore_n (lv2 := [(0, .ref h0), (1, .int p0)]) S d_MD_print_109 rfl hl (by decide) [0, 1] rfl ⟨⟨(by decide : (0 : Nat) ≠ 2), fun h => absurd (show (0 : Nat) + 1 = 2 from h) (by decide)⟩, ⟨⟨(by decide : (1 : Nat) ≠ 2), fun _ => rfl⟩, trivial⟩⟩ (fun ls hl => ?_)
        exact w110 N (200 * p0) _ _ _ _ _ _ hf hI (lv_sub hl [1, 2, 0] rfl)
      · have hf := b_if_f hc hf
        refine lv_aload_n S.1 S.2.1 d_MD_print_40 rfl (lv_at hl 0 rfl) ?_
        refine lv_aload_n S.1 S.2.1 d_MD_print_41 rfl (lv_at hl 0 rfl) ?_
        refine x_getR (ci := 1) (k := 44) S hK hI (fun w h => List.mem_cons_of_mem _ (i_MD w h)) rfl (by decide) (List.mem_cons_of_mem _ wd_557) rfl d_MD_print_42 hf (fun r78 hf => ?_)
        refine lv_iload_n S.1 S.2.1 d_MD_print_45 rfl (lv_at hl 2 rfl) ?_
        refine lv_iconst (v := 1) S.1 S.2.1 d_MD_print_46 (by decide) ?_
        refine lv_iadd S.1 S.2.1 d_MD_print_47 ?_
        obtain ⟨a79, ea79, hg⟩ := b_nn_inv hf
        have hI0 := hI
        have hl0 := hl
        clear hf hI hl
        subst ea79
        have hf := hg
        have hI := hI0
        have hl := hl0
        clear hg hI0 hl0
        refine x_bald (t := 6) S hK hI rfl d_MD_print_48 hf (fun v80 hf => ?_)
        obtain ⟨⟨fs84, hefs84⟩, hf⟩ := b_is_inv hf
        obtain ⟨r81, N82, hg83, hf⟩ := b_call_inv hf
        refine x_call hI (hm_mo hg83) (va_runV (As := [.int v80]) (rest := []) S (c_MD_put l hg83) (cwV 1 S.2.2.2.2 (gi_V wd_755 wd_756 wd_757 wd_564 wd_758) rfl rfl rfl (by decide +kernel) ⟨Nat.le_trans (Nat.le_of_ble_eq_true rfl) hRf.1, Nat.le_trans (Nat.le_of_ble_eq_true rfl) hRf.2⟩) ⟨hm_B.blind, va_recv hK (hI.1.one hefs84) (ci := 1) (q0 := 0) rfl rfl, fun U hU hW => ⟨rfl, hm_B.of hK hG hI hU hW⟩⟩ rfl rfl hl.1 rfl (lv_room (Nat.le_of_ble_eq_true rfl)) d_MD_print_49 (hx_fit hI hR (hm_mo hg83) (hm_mo hf))) (fun H locs cells slots hI => ?_)
        refine W.eq (g2 := F0 m 52 ls []) rfl ?_
        refine x_iinc (v := 1) (lv2 := [(0, .ref h0), (1, .int p0)]) S d_MD_print_52 hl 2 rfl (by decide) (by decide) [0, 1] rfl ⟨⟨(by decide : (0 : Nat) ≠ 2), fun h => absurd (show (0 : Nat) + 1 = 2 from h) (by decide)⟩, ⟨⟨(by decide : (1 : Nat) ≠ 2), fun _ => rfl⟩, trivial⟩⟩ (fun ls hl => ?_)
        refine lv_goto (tgt := 34) S.1 S.2.1 d_MD_print_55 (by decide) ?_
        exact ih34 (x2 + 1) _ _ _ _ _ _ hf hI (lv_sub hl [1, 2, 0] rfl)
  refine lv_aload_n S.1 S.2.1 d_MD_print_0 rfl (lv_at hl 0 rfl) ?_
  refine lv_iconst (v := 0) S.1 S.2.1 d_MD_print_1 (by decide) ?_
  refine x_put (ci := 1) (k := 0) S hK hI (fun w h => List.mem_cons_of_mem _ (i_MD w h)) t_MD t_MD_ok n_MD rfl (by decide) (List.mem_cons_of_mem _ wd_559) rfl (Or.inl rfl) (by rfl) rfl d_MD_print_2 hf (fun M H locs hf hI => ?_)
  refine lv_aload_n S.1 S.2.1 d_MD_print_5 rfl (lv_at hl 0 rfl) ?_
  refine lv_iload_n S.1 S.2.1 d_MD_print_6 rfl (lv_at hl 1 rfl) ?_
  obtain ⟨⟨fs88, hefs88⟩, hf⟩ := b_is_inv hf
  obtain ⟨v85, N86, hg87, hf⟩ := b_call_inv hf
  refine x_call hI (hm_mo hg87) (va_runV (As := [.int p0]) (rest := []) S (c_MD_isPackage l hg87) (cwV 1 S.2.2.2.2 (gi_V wd_721 wd_722 wd_723 wd_564 wd_724) rfl rfl rfl (by decide +kernel) ⟨Nat.le_trans (Nat.le_of_ble_eq_true rfl) hRf.1, Nat.le_trans (Nat.le_of_ble_eq_true rfl) hRf.2⟩) ⟨hm_B.blind, va_recv hK (hI.1.one hefs88) (ci := 1) (q0 := 0) rfl rfl, fun U hU hW => ⟨rfl, hm_B.of hK hG hI hU hW⟩⟩ rfl rfl hl.1 rfl (lv_room (Nat.le_of_ble_eq_true rfl)) d_MD_print_7 (hx_fit hI hR (hm_mo hg87) (hm_mo hf))) (fun H locs cells slots hI => ?_)
  refine W.eq (g2 := F0 m 10 ls [.int v85]) rfl ?_
  refine lv_if_ne (tgt := 15) S.1 S.2.1 d_MD_print_10 (by decide) (fun hc => ?_) (fun hc => ?_)
  · have hf := b_if_f hc hf
    refine lv_aload_n S.1 S.2.1 d_MD_print_15 rfl (lv_at hl 0 rfl) ?_
    refine lv_iconst (v := 0) S.1 S.2.1 d_MD_print_16 (by decide) ?_
    refine x_put (ci := 1) (k := 43) S hK hI (fun w h => List.mem_cons_of_mem _ (i_MD w h)) t_MD t_MD_ok n_MD rfl (by decide) (List.mem_cons_of_mem _ wd_754) rfl (Or.inl rfl) (by rfl) rfl d_MD_print_17 hf (fun M H locs hf hI => ?_)
    refine lv_aload_n S.1 S.2.1 d_MD_print_20 rfl (lv_at hl 0 rfl) ?_
    refine lv_ldc2 (v := 31632277022795621) S.1 S.2.1 S.2.2.2.1 (S.2.2.2.2 _ (List.mem_cons_of_mem _ wd_696)) d_MD_print_21 ?_
    obtain ⟨⟨fs92, hefs92⟩, hf⟩ := b_is_inv hf
    obtain ⟨r89, N90, hg91, hf⟩ := b_call_inv hf
    refine x_call hI (hm_mo hg91) (va_runV (As := [.long 31632277022795621]) (rest := []) S (c_MD_putKey l hg91) (cwV 1 S.2.2.2.2 (gi_V wd_781 wd_782 wd_783 wd_564 wd_784) rfl rfl rfl (by decide +kernel) ⟨Nat.le_trans (Nat.le_of_ble_eq_true rfl) hRf.1, Nat.le_trans (Nat.le_of_ble_eq_true rfl) hRf.2⟩) ⟨hm_B.blind, va_recv hK (hI.1.one hefs92) (ci := 1) (q0 := 0) rfl rfl, fun U hU hW => ⟨rfl, hm_B.of hK hG hI hU hW⟩⟩ rfl rfl hl.1 rfl (lv_room (Nat.le_of_ble_eq_true rfl)) d_MD_print_24 (hx_fit hI hR (hm_mo hg91) (hm_mo hf))) (fun H locs cells slots hI => ?_)
    refine W.eq (g2 := F0 m 27 ls []) rfl ?_
    refine lv_aload_n S.1 S.2.1 d_MD_print_27 rfl (lv_at hl 0 rfl) ?_
    refine lv_iconst (v := 0) S.1 S.2.1 d_MD_print_28 (by decide) ?_
    refine x_put (ci := 1) (k := 43) S hK hI (fun w h => List.mem_cons_of_mem _ (i_MD w h)) t_MD t_MD_ok n_MD rfl (by decide) (List.mem_cons_of_mem _ wd_754) rfl (Or.inl rfl) (by rfl) rfl d_MD_print_29 hf (fun M H locs hf hI => ?_)
    refine lv_iconst (v := 0) S.1 S.2.1 d_MD_print_32 (by decide) ?_
    refine x_istore_n (lv2 := [(0, .ref h0), (1, .int p0)]) S d_MD_print_33 rfl hl (by decide) [0, 1] rfl ⟨⟨(by decide : (0 : Nat) ≠ 2), fun h => absurd (show (0 : Nat) + 1 = 2 from h) (by decide)⟩, ⟨⟨(by decide : (1 : Nat) ≠ 2), fun _ => rfl⟩, trivial⟩⟩ (fun ls hl => ?_)
    exact w34 N 0 _ _ _ _ _ _ hf hI (lv_sub hl [1, 2, 0] rfl)
  · have hf := b_if_t hc hf
    refine lv_iconst (v := (-1)) S.1 S.2.1 d_MD_print_13 (by decide) ?_
    exact hret _ _ _ _ _ _ _ _ d_MD_print_14 hf hI
set_option maxHeartbeats 4000000 in
set_option maxRecDepth 100000 in
theorem c_MD_fold (l : Launch) {D : va_G} {dA : Nat → ClassId} {aK aV : Nat → Nat} {z : Nat} {N : Nat} {h0 : Nat} {M : hM} {Z : Int32 × hM} (hf : (f_MD_fold N h0 ).1 M = some Z) : Met l y_MD_fold w_MD_fold ({ frames := 3, cells := Z.2.2.1 - M.2.1, slots := Z.2.2.2 - M.2.2, locals := 63 }) (va_Pc [.ref h0] (hm_B D dA hCl (hTy dA) sT aK aV z M)) (hm_Q D dA hCl (hTy dA) sT aK aV z (some (.int Z.1)) Z.2) (Z.2.2.1 - M.2.1) (Z.2.2.2 - M.2.2) (fun q => z ≤ q) := by
  refine Met.ofW (cc := b_MD_fold) (maxL := 4) (ret := (some .int)) (by decide) rfl ?_
  intro p e s m args below meth c s₁ B hml hv
  obtain ⟨hav, hB⟩ := hv
  have S : CallFix p m c b_MD_fold 4 s args w_MD_fold R_MD := ⟨B.exec, B.bytes, hml, findClass_of_methodNamed B.named, atoms_spec (ws := w_MD_fold) B.pre⟩
  have hr : meth.sig.returnType = (some .int) := B.returns
  have hlocks := B.notSynchronized
  have hK := hB.2.2.1
  have hG := hB.2.2.2.2.2
  have hI := hm_I.start hB
  rw [← hB.2.1]
  generalize M.2.2 = k1 at hI ⊢
  refine W.eq (g2 := F0 m 0 ((lg_sl ([.ref h0]) ++ List.replicate (4 - (lg_sl ([.ref h0])).length) Slot.unset).toArray) []) (by rw [hav]; exact lg_entry_eq m ([.ref h0]) 4) ?_
  have hl := lv_entry ([.ref h0]) (n := 4) (Nat.le_of_ble_eq_true rfl)
  generalize (lg_sl ([.ref h0]) ++ List.replicate (4 - (lg_sl ([.ref h0])).length) Slot.unset).toArray = ls at hl ⊢
  simp only [lvA_nil, lvA_i, lvA_l, lvA_a, lvA_r, Nat.zero_add, Nat.reduceAdd] at hl
  have hret : ∀ (v : Int32) (M : hM) (H : Heap) (locs : List Loc) (cells slots : Nat) (ls : Array Slot) (pc : Nat), decode b_MD_fold pc = .ok (.ireturn, 1) → (b_ret v).1 M = some Z → hm_I D dA hCl z k1 s M H locs cells slots → W p l e (headSpec w_MD_fold { frames := 3, cells := Z.2.2.1 - s.heap.size, slots := Z.2.2.2 - k1, locals := 63 }).room s m args below meth c H locs cells slots (MQ below (hm_Q D dA hCl (hTy dA) sT aK aV z (some (.int Z.1)) Z.2) args s (Z.2.2.1 - s.heap.size) (Z.2.2.2 - k1) (fun q => z ≤ q)) (F0 m pc ls [.int v]) := fun v M H locs cells slots ls pc hdg hf hI => x_reti S hK hG hI hr hlocks hdg hf
  have hR : Z.2.2.1 - s.heap.size ≤ (headSpec w_MD_fold { frames := 3, cells := Z.2.2.1 - s.heap.size, slots := Z.2.2.2 - k1, locals := 63 }).room.cells ∧ Z.2.2.2 - k1 ≤ (headSpec w_MD_fold { frames := 3, cells := Z.2.2.1 - s.heap.size, slots := Z.2.2.2 - k1, locals := 63 }).room.slots := ⟨Nat.le_refl _, Nat.le_refl _⟩
  have hRf : 3 ≤ (headSpec w_MD_fold { frames := 3, cells := Z.2.2.1 - s.heap.size, slots := Z.2.2.2 - k1, locals := 63 }).room.frames ∧ 63 ≤ (headSpec w_MD_fold { frames := 3, cells := Z.2.2.1 - s.heap.size, slots := Z.2.2.2 - k1, locals := 63 }).room.locals := ⟨Nat.le_refl _, Nat.le_refl _⟩
  generalize (headSpec w_MD_fold { frames := 3, cells := Z.2.2.1 - s.heap.size, slots := Z.2.2.2 - k1, locals := 63 }).room = R at hret hR hRf ⊢
  generalize (MQ below (hm_Q D dA hCl (hTy dA) sT aK aV z (some (.int Z.1)) Z.2) args s (Z.2.2.1 - s.heap.size) (Z.2.2.2 - k1) (fun q => z ≤ q)) = Q at hret ⊢
  rw [e_MD_fold] at hf
  obtain ⟨J52, eJ52, hf⟩ := b_let_inv hf
  have w52 : ∀ (x1 : Int32) (x2 : Int32) (M : hM) (H : Heap) (locs : List Loc) (ls : Array Slot) (cells slots : Nat), (J52 x1 x2).1 M = some Z → hm_I D dA hCl z k1 s M H locs cells slots → lv_has ls 4 [(0, .ref h0), (1, .int x1), (2, .int x2)] → W p l e R s m args below meth c H locs cells slots Q (F0 m 52 ls []) := by
    intro x1 x2 M H locs ls cells slots hf hI hl
    rw [eJ52] at hf
    have w88 : ∀ (n : Nat) (x3 : Int32) (M : hM) (H : Heap) (locs : List Loc) (ls : Array Slot) (cells slots : Nat), (f_MD_fold_88 N h0  n x3).1 M = some Z → hm_I D dA hCl z k1 s M H locs cells slots → lv_has ls 4 [(0, .ref h0), (3, .int x3)] → W p l e R s m args below meth c H locs cells slots Q (F0 m 88 ls []) := by
      intro n
      induction n with
      | zero => intro x3 M H locs ls cells slots hf hI hl; cases hf
      | succ n88 ih88 =>
        intro x3 M H locs ls cells slots hf hI hl
        rw [e_MD_fold_88] at hf
        refine lv_iload_n S.1 S.2.1 d_MD_fold_88 rfl (lv_at hl 1 rfl) ?_
        refine lv_aload_n S.1 S.2.1 d_MD_fold_89 rfl (lv_at hl 0 rfl) ?_
        refine x_getI (ci := 1) (k := 43) S hK hI (fun w h => List.mem_cons_of_mem _ (i_MD w h)) rfl (by decide) (List.mem_cons_of_mem _ wd_754) rfl d_MD_fold_90 hf (fun v1 hf => ?_)
        refine lv_icmp_ge (tgt := 114) S.1 S.2.1 d_MD_fold_93 (by decide) (fun hc => ?_) (fun hc => ?_)
        · have hf := b_if_t hc hf
          refine lv_aload_n S.1 S.2.1 d_MD_fold_114 rfl (lv_at hl 0 rfl) ?_
          refine x_getI (ci := 1) (k := 43) S hK hI (fun w h => List.mem_cons_of_mem _ (i_MD w h)) rfl (by decide) (List.mem_cons_of_mem _ wd_754) rfl d_MD_fold_115 hf (fun v2 hf => ?_)
          exact hret _ _ _ _ _ _ _ _ d_MD_fold_118 hf hI
        · have hf := b_if_f hc hf
          refine lv_aload_n S.1 S.2.1 d_MD_fold_96 rfl (lv_at hl 0 rfl) ?_
          refine x_getR (ci := 1) (k := 44) S hK hI (fun w h => List.mem_cons_of_mem _ (i_MD w h)) rfl (by decide) (List.mem_cons_of_mem _ wd_557) rfl d_MD_fold_97 hf (fun r3 hf => ?_)
          refine lv_iload_n S.1 S.2.1 d_MD_fold_100 rfl (lv_at hl 1 rfl) ?_
          refine lv_aload_n S.1 S.2.1 d_MD_fold_101 rfl (lv_at hl 0 rfl) ?_
          refine x_getR (ci := 1) (k := 37) S hK hI (fun w h => List.mem_cons_of_mem _ (i_MD w h)) rfl (by decide) (List.mem_cons_of_mem _ wd_551) rfl d_MD_fold_102 hf (fun r4 hf => ?_)
          refine lv_iload_n S.1 S.2.1 d_MD_fold_105 rfl (lv_at hl 1 rfl) ?_
          obtain ⟨a5, ea5, hg⟩ := b_nn_inv hf
          have hI0 := hI
          have hl0 := hl
          clear hf hI hl
          subst ea5
          have hf := hg
          have hI := hI0
          have hl := hl0
          clear hg hI0 hl0
          refine x_bald (t := 6) S hK hI rfl d_MD_fold_106 hf (fun v6 hf => ?_)
          obtain ⟨a7, ea7, hg⟩ := b_nn_inv hf
          have hI0 := hI
          have hl0 := hl
          clear hf hI hl
          subst ea7
          have hf := hg
          have hI := hI0
          have hl := hl0
          clear hg hI0 hl0
          refine x_bast (t := 6) S hK hI rfl d_MD_fold_107 hf (fun M H locs hf hI => ?_)
          refine x_iinc (v := 1) (lv2 := [(0, .ref h0)]) S d_MD_fold_108 hl 1 rfl (by decide) (by decide) [0] rfl ⟨⟨(by decide : (0 : Nat) ≠ 3), fun h => absurd (show (0 : Nat) + 1 = 3 from h) (by decide)⟩, trivial⟩ (fun ls hl => ?_)
          refine lv_goto (tgt := 88) S.1 S.2.1 d_MD_fold_111 (by decide) ?_
          exact ih88 (x3 + 1) _ _ _ _ _ _ hf hI (lv_sub hl [1, 0] rfl)
    refine lv_aload_n S.1 S.2.1 d_MD_fold_52 rfl (lv_at hl 0 rfl) ?_
    refine lv_iconst (v := 0) S.1 S.2.1 d_MD_fold_53 (by decide) ?_
    refine x_put (ci := 1) (k := 2) S hK hI (fun w h => List.mem_cons_of_mem _ (i_MD w h)) t_MD t_MD_ok n_MD rfl (by decide) (List.mem_cons_of_mem _ wd_558) rfl (Or.inl rfl) (by rfl) rfl d_MD_fold_54 hf (fun M H locs hf hI => ?_)
    refine lv_aload_n S.1 S.2.1 d_MD_fold_57 rfl (lv_at hl 0 rfl) ?_
    obtain ⟨⟨fs11, hefs11⟩, hf⟩ := b_is_inv hf
    obtain ⟨v8, N9, hg10, hf⟩ := b_call_inv hf
    refine x_call hI (hm_mo hg10) (va_runV (As := []) (rest := []) S (c_MD_isWrong l hg10) (cwV 0 S.2.2.2.2 (gi_V wd_575 wd_576 wd_577 wd_564 wd_578) rfl rfl rfl (by decide +kernel) ⟨Nat.le_trans (Nat.le_of_ble_eq_true rfl) hRf.1, Nat.le_trans (Nat.le_of_ble_eq_true rfl) hRf.2⟩) ⟨hm_B.blind, va_recv hK (hI.1.one hefs11) (ci := 1) (q0 := 0) rfl rfl, fun U hU hW => ⟨rfl, hm_B.of hK hG hI hU hW⟩⟩ rfl rfl hl.1 rfl (lv_room (Nat.le_of_ble_eq_true rfl)) d_MD_fold_58 (hx_fit hI hR (hm_mo hg10) (hm_mo hf))) (fun H locs cells slots hI => ?_)
    refine W.eq (g2 := F0 m 61 ls [.int v8]) rfl ?_
    refine lv_if_eq (tgt := 69) S.1 S.2.1 d_MD_fold_61 (by decide) (fun hc => ?_) (fun hc => ?_)
    · have hf := b_if_t hc hf
      refine lv_aload_n S.1 S.2.1 d_MD_fold_69 rfl (lv_at hl 0 rfl) ?_
      refine lv_aload_n S.1 S.2.1 d_MD_fold_70 rfl (lv_at hl 0 rfl) ?_
      refine x_getR (ci := 1) (k := 1) S hK hI (fun w h => List.mem_cons_of_mem _ (i_MD w h)) rfl (by decide) (List.mem_cons_of_mem _ wd_509) rfl d_MD_fold_71 hf (fun r12 hf => ?_)
      refine lv_iload_n S.1 S.2.1 d_MD_fold_74 rfl (lv_at hl 1 rfl) ?_
      refine lv_iload_n S.1 S.2.1 d_MD_fold_75 rfl (lv_at hl 2 rfl) ?_
      refine lv_aload_n S.1 S.2.1 d_MD_fold_76 rfl (lv_at hl 0 rfl) ?_
      refine x_getR (ci := 1) (k := 37) S hK hI (fun w h => List.mem_cons_of_mem _ (i_MD w h)) rfl (by decide) (List.mem_cons_of_mem _ wd_551) rfl d_MD_fold_77 hf (fun r13 hf => ?_)
      obtain ⟨v14, N15, hg16, hf⟩ := b_call_inv hf
      refine x_call hI (hm_mo hg16) (va_runS (As := [va_rf r12, .int x1, .int x2, va_rf r13]) (rest := [.ref h0]) S (c_MD_folded l hg16) (va_cwS 4 S.2.2.2.2 (gi_S wd_621 wd_622 wd_564 wd_623) rfl rfl rfl (by decide +kernel) ⟨Nat.le_trans (Nat.le_of_ble_eq_true rfl) hRf.1, Nat.le_trans (Nat.le_of_ble_eq_true rfl) hRf.2⟩) ⟨hm_B.blind, fun U hU hW => ⟨rfl, hm_B.of hK hG hI hU hW⟩⟩ rfl rfl hl.1 rfl (lv_room (Nat.le_of_ble_eq_true rfl)) d_MD_fold_80 (hx_fit hI hR (hm_mo hg16) (hm_mo hf))) (fun H locs cells slots hI => ?_)
      refine W.eq (g2 := F0 m 83 ls [.int v14, .ref h0]) rfl ?_
      refine x_put (ci := 1) (k := 43) S hK hI (fun w h => List.mem_cons_of_mem _ (i_MD w h)) t_MD t_MD_ok n_MD rfl (by decide) (List.mem_cons_of_mem _ wd_754) rfl (Or.inl rfl) (by rfl) rfl d_MD_fold_83 hf (fun M H locs hf hI => ?_)
      refine lv_iconst (v := 0) S.1 S.2.1 d_MD_fold_86 (by decide) ?_
      refine x_istore_n (lv2 := [(0, .ref h0), (1, .int x1), (2, .int x2)]) S d_MD_fold_87 rfl hl (by decide) [0, 1, 2] rfl ⟨⟨(by decide : (0 : Nat) ≠ 3), fun h => absurd (show (0 : Nat) + 1 = 3 from h) (by decide)⟩, ⟨⟨(by decide : (1 : Nat) ≠ 3), fun h => absurd (show (1 : Nat) + 1 = 3 from h) (by decide)⟩, ⟨⟨(by decide : (2 : Nat) ≠ 3), fun _ => rfl⟩, trivial⟩⟩⟩ (fun ls hl => ?_)
      exact w88 N 0 _ _ _ _ _ _ hf hI (lv_sub hl [1, 0] rfl)
    · have hf := b_if_f hc hf
      refine lv_aload_n S.1 S.2.1 d_MD_fold_64 rfl (lv_at hl 0 rfl) ?_
      refine x_getI (ci := 1) (k := 7) S hK hI (fun w h => List.mem_cons_of_mem _ (i_MD w h)) rfl (by decide) (List.mem_cons_of_mem _ wd_574) rfl d_MD_fold_65 hf (fun v17 hf => ?_)
      exact hret _ _ _ _ _ _ _ _ d_MD_fold_68 hf hI
  refine lv_aload_n S.1 S.2.1 d_MD_fold_0 rfl (lv_at hl 0 rfl) ?_
  refine lv_iconst (v := 0) S.1 S.2.1 d_MD_fold_1 (by decide) ?_
  refine x_put (ci := 1) (k := 0) S hK hI (fun w h => List.mem_cons_of_mem _ (i_MD w h)) t_MD t_MD_ok n_MD rfl (by decide) (List.mem_cons_of_mem _ wd_559) rfl (Or.inl rfl) (by rfl) rfl d_MD_fold_2 hf (fun M H locs hf hI => ?_)
  refine lv_aload_n S.1 S.2.1 d_MD_fold_5 rfl (lv_at hl 0 rfl) ?_
  refine lv_iconst (v := 0) S.1 S.2.1 d_MD_fold_6 (by decide) ?_
  refine x_put (ci := 1) (k := 4) S hK hI (fun w h => List.mem_cons_of_mem _ (i_MD w h)) t_MD t_MD_ok n_MD rfl (by decide) (List.mem_cons_of_mem _ wd_561) rfl (Or.inl rfl) (by rfl) rfl d_MD_fold_7 hf (fun M H locs hf hI => ?_)
  refine lv_aload_n S.1 S.2.1 d_MD_fold_10 rfl (lv_at hl 0 rfl) ?_
  refine lv_iconst (v := 0) S.1 S.2.1 d_MD_fold_11 (by decide) ?_
  refine x_put (ci := 1) (k := 7) S hK hI (fun w h => List.mem_cons_of_mem _ (i_MD w h)) t_MD t_MD_ok n_MD rfl (by decide) (List.mem_cons_of_mem _ wd_574) rfl (Or.inl rfl) (by rfl) rfl d_MD_fold_12 hf (fun M H locs hf hI => ?_)
  refine lv_aload_n S.1 S.2.1 d_MD_fold_15 rfl (lv_at hl 0 rfl) ?_
  obtain ⟨⟨fs21, hefs21⟩, hf⟩ := b_is_inv hf
  obtain ⟨r18, N19, hg20, hf⟩ := b_call_inv hf
  refine x_call hI (hm_mo hg20) (va_runV (As := []) (rest := []) S (c_MD_next l hg20) (cwV 0 S.2.2.2.2 (gi_V wd_583 wd_584 wd_585 wd_564 wd_586) rfl rfl rfl (by decide +kernel) ⟨Nat.le_trans (Nat.le_of_ble_eq_true rfl) hRf.1, Nat.le_trans (Nat.le_of_ble_eq_true rfl) hRf.2⟩) ⟨hm_B.blind, va_recv hK (hI.1.one hefs21) (ci := 1) (q0 := 0) rfl rfl, fun U hU hW => ⟨rfl, hm_B.of hK hG hI hU hW⟩⟩ rfl rfl hl.1 rfl (lv_room (Nat.le_of_ble_eq_true rfl)) d_MD_fold_16 (hx_fit hI hR (hm_mo hg20) (hm_mo hf))) (fun H locs cells slots hI => ?_)
  refine W.eq (g2 := F0 m 19 ls []) rfl ?_
  refine lv_aload_n S.1 S.2.1 d_MD_fold_19 rfl (lv_at hl 0 rfl) ?_
  obtain ⟨⟨fs25, hefs25⟩, hf⟩ := b_is_inv hf
  obtain ⟨v22, N23, hg24, hf⟩ := b_call_inv hf
  refine x_call hI (hm_mo hg24) (va_runV (As := []) (rest := []) S (c_MD_takeName l hg24) (cwV 0 S.2.2.2.2 (gi_V wd_642 wd_643 wd_644 wd_564 wd_645) rfl rfl rfl (by decide +kernel) ⟨Nat.le_trans (Nat.le_of_ble_eq_true rfl) hRf.1, Nat.le_trans (Nat.le_of_ble_eq_true rfl) hRf.2⟩) ⟨hm_B.blind, va_recv hK (hI.1.one hefs25) (ci := 1) (q0 := 0) rfl rfl, fun U hU hW => ⟨rfl, hm_B.of hK hG hI hU hW⟩⟩ rfl rfl hl.1 rfl (lv_room (Nat.le_of_ble_eq_true rfl)) d_MD_fold_20 (hx_fit hI hR (hm_mo hg24) (hm_mo hf))) (fun H locs cells slots hI => ?_)
  refine W.eq (g2 := F0 m 23 ls [.int v22]) rfl ?_
  refine x_istore_n (lv2 := [(0, .ref h0)]) S d_MD_fold_23 rfl hl (by decide) [0] rfl ⟨⟨(by decide : (0 : Nat) ≠ 1), fun _ => rfl⟩, trivial⟩ (fun ls hl => ?_)
  refine lv_aload_n S.1 S.2.1 d_MD_fold_24 rfl (lv_at hl 1 rfl) ?_
  refine x_getI (ci := 1) (k := 45) S hK hI (fun w h => List.mem_cons_of_mem _ (i_MD w h)) rfl (by decide) (List.mem_cons_of_mem _ wd_637) rfl d_MD_fold_25 hf (fun v26 hf => ?_)
  refine x_istore_n (lv2 := [(1, .int v22), (0, .ref h0)]) S d_MD_fold_28 rfl hl (by decide) [0, 1] rfl ⟨⟨(by decide : (1 : Nat) ≠ 2), fun _ => rfl⟩, ⟨⟨(by decide : (0 : Nat) ≠ 2), fun h => absurd (show (0 : Nat) + 1 = 2 from h) (by decide)⟩, trivial⟩⟩ (fun ls hl => ?_)
  refine lv_aload_n S.1 S.2.1 d_MD_fold_29 rfl (lv_at hl 2 rfl) ?_
  obtain ⟨⟨fs30, hefs30⟩, hf⟩ := b_is_inv hf
  obtain ⟨v27, N28, hg29, hf⟩ := b_call_inv hf
  refine x_call hI (hm_mo hg29) (va_runV (As := []) (rest := []) S (c_MD_isWrong l hg29) (cwV 0 S.2.2.2.2 (gi_V wd_575 wd_576 wd_577 wd_564 wd_578) rfl rfl rfl (by decide +kernel) ⟨Nat.le_trans (Nat.le_of_ble_eq_true rfl) hRf.1, Nat.le_trans (Nat.le_of_ble_eq_true rfl) hRf.2⟩) ⟨hm_B.blind, va_recv hK (hI.1.one hefs30) (ci := 1) (q0 := 0) rfl rfl, fun U hU hW => ⟨rfl, hm_B.of hK hG hI hU hW⟩⟩ rfl rfl hl.1 rfl (lv_room (Nat.le_of_ble_eq_true rfl)) d_MD_fold_30 (hx_fit hI hR (hm_mo hg29) (hm_mo hf))) (fun H locs cells slots hI => ?_)
  refine W.eq (g2 := F0 m 33 ls [.int v27]) rfl ?_
  refine lv_if_ne (tgt := 52) S.1 S.2.1 d_MD_fold_33 (by decide) (fun hc => ?_) (fun hc => ?_)
  · have hf := b_if_f hc hf
    exact w52 v22 v26 _ _ _ _ _ _ hf hI (lv_sub hl [2, 1, 0] rfl)
  · have hf := b_if_t hc hf
    refine lv_aload_n S.1 S.2.1 d_MD_fold_36 rfl (lv_at hl 2 rfl) ?_
    refine x_getI (ci := 1) (k := 5) S hK hI (fun w h => List.mem_cons_of_mem _ (i_MD w h)) rfl (by decide) (List.mem_cons_of_mem _ wd_572) rfl d_MD_fold_37 hf (fun v31 hf => ?_)
    refine lv_iconst (v := (-1)) S.1 S.2.1 d_MD_fold_40 (by decide) ?_
    refine lv_icmp_eq (tgt := 52) S.1 S.2.1 d_MD_fold_41 (by decide) (fun hc => ?_) (fun hc => ?_)
    · have hf := b_if_t hc hf
      exact w52 v22 v26 _ _ _ _ _ _ hf hI (lv_sub hl [2, 1, 0] rfl)
    · have hf := b_if_f hc hf
      refine lv_aload_n S.1 S.2.1 d_MD_fold_44 rfl (lv_at hl 2 rfl) ?_
      refine lv_aload_n S.1 S.2.1 d_MD_fold_45 rfl (lv_at hl 2 rfl) ?_
      refine x_getI (ci := 1) (k := 3) S hK hI (fun w h => List.mem_cons_of_mem _ (i_MD w h)) rfl (by decide) (List.mem_cons_of_mem _ wd_560) rfl d_MD_fold_46 hf (fun v32 hf => ?_)
      obtain ⟨⟨fs36, hefs36⟩, hf⟩ := b_is_inv hf
      obtain ⟨r33, N34, hg35, hf⟩ := b_call_inv hf
      refine x_call hI (hm_mo hg35) (va_runV (As := [.int v32]) (rest := []) S (c_MD_fail l hg35) (cwV 1 S.2.2.2.2 (gi_V wd_579 wd_580 wd_581 wd_564 wd_582) rfl rfl rfl (by decide +kernel) ⟨Nat.le_trans (Nat.le_of_ble_eq_true rfl) hRf.1, Nat.le_trans (Nat.le_of_ble_eq_true rfl) hRf.2⟩) ⟨hm_B.blind, va_recv hK (hI.1.one hefs36) (ci := 1) (q0 := 0) rfl rfl, fun U hU hW => ⟨rfl, hm_B.of hK hG hI hU hW⟩⟩ rfl rfl hl.1 rfl (lv_room (Nat.le_of_ble_eq_true rfl)) d_MD_fold_49 (hx_fit hI hR (hm_mo hg35) (hm_mo hf))) (fun H locs cells slots hI => ?_)
      refine W.eq (g2 := F0 m 52 ls []) rfl ?_
      exact w52 v22 v26 _ _ _ _ _ _ hf hI (lv_sub hl [2, 1, 0] rfl)
set_option maxHeartbeats 4000000 in
set_option maxRecDepth 100000 in
theorem c_MD_at (l : Launch) {D : va_G} {dA : Nat → ClassId} {aK aV : Nat → Nat} {z : Nat} {N : Nat} {h0 : Nat} {p0 : Int32} {M : hM} {Z : Int32 × hM} (hf : (f_MD_at N h0 p0).1 M = some Z) : Met l y_MD_at w_MD_at ({ frames := 0, cells := Z.2.2.1 - M.2.1, slots := Z.2.2.2 - M.2.2, locals := 0 }) (va_Pc [.ref h0, .int p0] (hm_B D dA hCl (hTy dA) sT aK aV z M)) (hm_Q D dA hCl (hTy dA) sT aK aV z (some (.int Z.1)) Z.2) (Z.2.2.1 - M.2.1) (Z.2.2.2 - M.2.2) (fun q => z ≤ q) := by
  refine Met.ofW (cc := b_MD_at) (maxL := 2) (ret := (some .int)) (by decide) rfl ?_
  intro p e s m args below meth c s₁ B hml hv
  obtain ⟨hav, hB⟩ := hv
  have S : CallFix p m c b_MD_at 2 s args w_MD_at R_MD := ⟨B.exec, B.bytes, hml, findClass_of_methodNamed B.named, atoms_spec (ws := w_MD_at) B.pre⟩
  have hr : meth.sig.returnType = (some .int) := B.returns
  have hlocks := B.notSynchronized
  have hK := hB.2.2.1
  have hG := hB.2.2.2.2.2
  have hI := hm_I.start hB
  rw [← hB.2.1]
  generalize M.2.2 = k1 at hI ⊢
  refine W.eq (g2 := F0 m 0 ((lg_sl ([.ref h0, .int p0]) ++ List.replicate (2 - (lg_sl ([.ref h0, .int p0])).length) Slot.unset).toArray) []) (by rw [hav]; exact lg_entry_eq m ([.ref h0, .int p0]) 2) ?_
  have hl := lv_entry ([.ref h0, .int p0]) (n := 2) (Nat.le_of_ble_eq_true rfl)
  generalize (lg_sl ([.ref h0, .int p0]) ++ List.replicate (2 - (lg_sl ([.ref h0, .int p0])).length) Slot.unset).toArray = ls at hl ⊢
  simp only [lvA_nil, lvA_i, lvA_l, lvA_a, lvA_r, Nat.zero_add, Nat.reduceAdd] at hl
  have hret : ∀ (v : Int32) (M : hM) (H : Heap) (locs : List Loc) (cells slots : Nat) (ls : Array Slot) (pc : Nat), decode b_MD_at pc = .ok (.ireturn, 1) → (b_ret v).1 M = some Z → hm_I D dA hCl z k1 s M H locs cells slots → W p l e (headSpec w_MD_at { frames := 0, cells := Z.2.2.1 - s.heap.size, slots := Z.2.2.2 - k1, locals := 0 }).room s m args below meth c H locs cells slots (MQ below (hm_Q D dA hCl (hTy dA) sT aK aV z (some (.int Z.1)) Z.2) args s (Z.2.2.1 - s.heap.size) (Z.2.2.2 - k1) (fun q => z ≤ q)) (F0 m pc ls [.int v]) := fun v M H locs cells slots ls pc hdg hf hI => x_reti S hK hG hI hr hlocks hdg hf
  have hR : Z.2.2.1 - s.heap.size ≤ (headSpec w_MD_at { frames := 0, cells := Z.2.2.1 - s.heap.size, slots := Z.2.2.2 - k1, locals := 0 }).room.cells ∧ Z.2.2.2 - k1 ≤ (headSpec w_MD_at { frames := 0, cells := Z.2.2.1 - s.heap.size, slots := Z.2.2.2 - k1, locals := 0 }).room.slots := ⟨Nat.le_refl _, Nat.le_refl _⟩
  have hRf : 0 ≤ (headSpec w_MD_at { frames := 0, cells := Z.2.2.1 - s.heap.size, slots := Z.2.2.2 - k1, locals := 0 }).room.frames ∧ 0 ≤ (headSpec w_MD_at { frames := 0, cells := Z.2.2.1 - s.heap.size, slots := Z.2.2.2 - k1, locals := 0 }).room.locals := ⟨Nat.le_refl _, Nat.le_refl _⟩
  generalize (headSpec w_MD_at { frames := 0, cells := Z.2.2.1 - s.heap.size, slots := Z.2.2.2 - k1, locals := 0 }).room = R at hret hR hRf ⊢
  generalize (MQ below (hm_Q D dA hCl (hTy dA) sT aK aV z (some (.int Z.1)) Z.2) args s (Z.2.2.1 - s.heap.size) (Z.2.2.2 - k1) (fun q => z ≤ q)) = Q at hret ⊢
  rw [e_MD_at] at hf
  obtain ⟨J27, eJ27, hf⟩ := b_let_inv hf
  have w27 : ∀ (y0 : Int32) (M : hM) (H : Heap) (locs : List Loc) (ls : Array Slot) (cells slots : Nat), (J27 y0).1 M = some Z → hm_I D dA hCl z k1 s M H locs cells slots → lv_has ls 2 [] → W p l e R s m args below meth c H locs cells slots Q (F0 m 27 ls [.int y0]) := by
    intro y0 M H locs ls cells slots hf hI hl
    rw [eJ27] at hf
    exact hret _ _ _ _ _ _ _ _ d_MD_at_27 hf hI
  obtain ⟨J26, eJ26, hf⟩ := b_let_inv hf
  have w26 : ∀  (M : hM) (H : Heap) (locs : List Loc) (ls : Array Slot) (cells slots : Nat), (J26).1 M = some Z → hm_I D dA hCl z k1 s M H locs cells slots → lv_has ls 2 [] → W p l e R s m args below meth c H locs cells slots Q (F0 m 26 ls []) := by
    intro M H locs ls cells slots hf hI hl
    rw [eJ26] at hf
    refine lv_iconst (v := (-1)) S.1 S.2.1 d_MD_at_26 (by decide) ?_
    exact w27 (-1) _ _ _ _ _ _ hf hI (lv_sub hl [] rfl)
  refine lv_aload_n S.1 S.2.1 d_MD_at_0 rfl (lv_at hl 0 rfl) ?_
  refine lv_iconst (v := 0) S.1 S.2.1 d_MD_at_1 (by decide) ?_
  refine x_put (ci := 1) (k := 0) S hK hI (fun w h => List.mem_cons_of_mem _ (i_MD w h)) t_MD t_MD_ok n_MD rfl (by decide) (List.mem_cons_of_mem _ wd_559) rfl (Or.inl rfl) (by rfl) rfl d_MD_at_2 hf (fun M H locs hf hI => ?_)
  refine lv_iload_n S.1 S.2.1 d_MD_at_5 rfl (lv_at hl 1 rfl) ?_
  refine lv_if_lt (tgt := 26) S.1 S.2.1 d_MD_at_6 (by decide) (fun hc => ?_) (fun hc => ?_)
  · have hf := b_if_t hc hf
    exact w26  _ _ _ _ _ _ hf hI (lv_sub hl [] rfl)
  · have hf := b_if_f hc hf
    refine lv_iload_n S.1 S.2.1 d_MD_at_9 rfl (lv_at hl 1 rfl) ?_
    refine lv_aload_n S.1 S.2.1 d_MD_at_10 rfl (lv_at hl 0 rfl) ?_
    refine x_getI (ci := 1) (k := 43) S hK hI (fun w h => List.mem_cons_of_mem _ (i_MD w h)) rfl (by decide) (List.mem_cons_of_mem _ wd_754) rfl d_MD_at_11 hf (fun v1 hf => ?_)
    refine lv_icmp_ge (tgt := 26) S.1 S.2.1 d_MD_at_14 (by decide) (fun hc => ?_) (fun hc => ?_)
    · have hf := b_if_t hc hf
      exact w26  _ _ _ _ _ _ hf hI (lv_sub hl [] rfl)
    · have hf := b_if_f hc hf
      refine lv_aload_n S.1 S.2.1 d_MD_at_17 rfl (lv_at hl 0 rfl) ?_
      refine x_getR (ci := 1) (k := 44) S hK hI (fun w h => List.mem_cons_of_mem _ (i_MD w h)) rfl (by decide) (List.mem_cons_of_mem _ wd_557) rfl d_MD_at_18 hf (fun r2 hf => ?_)
      refine lv_iload_n S.1 S.2.1 d_MD_at_21 rfl (lv_at hl 1 rfl) ?_
      obtain ⟨a3, ea3, hg⟩ := b_nn_inv hf
      have hI0 := hI
      have hl0 := hl
      clear hf hI hl
      subst ea3
      have hf := hg
      have hI := hI0
      have hl := hl0
      clear hg hI0 hl0
      refine x_bald (t := 6) S hK hI rfl d_MD_at_22 hf (fun v4 hf => ?_)
      refine lv_goto (tgt := 27) S.1 S.2.1 d_MD_at_23 (by decide) ?_
      exact w27 v4 _ _ _ _ _ _ hf hI (lv_sub hl [] rfl)
