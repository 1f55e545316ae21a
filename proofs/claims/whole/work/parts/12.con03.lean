set_option maxHeartbeats 4000000 in
set_option maxRecDepth 100000 in
theorem c_Reader_takeRanged (l : Launch) {D : va_G} {dA : Nat → ClassId} {aK aV : Nat → Nat} {z : Nat} {N : Nat} {h0 : Nat} {p0 : Int32} {M : hM} {Z : Int32 × hM} (hf : (f_Reader_takeRanged N h0 p0).1 M = some Z) : Met l y_Reader_takeRanged w_Reader_takeRanged ({ frames := 3, cells := Z.2.2.1 - M.2.1, slots := Z.2.2.2 - M.2.2, locals := 75 }) (va_Pc [.ref h0, .int p0] (hm_B D dA hCl (hTy dA) sT aK aV z M)) (hm_Q D dA hCl (hTy dA) sT aK aV z (some (.int Z.1)) Z.2) (Z.2.2.1 - M.2.1) (Z.2.2.2 - M.2.2) (fun q => z ≤ q) := by
  refine Met.ofW (cc := b_Reader_takeRanged) (maxL := 5) (ret := (some .boolean)) (by decide) rfl ?_
  intro p e s m args below meth c s₁ B hml hv
  obtain ⟨hav, hB⟩ := hv
  have S : CallFix p m c b_Reader_takeRanged 5 s args w_Reader_takeRanged R_Reader := ⟨B.exec, B.bytes, hml, findClass_of_methodNamed B.named, atoms_spec (ws := w_Reader_takeRanged) B.pre⟩
  have hr : meth.sig.returnType = (some .boolean) := B.returns
  have hlocks := B.notSynchronized
  have hK := hB.2.2.1
  have hG := hB.2.2.2.2.2
  have hI := hm_I.start hB
  rw [← hB.2.1]
  generalize M.2.2 = k1 at hI ⊢
  refine W.eq (g2 := F0 m 0 ((lg_sl ([.ref h0, .int p0]) ++ List.replicate (5 - (lg_sl ([.ref h0, .int p0])).length) Slot.unset).toArray) []) (by rw [hav]; exact lg_entry_eq m ([.ref h0, .int p0]) 5) ?_
  have hl := lv_entry ([.ref h0, .int p0]) (n := 5) (Nat.le_of_ble_eq_true rfl)
  generalize (lg_sl ([.ref h0, .int p0]) ++ List.replicate (5 - (lg_sl ([.ref h0, .int p0])).length) Slot.unset).toArray = ls at hl ⊢
  simp only [lvA_nil, lvA_i, lvA_l, lvA_a, lvA_r, Nat.zero_add, Nat.reduceAdd] at hl
  have hret : ∀ (v : Int32) (M : hM) (H : Heap) (locs : List Loc) (cells slots : Nat) (ls : Array Slot) (pc : Nat), decode b_Reader_takeRanged pc = .ok (.ireturn, 1) → (b_retN .boolean v).1 M = some Z → hm_I D dA hCl z k1 s M H locs cells slots → W p l e (headSpec w_Reader_takeRanged { frames := 3, cells := Z.2.2.1 - s.heap.size, slots := Z.2.2.2 - k1, locals := 75 }).room s m args below meth c H locs cells slots (MQ below (hm_Q D dA hCl (hTy dA) sT aK aV z (some (.int Z.1)) Z.2) args s (Z.2.2.1 - s.heap.size) (Z.2.2.2 - k1) (fun q => z ≤ q)) (F0 m pc ls [.int v]) := fun v M H locs cells slots ls pc hdg hf hI => x_retn S hK hG hI hr hlocks hdg hf
  have hR : Z.2.2.1 - s.heap.size ≤ (headSpec w_Reader_takeRanged { frames := 3, cells := Z.2.2.1 - s.heap.size, slots := Z.2.2.2 - k1, locals := 75 }).room.cells ∧ Z.2.2.2 - k1 ≤ (headSpec w_Reader_takeRanged { frames := 3, cells := Z.2.2.1 - s.heap.size, slots := Z.2.2.2 - k1, locals := 75 }).room.slots := ⟨Nat.le_refl _, Nat.le_refl _⟩
  have hRf : 3 ≤ (headSpec w_Reader_takeRanged { frames := 3, cells := Z.2.2.1 - s.heap.size, slots := Z.2.2.2 - k1, locals := 75 }).room.frames ∧ 75 ≤ (headSpec w_Reader_takeRanged { frames := 3, cells := Z.2.2.1 - s.heap.size, slots := Z.2.2.2 - k1, locals := 75 }).room.locals := ⟨Nat.le_refl _, Nat.le_refl _⟩
  generalize (headSpec w_Reader_takeRanged { frames := 3, cells := Z.2.2.1 - s.heap.size, slots := Z.2.2.2 - k1, locals := 75 }).room = R at hret hR hRf ⊢
  generalize (MQ below (hm_Q D dA hCl (hTy dA) sT aK aV z (some (.int Z.1)) Z.2) args s (Z.2.2.1 - s.heap.size) (Z.2.2.2 - k1) (fun q => z ≤ q)) = Q at hret ⊢
  rw [e_Reader_takeRanged] at hf
  obtain ⟨J11, eJ11, hf⟩ := b_let_inv hf
  have w11 : ∀ (y0 : Int32) (M : hM) (H : Heap) (locs : List Loc) (ls : Array Slot) (cells slots : Nat), (J11 y0).1 M = some Z → hm_I D dA hCl z k1 s M H locs cells slots → lv_has ls 5 [(0, .ref h0), (1, .int p0)] → W p l e R s m args below meth c H locs cells slots Q (F0 m 11 ls [.int y0]) := by
    intro y0 M H locs ls cells slots hf hI hl
    rw [eJ11] at hf
    obtain ⟨J26, eJ26, hf⟩ := b_let_inv hf
    have w26 : ∀ (x2 : Int32) (M : hM) (H : Heap) (locs : List Loc) (ls : Array Slot) (cells slots : Nat), (J26 x2).1 M = some Z → hm_I D dA hCl z k1 s M H locs cells slots → lv_has ls 5 [(0, .ref h0), (1, .int p0), (2, .int x2)] → W p l e R s m args below meth c H locs cells slots Q (F0 m 26 ls []) := by
      intro x2 M H locs ls cells slots hf hI hl
      rw [eJ26] at hf
      have w28 : ∀ (n : Nat) (x2 : Int32) (x3 : Int32) (M : hM) (H : Heap) (locs : List Loc) (ls : Array Slot) (cells slots : Nat), (f_Reader_takeRanged_28 N h0 p0  n x2 x3).1 M = some Z → hm_I D dA hCl z k1 s M H locs cells slots → lv_has ls 5 [(0, .ref h0), (1, .int p0), (2, .int x2), (3, .int x3)] → W p l e R s m args below meth c H locs cells slots Q (F0 m 28 ls []) := by
        intro n
        induction n with
        | zero => intro x2 x3 M H locs ls cells slots hf hI hl; cases hf
        | succ n28 ih28 =>
          intro x2 x3 M H locs ls cells slots hf hI hl
          rw [e_Reader_takeRanged_28] at hf
          obtain ⟨J137, eJ137, hf⟩ := b_let_inv hf
          have w137 : ∀ (y0 : Int32) (M : hM) (H : Heap) (locs : List Loc) (ls : Array Slot) (cells slots : Nat), (J137 y0).1 M = some Z → hm_I D dA hCl z k1 s M H locs cells slots → lv_has ls 5 [] → W p l e R s m args below meth c H locs cells slots Q (F0 m 137 ls [.int y0]) := by
            intro y0 M H locs ls cells slots hf hI hl
            rw [eJ137] at hf
            exact hret _ _ _ _ _ _ _ _ d_Reader_takeRanged_137 hf hI
          obtain ⟨J132, eJ132, hf⟩ := b_let_inv hf
          have w132 : ∀  (M : hM) (H : Heap) (locs : List Loc) (ls : Array Slot) (cells slots : Nat), (J132).1 M = some Z → hm_I D dA hCl z k1 s M H locs cells slots → lv_has ls 5 [] → W p l e R s m args below meth c H locs cells slots Q (F0 m 132 ls []) := by
            intro M H locs ls cells slots hf hI hl
            rw [eJ132] at hf
            refine lv_iconst (v := 1) S.1 S.2.1 d_Reader_takeRanged_132 (by decide) ?_
            refine lv_goto (tgt := 137) S.1 S.2.1 d_Reader_takeRanged_133 (by decide) ?_
            exact w137 1 _ _ _ _ _ _ hf hI (lv_sub hl [] rfl)
          refine lv_iload_n S.1 S.2.1 d_Reader_takeRanged_28 rfl (lv_at hl 3 rfl) ?_
          refine lv_sipush (v := 200) S.1 S.2.1 d_Reader_takeRanged_29 (by decide) ?_
          refine lv_icmp_gt (tgt := 144) S.1 S.2.1 d_Reader_takeRanged_32 (by decide) (fun hc => ?_) (fun hc => ?_)
          · have hf := b_if_t hc hf
            refine lv_iconst (v := 0) S.1 S.2.1 d_Reader_takeRanged_144 (by decide) ?_
            exact hret _ _ _ _ _ _ _ _ d_Reader_takeRanged_145 hf hI
          · have hf := b_if_f hc hf
            refine lv_aload_n S.1 S.2.1 d_Reader_takeRanged_35 rfl (lv_at hl 0 rfl) ?_
            refine x_getR (ci := 6) (k := 0) S hK hI (fun w h => List.mem_cons_of_mem _ (i_Reader w h)) rfl (by decide) (List.mem_cons_of_mem _ wd_15) rfl d_Reader_takeRanged_36 hf (fun r1 hf => ?_)
            obtain ⟨a2, ea2, hg⟩ := b_nn_inv hf
            have hI0 := hI
            have hl0 := hl
            clear hf hI hl
            subst ea2
            have hf := hg
            have hI := hI0
            have hl := hl0
            clear hg hI0 hl0
            obtain ⟨⟨fs6, hefs6⟩, hf⟩ := b_is_inv hf
            obtain ⟨v3, N4, hg5, hf⟩ := b_call_inv hf
            refine x_call hI (hm_mo hg5) (va_runV (As := []) (rest := []) S (c_Scan_takeName l hg5) (cwV 0 S.2.2.2.2 (gi_V wd_116 wd_117 wd_118 wd_9 wd_119) rfl rfl rfl (by decide +kernel) ⟨Nat.le_trans (Nat.le_of_ble_eq_true rfl) hRf.1, Nat.le_trans (Nat.le_of_ble_eq_true rfl) hRf.2⟩) ⟨hm_B.blind, va_recv hK (hI.1.one hefs6) (ci := 8) (q0 := 0) rfl rfl, fun U hU hW => ⟨rfl, hm_B.of hK hG hI hU hW⟩⟩ rfl rfl hl.1 rfl (lv_room (Nat.le_of_ble_eq_true rfl)) d_Reader_takeRanged_39 (hx_fit hI hR (hm_mo hg5) (hm_mo hf))) (fun H locs cells slots hI => ?_)
            refine W.eq (g2 := F0 m 42 ls [.int v3]) rfl ?_
            refine lv_if_ne (tgt := 47) S.1 S.2.1 d_Reader_takeRanged_42 (by decide) (fun hc => ?_) (fun hc => ?_)
            · have hf := b_if_f hc hf
              refine lv_aload_n S.1 S.2.1 d_Reader_takeRanged_47 rfl (lv_at hl 0 rfl) ?_
              refine x_getR (ci := 6) (k := 0) S hK hI (fun w h => List.mem_cons_of_mem _ (i_Reader w h)) rfl (by decide) (List.mem_cons_of_mem _ wd_15) rfl d_Reader_takeRanged_48 hf (fun r7 hf => ?_)
              obtain ⟨a8, ea8, hg⟩ := b_nn_inv hf
              have hI0 := hI
              have hl0 := hl
              clear hf hI hl
              subst ea8
              have hf := hg
              have hI := hI0
              have hl := hl0
              clear hg hI0 hl0
              obtain ⟨⟨fs12, hefs12⟩, hf⟩ := b_is_inv hf
              obtain ⟨r9, N10, hg11, hf⟩ := b_call_inv hf
              refine x_call hI (hm_mo hg11) (va_runV (As := []) (rest := []) S (c_Scan_takenName l hg11) (cwV 0 S.2.2.2.2 (gi_V wd_131 wd_132 wd_133 wd_9 wd_134) rfl rfl rfl (by decide +kernel) ⟨Nat.le_trans (Nat.le_of_ble_eq_true rfl) hRf.1, Nat.le_trans (Nat.le_of_ble_eq_true rfl) hRf.2⟩) ⟨hm_B.blind, va_recv hK (hI.1.one hefs12) (ci := 8) (q0 := 0) rfl rfl, fun U hU hW => ⟨rfl, hm_B.of hK hG hI hU hW⟩⟩ rfl rfl hl.1 rfl (lv_room (Nat.le_of_ble_eq_true rfl)) d_Reader_takeRanged_51 (hx_fit hI hR (hm_mo hg11) (hm_mo hf))) (fun H locs cells slots hI => ?_)
              refine W.eq (g2 := F0 m 54 ls [va_rf r9]) rfl ?_
              refine x_astore (r := r9) (lv2 := [(0, .ref h0), (1, .int p0), (2, .int x2), (3, .int x3)]) S d_Reader_takeRanged_54 hl (by decide) [0, 1, 2, 3] rfl ⟨⟨(by decide : (0 : Nat) ≠ 4), fun h => absurd (show (0 : Nat) + 1 = 4 from h) (by decide)⟩, ⟨⟨(by decide : (1 : Nat) ≠ 4), fun h => absurd (show (1 : Nat) + 1 = 4 from h) (by decide)⟩, ⟨⟨(by decide : (2 : Nat) ≠ 4), fun h => absurd (show (2 : Nat) + 1 = 4 from h) (by decide)⟩, ⟨⟨(by decide : (3 : Nat) ≠ 4), fun _ => rfl⟩, trivial⟩⟩⟩⟩ (fun ls hl => ?_)
              refine lv_aload_n S.1 S.2.1 d_Reader_takeRanged_56 rfl (lv_at hl 1 rfl) ?_
              refine x_getR (ci := 6) (k := 0) S hK hI (fun w h => List.mem_cons_of_mem _ (i_Reader w h)) rfl (by decide) (List.mem_cons_of_mem _ wd_15) rfl d_Reader_takeRanged_57 hf (fun r13 hf => ?_)
              obtain ⟨a14, ea14, hg⟩ := b_nn_inv hf
              have hI0 := hI
              have hl0 := hl
              clear hf hI hl
              subst ea14
              have hf := hg
              have hI := hI0
              have hl := hl0
              clear hg hI0 hl0
              obtain ⟨⟨fs18, hefs18⟩, hf⟩ := b_is_inv hf
              obtain ⟨v15, N16, hg17, hf⟩ := b_call_inv hf
              refine x_call hI (hm_mo hg17) (va_runV (As := []) (rest := []) S (c_Scan_takeRange l hg17) (cwV 0 S.2.2.2.2 (gi_V wd_220 wd_221 wd_222 wd_9 wd_223) rfl rfl rfl (by decide +kernel) ⟨Nat.le_trans (Nat.le_of_ble_eq_true rfl) hRf.1, Nat.le_trans (Nat.le_of_ble_eq_true rfl) hRf.2⟩) ⟨hm_B.blind, va_recv hK (hI.1.one hefs18) (ci := 8) (q0 := 0) rfl rfl, fun U hU hW => ⟨rfl, hm_B.of hK hG hI hU hW⟩⟩ rfl rfl hl.1 rfl (lv_room (Nat.le_of_ble_eq_true rfl)) d_Reader_takeRanged_60 (hx_fit hI hR (hm_mo hg17) (hm_mo hf))) (fun H locs cells slots hI => ?_)
              refine W.eq (g2 := F0 m 63 ls [.int v15]) rfl ?_
              refine lv_if_eq (tgt := 91) S.1 S.2.1 d_Reader_takeRanged_63 (by decide) (fun hc => ?_) (fun hc => ?_)
              · have hf := b_if_t hc hf
                refine lv_iconst (v := 0) S.1 S.2.1 d_Reader_takeRanged_91 (by decide) ?_
                exact hret _ _ _ _ _ _ _ _ d_Reader_takeRanged_92 hf hI
              · have hf := b_if_f hc hf
                refine lv_aload_n S.1 S.2.1 d_Reader_takeRanged_66 rfl (lv_at hl 1 rfl) ?_
                refine lv_iload_n S.1 S.2.1 d_Reader_takeRanged_67 rfl (lv_at hl 2 rfl) ?_
                refine x_aload (r := r9) S d_Reader_takeRanged_68 (lv_at hl 0 rfl) ?_
                refine lv_null S.1 S.2.1 d_Reader_takeRanged_70 ?_
                refine lv_aload_n S.1 S.2.1 d_Reader_takeRanged_71 rfl (lv_at hl 1 rfl) ?_
                refine x_getR (ci := 6) (k := 0) S hK hI (fun w h => List.mem_cons_of_mem _ (i_Reader w h)) rfl (by decide) (List.mem_cons_of_mem _ wd_15) rfl d_Reader_takeRanged_72 hf (fun r19 hf => ?_)
                obtain ⟨a20, ea20, hg⟩ := b_nn_inv hf
                have hI0 := hI
                have hl0 := hl
                clear hf hI hl
                subst ea20
                have hf := hg
                have hI := hI0
                have hl := hl0
                clear hg hI0 hl0
                refine x_getL (ci := 8) (k := 7) S hK hI (fun w h => List.mem_cons_of_mem _ (i_Scan w h)) rfl (by decide) (List.mem_cons_of_mem _ wd_224) rfl d_Reader_takeRanged_75 hf (fun v21 hf => ?_)
                refine lv_aload_n S.1 S.2.1 d_Reader_takeRanged_78 rfl (lv_at hl 1 rfl) ?_
                refine x_getR (ci := 6) (k := 0) S hK hI (fun w h => List.mem_cons_of_mem _ (i_Reader w h)) rfl (by decide) (List.mem_cons_of_mem _ wd_15) rfl d_Reader_takeRanged_79 hf (fun r22 hf => ?_)
                obtain ⟨a23, ea23, hg⟩ := b_nn_inv hf
                have hI0 := hI
                have hl0 := hl
                clear hf hI hl
                subst ea23
                have hf := hg
                have hI := hI0
                have hl := hl0
                clear hg hI0 hl0
                refine x_getL (ci := 8) (k := 8) S hK hI (fun w h => List.mem_cons_of_mem _ (i_Scan w h)) rfl (by decide) (List.mem_cons_of_mem _ wd_225) rfl d_Reader_takeRanged_82 hf (fun v24 hf => ?_)
                obtain ⟨⟨fs28, hefs28⟩, hf⟩ := b_is_inv hf
                obtain ⟨v25, N26, hg27, hf⟩ := b_call_inv hf
                refine x_call hI (hm_mo hg27) (va_runV (As := [.int p0, va_rf r9, .null, .long v21, .long v24]) (rest := []) S (c_Reader_addRow l hg27) (cwV 5 S.2.2.2.2 (gi_V wd_162 wd_163 wd_164 wd_5 wd_165) rfl rfl rfl (by decide +kernel) ⟨Nat.le_trans (Nat.le_of_ble_eq_true rfl) hRf.1, Nat.le_trans (Nat.le_of_ble_eq_true rfl) hRf.2⟩) ⟨hm_B.blind, va_recv hK (hI.1.one hefs28) (ci := 6) (q0 := 0) rfl rfl, fun U hU hW => ⟨rfl, hm_B.of hK hG hI hU hW⟩⟩ rfl rfl hl.1 rfl (lv_room (Nat.le_of_ble_eq_true rfl)) d_Reader_takeRanged_85 (hx_fit hI hR (hm_mo hg27) (hm_mo hf))) (fun H locs cells slots hI => ?_)
                refine W.eq (g2 := F0 m 88 ls [.int v25]) rfl ?_
                refine lv_if_ne (tgt := 93) S.1 S.2.1 d_Reader_takeRanged_88 (by decide) (fun hc => ?_) (fun hc => ?_)
                · have hf := b_if_f hc hf
                  refine lv_iload_n S.1 S.2.1 d_Reader_takeRanged_93 rfl (lv_at hl 3 rfl) ?_
                  refine lv_if_ne (tgt := 99) S.1 S.2.1 d_Reader_takeRanged_94 (by decide) (fun hc => ?_) (fun hc => ?_)
                  · have hf := b_if_f hc hf
                    refine lv_aload_n S.1 S.2.1 d_Reader_takeRanged_99 rfl (lv_at hl 1 rfl) ?_
                    refine x_getR (ci := 6) (k := 0) S hK hI (fun w h => List.mem_cons_of_mem _ (i_Reader w h)) rfl (by decide) (List.mem_cons_of_mem _ wd_15) rfl d_Reader_takeRanged_100 hf (fun r29 hf => ?_)
                    refine lv_bipush (v := 124) S.1 S.2.1 d_Reader_takeRanged_103 (by decide) ?_
                    obtain ⟨a30, ea30, hg⟩ := b_nn_inv hf
                    have hI0 := hI
                    have hl0 := hl
                    clear hf hI hl
                    subst ea30
                    have hf := hg
                    have hI := hI0
                    have hl := hl0
                    clear hg hI0 hl0
                    obtain ⟨⟨fs34, hefs34⟩, hf⟩ := b_is_inv hf
                    obtain ⟨v31, N32, hg33, hf⟩ := b_call_inv hf
                    refine x_call hI (hm_mo hg33) (va_runV (As := [.int 124]) (rest := []) S (c_Scan_takeIfNext l hg33) (cwV 1 S.2.2.2.2 (gi_V wd_183 wd_171 wd_172 wd_9 wd_173) rfl rfl rfl (by decide +kernel) ⟨Nat.le_trans (Nat.le_of_ble_eq_true rfl) hRf.1, Nat.le_trans (Nat.le_of_ble_eq_true rfl) hRf.2⟩) ⟨hm_B.blind, va_recv hK (hI.1.one hefs34) (ci := 8) (q0 := 0) rfl rfl, fun U hU hW => ⟨rfl, hm_B.of hK hG hI hU hW⟩⟩ rfl rfl hl.1 rfl (lv_room (Nat.le_of_ble_eq_true rfl)) d_Reader_takeRanged_105 (hx_fit hI hR (hm_mo hg33) (hm_mo hf))) (fun H locs cells slots hI => ?_)
                    refine W.eq (g2 := F0 m 108 ls [.int v31]) rfl ?_
                    refine lv_if_ne (tgt := 138) S.1 S.2.1 d_Reader_takeRanged_108 (by decide) (fun hc => ?_) (fun hc => ?_)
                    · have hf := b_if_f hc hf
                      refine x_iinc (v := 1) (lv2 := [(4, va_rf r9), (0, .ref h0), (1, .int p0), (2, .int x2)]) S d_Reader_takeRanged_138 hl 4 rfl (by decide) (by decide) [0, 1, 2, 3] rfl ⟨⟨(by decide : (4 : Nat) ≠ 3), fun h => absurd (show (4 : Nat) + 1 = 3 from h) (by decide)⟩, ⟨⟨(by decide : (0 : Nat) ≠ 3), fun h => absurd (show (0 : Nat) + 1 = 3 from h) (by decide)⟩, ⟨⟨(by decide : (1 : Nat) ≠ 3), fun h => absurd (show (1 : Nat) + 1 = 3 from h) (by decide)⟩, ⟨⟨(by decide : (2 : Nat) ≠ 3), fun _ => rfl⟩, trivial⟩⟩⟩⟩ (fun ls hl => ?_)
                      refine lv_goto (tgt := 28) S.1 S.2.1 d_Reader_takeRanged_141 (by decide) ?_
                      exact ih28 x2 (x3 + 1) _ _ _ _ _ _ hf hI (lv_sub hl [2, 3, 4, 0] rfl)
                    · have hf := b_if_t hc hf
                      refine lv_iload_n S.1 S.2.1 d_Reader_takeRanged_111 rfl (lv_at hl 4 rfl) ?_
                      refine lv_if_gt (tgt := 132) S.1 S.2.1 d_Reader_takeRanged_112 (by decide) (fun hc => ?_) (fun hc => ?_)
                      · have hf := b_if_t hc hf
                        exact w132  _ _ _ _ _ _ hf hI (lv_sub hl [] rfl)
                      · have hf := b_if_f hc hf
                        refine lv_aload_n S.1 S.2.1 d_Reader_takeRanged_115 rfl (lv_at hl 1 rfl) ?_
                        refine x_getR (ci := 6) (k := 0) S hK hI (fun w h => List.mem_cons_of_mem _ (i_Reader w h)) rfl (by decide) (List.mem_cons_of_mem _ wd_15) rfl d_Reader_takeRanged_116 hf (fun r35 hf => ?_)
                        refine lv_aload_n S.1 S.2.1 d_Reader_takeRanged_119 rfl (lv_at hl 1 rfl) ?_
                        refine x_getR (ci := 6) (k := 0) S hK hI (fun w h => List.mem_cons_of_mem _ (i_Reader w h)) rfl (by decide) (List.mem_cons_of_mem _ wd_15) rfl d_Reader_takeRanged_120 hf (fun r36 hf => ?_)
                        obtain ⟨a37, ea37, hg⟩ := b_nn_inv hf
                        have hI0 := hI
                        have hl0 := hl
                        clear hf hI hl
                        subst ea37
                        have hf := hg
                        have hI := hI0
                        have hl := hl0
                        clear hg hI0 hl0
                        refine x_getI (ci := 8) (k := 2) S hK hI (fun w h => List.mem_cons_of_mem _ (i_Scan w h)) rfl (by decide) (List.mem_cons_of_mem _ wd_226) rfl d_Reader_takeRanged_123 hf (fun v38 hf => ?_)
                        obtain ⟨a39, ea39, hg⟩ := b_nn_inv hf
                        have hI0 := hI
                        have hl0 := hl
                        clear hf hI hl
                        subst ea39
                        have hf := hg
                        have hI := hI0
                        have hl := hl0
                        clear hg hI0 hl0
                        obtain ⟨⟨fs43, hefs43⟩, hf⟩ := b_is_inv hf
                        obtain ⟨v40, N41, hg42, hf⟩ := b_call_inv hf
                        refine x_call hI (hm_mo hg42) (va_runV (As := [.int v38]) (rest := []) S (c_Scan_refuse l hg42) (cwV 1 S.2.2.2.2 (gi_V wd_81 wd_82 wd_83 wd_9 wd_84) rfl rfl rfl (by decide +kernel) ⟨Nat.le_trans (Nat.le_of_ble_eq_true rfl) hRf.1, Nat.le_trans (Nat.le_of_ble_eq_true rfl) hRf.2⟩) ⟨hm_B.blind, va_recv hK (hI.1.one hefs43) (ci := 8) (q0 := 0) rfl rfl, fun U hU hW => ⟨rfl, hm_B.of hK hG hI hU hW⟩⟩ rfl rfl hl.1 rfl (lv_room (Nat.le_of_ble_eq_true rfl)) d_Reader_takeRanged_126 (hx_fit hI hR (hm_mo hg42) (hm_mo hf))) (fun H locs cells slots hI => ?_)
                        refine W.eq (g2 := F0 m 129 ls [.int v40]) rfl ?_
                        refine lv_if_eq (tgt := 136) S.1 S.2.1 d_Reader_takeRanged_129 (by decide) (fun hc => ?_) (fun hc => ?_)
                        · have hf := b_if_t hc hf
                          refine lv_iconst (v := 0) S.1 S.2.1 d_Reader_takeRanged_136 (by decide) ?_
                          exact w137 0 _ _ _ _ _ _ hf hI (lv_sub hl [] rfl)
                        · have hf := b_if_f hc hf
                          exact w132  _ _ _ _ _ _ hf hI (lv_sub hl [] rfl)
                  · have hf := b_if_t hc hf
                    refine lv_iconst (v := 1) S.1 S.2.1 d_Reader_takeRanged_97 (by decide) ?_
                    exact hret _ _ _ _ _ _ _ _ d_Reader_takeRanged_98 hf hI
                · have hf := b_if_t hc hf
                  refine lv_iconst (v := 0) S.1 S.2.1 d_Reader_takeRanged_91 (by decide) ?_
                  exact hret _ _ _ _ _ _ _ _ d_Reader_takeRanged_92 hf hI
            · have hf := b_if_t hc hf
              refine lv_iconst (v := 0) S.1 S.2.1 d_Reader_takeRanged_45 (by decide) ?_
              exact hret _ _ _ _ _ _ _ _ d_Reader_takeRanged_46 hf hI
      refine lv_iconst (v := 0) S.1 S.2.1 d_Reader_takeRanged_26 (by decide) ?_
      refine x_istore_n (lv2 := [(0, .ref h0), (1, .int p0), (2, .int x2)]) S d_Reader_takeRanged_27 rfl hl (by decide) [0, 1, 2] rfl ⟨⟨(by decide : (0 : Nat) ≠ 3), fun h => absurd (show (0 : Nat) + 1 = 3 from h) (by decide)⟩, ⟨⟨(by decide : (1 : Nat) ≠ 3), fun h => absurd (show (1 : Nat) + 1 = 3 from h) (by decide)⟩, ⟨⟨(by decide : (2 : Nat) ≠ 3), fun _ => rfl⟩, trivial⟩⟩⟩ (fun ls hl => ?_)
      exact w28 N x2 0 _ _ _ _ _ _ hf hI (lv_sub hl [1, 2, 3, 0] rfl)
    refine x_istore_n (lv2 := [(0, .ref h0), (1, .int p0)]) S d_Reader_takeRanged_11 rfl hl (by decide) [0, 1] rfl ⟨⟨(by decide : (0 : Nat) ≠ 2), fun h => absurd (show (0 : Nat) + 1 = 2 from h) (by decide)⟩, ⟨⟨(by decide : (1 : Nat) ≠ 2), fun _ => rfl⟩, trivial⟩⟩ (fun ls hl => ?_)
    refine lv_iload_n S.1 S.2.1 d_Reader_takeRanged_12 rfl (lv_at hl 0 rfl) ?_
    refine lv_if_eq (tgt := 26) S.1 S.2.1 d_Reader_takeRanged_13 (by decide) (fun hc => ?_) (fun hc => ?_)
    · have hf := b_if_t hc hf
      exact w26 y0 _ _ _ _ _ _ hf hI (lv_sub hl [1, 2, 0] rfl)
    · have hf := b_if_f hc hf
      refine lv_aload_n S.1 S.2.1 d_Reader_takeRanged_16 rfl (lv_at hl 1 rfl) ?_
      refine lv_dup S.1 S.2.1 d_Reader_takeRanged_17 rfl ?_
      refine x_getI (ci := 6) (k := 9) S hK hI (fun w h => List.mem_cons_of_mem _ (i_Reader w h)) rfl (by decide) (List.mem_cons_of_mem _ wd_161) rfl d_Reader_takeRanged_18 hf (fun v44 hf => ?_)
      refine lv_iconst (v := 1) S.1 S.2.1 d_Reader_takeRanged_21 (by decide) ?_
      refine lv_iadd S.1 S.2.1 d_Reader_takeRanged_22 ?_
      refine x_put (ci := 6) (k := 9) S hK hI (fun w h => List.mem_cons_of_mem _ (i_Reader w h)) t_Reader t_Reader_ok n_Reader rfl (by decide) (List.mem_cons_of_mem _ wd_161) rfl (Or.inl rfl) (by rfl) rfl d_Reader_takeRanged_23 hf (fun M H locs hf hI => ?_)
      exact w26 y0 _ _ _ _ _ _ hf hI (lv_sub hl [1, 2, 0] rfl)
  refine lv_iload_n S.1 S.2.1 d_Reader_takeRanged_0 rfl (lv_at hl 1 rfl) ?_
  refine lv_bipush (v := 8) S.1 S.2.1 d_Reader_takeRanged_1 (by decide) ?_
  refine lv_icmp_ne (tgt := 10) S.1 S.2.1 d_Reader_takeRanged_3 (by decide) (fun hc => ?_) (fun hc => ?_)
  · have hf := b_if_f hc hf
    refine lv_iconst (v := 0) S.1 S.2.1 d_Reader_takeRanged_10 (by decide) ?_
    exact w11 0 _ _ _ _ _ _ hf hI (lv_sub hl [0, 1] rfl)
  · have hf := b_if_t hc hf
    refine lv_iconst (v := 1) S.1 S.2.1 d_Reader_takeRanged_6 (by decide) ?_
    refine lv_goto (tgt := 11) S.1 S.2.1 d_Reader_takeRanged_7 (by decide) ?_
    exact w11 1 _ _ _ _ _ _ hf hI (lv_sub hl [0, 1] rfl)
set_option maxHeartbeats 4000000 in
set_option maxRecDepth 100000 in
theorem c_Kind_firstWord (l : Launch) {D : va_G} {dA : Nat → ClassId} {aK aV : Nat → Nat} {z : Nat} {N : Nat} {p0 : Int32} {M : hM} {Z : Option Nat × hM} (hf : (f_Kind_firstWord N p0).1 M = some Z) : Met l y_Kind_firstWord w_Kind_firstWord ({ frames := 0, cells := Z.2.2.1 - M.2.1, slots := Z.2.2.2 - M.2.2, locals := 0 }) (va_Pc [.int p0] (hm_B D dA hCl (hTy dA) sT aK aV z M)) (hm_Q D dA hCl (hTy dA) sT aK aV z (some (va_rf (Option.map aK Z.1))) Z.2) (Z.2.2.1 - M.2.1) (Z.2.2.2 - M.2.2) (fun q => z ≤ q) := by
  refine Met.ofW (cc := b_Kind_firstWord) (maxL := 1) (ret := (some (.object "java/lang/String"))) (by decide) rfl ?_
  intro p e s m args below meth c s₁ B hml hv
  obtain ⟨hav, hB⟩ := hv
  have S : CallFix p m c b_Kind_firstWord 1 s args w_Kind_firstWord R_Kind := ⟨B.exec, B.bytes, hml, findClass_of_methodNamed B.named, atoms_spec (ws := w_Kind_firstWord) B.pre⟩
  have hr : meth.sig.returnType = (some (.object "java/lang/String")) := B.returns
  have hlocks := B.notSynchronized
  have hK := hB.2.2.1
  have hG := hB.2.2.2.2.2
  have hI := hm_I.start hB
  rw [← hB.2.1]
  generalize M.2.2 = k1 at hI ⊢
  refine W.eq (g2 := F0 m 0 ((lg_sl ([.int p0]) ++ List.replicate (1 - (lg_sl ([.int p0])).length) Slot.unset).toArray) []) (by rw [hav]; exact lg_entry_eq m ([.int p0]) 1) ?_
  have hl := lv_entry ([.int p0]) (n := 1) (Nat.le_of_ble_eq_true rfl)
  generalize (lg_sl ([.int p0]) ++ List.replicate (1 - (lg_sl ([.int p0])).length) Slot.unset).toArray = ls at hl ⊢
  simp only [lvA_nil, lvA_i, lvA_l, lvA_a, lvA_r, Nat.zero_add, Nat.reduceAdd] at hl
  have hret : ∀ (v : Option Nat) (M : hM) (H : Heap) (locs : List Loc) (cells slots : Nat) (ls : Array Slot) (pc : Nat), decode b_Kind_firstWord pc = .ok (.areturn, 1) → (b_ret v).1 M = some Z → hm_I D dA hCl z k1 s M H locs cells slots → W p l e (headSpec w_Kind_firstWord { frames := 0, cells := Z.2.2.1 - s.heap.size, slots := Z.2.2.2 - k1, locals := 0 }).room s m args below meth c H locs cells slots (MQ below (hm_Q D dA hCl (hTy dA) sT aK aV z (some (va_rf (Option.map aK Z.1))) Z.2) args s (Z.2.2.1 - s.heap.size) (Z.2.2.2 - k1) (fun q => z ≤ q)) (F0 m pc ls [va_rf (Option.map aK v)]) := fun v M H locs cells slots ls pc hdg hf hI => x_rett S hK hG hI hr (Or.inl ⟨_, rfl⟩) hlocks hdg hf
  have hR : Z.2.2.1 - s.heap.size ≤ (headSpec w_Kind_firstWord { frames := 0, cells := Z.2.2.1 - s.heap.size, slots := Z.2.2.2 - k1, locals := 0 }).room.cells ∧ Z.2.2.2 - k1 ≤ (headSpec w_Kind_firstWord { frames := 0, cells := Z.2.2.1 - s.heap.size, slots := Z.2.2.2 - k1, locals := 0 }).room.slots := ⟨Nat.le_refl _, Nat.le_refl _⟩
  have hRf : 0 ≤ (headSpec w_Kind_firstWord { frames := 0, cells := Z.2.2.1 - s.heap.size, slots := Z.2.2.2 - k1, locals := 0 }).room.frames ∧ 0 ≤ (headSpec w_Kind_firstWord { frames := 0, cells := Z.2.2.1 - s.heap.size, slots := Z.2.2.2 - k1, locals := 0 }).room.locals := ⟨Nat.le_refl _, Nat.le_refl _⟩
  generalize (headSpec w_Kind_firstWord { frames := 0, cells := Z.2.2.1 - s.heap.size, slots := Z.2.2.2 - k1, locals := 0 }).room = R at hret hR hRf ⊢
  generalize (MQ below (hm_Q D dA hCl (hTy dA) sT aK aV z (some (va_rf (Option.map aK Z.1))) Z.2) args s (Z.2.2.1 - s.heap.size) (Z.2.2.2 - k1) (fun q => z ≤ q)) = Q at hret ⊢
  rw [e_Kind_firstWord] at hf
  refine lv_iload_n S.1 S.2.1 d_Kind_firstWord_0 rfl (lv_at hl 0 rfl) ?_
  by_cases hc0 : p0 = 5
  · have hf := b_if_t hc0 hf
    refine lv_tableIn (tgt := 60) S.1 S.2.1 d_Kind_firstWord_1 (by rw [hc0]; decide) (by rw [hc0]; decide) (by rw [hc0] <;> rfl) (by decide) ?_
    refine va_ldcS S.1 S.2.1 S.2.2.2.1 (hG.1 1 _ rfl).1 d_Kind_firstWord_60 ?_
    exact hret (some 1) _ _ _ _ _ _ _ d_Kind_firstWord_62 hf hI
  · have hf := b_if_f hc0 hf
    by_cases hc1 : p0 = 6
    · have hf := b_if_t hc1 hf
      refine lv_tableIn (tgt := 63) S.1 S.2.1 d_Kind_firstWord_1 (by rw [hc1]; decide) (by rw [hc1]; decide) (by rw [hc1] <;> rfl) (by decide) ?_
      refine va_ldcS S.1 S.2.1 S.2.2.2.1 (hG.1 2 _ rfl).1 d_Kind_firstWord_63 ?_
      exact hret (some 2) _ _ _ _ _ _ _ d_Kind_firstWord_65 hf hI
    · have hf := b_if_f hc1 hf
      by_cases hc2 : p0 = 7
      · have hf := b_if_t hc2 hf
        refine lv_tableIn (tgt := 66) S.1 S.2.1 d_Kind_firstWord_1 (by rw [hc2]; decide) (by rw [hc2]; decide) (by rw [hc2] <;> rfl) (by decide) ?_
        refine va_ldcS S.1 S.2.1 S.2.2.2.1 (hG.1 3 _ rfl).1 d_Kind_firstWord_66 ?_
        exact hret (some 3) _ _ _ _ _ _ _ d_Kind_firstWord_68 hf hI
      · have hf := b_if_f hc2 hf
        by_cases hc3 : p0 = 8
        · have hf := b_if_t hc3 hf
          refine lv_tableIn (tgt := 69) S.1 S.2.1 d_Kind_firstWord_1 (by rw [hc3]; decide) (by rw [hc3]; decide) (by rw [hc3] <;> rfl) (by decide) ?_
          refine va_ldcS S.1 S.2.1 S.2.2.2.1 (hG.1 4 _ rfl).1 d_Kind_firstWord_69 ?_
          exact hret (some 4) _ _ _ _ _ _ _ d_Kind_firstWord_71 hf hI
        · have hf := b_if_f hc3 hf
          by_cases hc4 : p0 = 9
          · have hf := b_if_t hc4 hf
            refine lv_tableIn (tgt := 72) S.1 S.2.1 d_Kind_firstWord_1 (by rw [hc4]; decide) (by rw [hc4]; decide) (by rw [hc4] <;> rfl) (by decide) ?_
            refine va_ldcS S.1 S.2.1 S.2.2.2.1 (hG.1 5 _ rfl).1 d_Kind_firstWord_72 ?_
            exact hret (some 5) _ _ _ _ _ _ _ d_Kind_firstWord_74 hf hI
          · have hf := b_if_f hc4 hf
            by_cases hc5 : p0 = 10
            · have hf := b_if_t hc5 hf
              refine lv_tableIn (tgt := 75) S.1 S.2.1 d_Kind_firstWord_1 (by rw [hc5]; decide) (by rw [hc5]; decide) (by rw [hc5] <;> rfl) (by decide) ?_
              refine va_ldcS S.1 S.2.1 S.2.2.2.1 (hG.1 6 _ rfl).1 d_Kind_firstWord_75 ?_
              exact hret (some 6) _ _ _ _ _ _ _ d_Kind_firstWord_77 hf hI
            · have hf := b_if_f hc5 hf
              by_cases hc6 : p0 = 11
              · have hf := b_if_t hc6 hf
                refine lv_tableIn (tgt := 78) S.1 S.2.1 d_Kind_firstWord_1 (by rw [hc6]; decide) (by rw [hc6]; decide) (by rw [hc6] <;> rfl) (by decide) ?_
                refine va_ldcS S.1 S.2.1 S.2.2.2.1 (hG.1 7 _ rfl).1 d_Kind_firstWord_78 ?_
                exact hret (some 7) _ _ _ _ _ _ _ d_Kind_firstWord_80 hf hI
              · have hf := b_if_f hc6 hf
                by_cases hc7 : p0 = 12
                · have hf := b_if_t hc7 hf
                  refine lv_tableIn (tgt := 81) S.1 S.2.1 d_Kind_firstWord_1 (by rw [hc7]; decide) (by rw [hc7]; decide) (by rw [hc7] <;> rfl) (by decide) ?_
                  refine va_ldcS S.1 S.2.1 S.2.2.2.1 (hG.1 8 _ rfl).1 d_Kind_firstWord_81 ?_
                  exact hret (some 8) _ _ _ _ _ _ _ d_Kind_firstWord_83 hf hI
                · have hf := b_if_f hc7 hf
                  by_cases hc8 : p0 = 13
                  · have hf := b_if_t hc8 hf
                    refine lv_tableIn (tgt := 84) S.1 S.2.1 d_Kind_firstWord_1 (by rw [hc8]; decide) (by rw [hc8]; decide) (by rw [hc8] <;> rfl) (by decide) ?_
                    refine va_ldcS S.1 S.2.1 S.2.2.2.1 (hG.1 9 _ rfl).1 d_Kind_firstWord_84 ?_
                    exact hret (some 9) _ _ _ _ _ _ _ d_Kind_firstWord_86 hf hI
                  · have hf := b_if_f hc8 hf
                    by_cases hc9 : p0 = 14
                    · have hf := b_if_t hc9 hf
                      refine lv_tableIn (tgt := 87) S.1 S.2.1 d_Kind_firstWord_1 (by rw [hc9]; decide) (by rw [hc9]; decide) (by rw [hc9] <;> rfl) (by decide) ?_
                      refine va_ldcS S.1 S.2.1 S.2.2.2.1 (hG.1 10 _ rfl).1 d_Kind_firstWord_87 ?_
                      exact hret (some 10) _ _ _ _ _ _ _ d_Kind_firstWord_89 hf hI
                    · have hf := b_if_f hc9 hf
                      by_cases hc10 : p0 = 15
                      · have hf := b_if_t hc10 hf
                        refine lv_tableIn (tgt := 90) S.1 S.2.1 d_Kind_firstWord_1 (by rw [hc10]; decide) (by rw [hc10]; decide) (by rw [hc10] <;> rfl) (by decide) ?_
                        refine va_ldcS S.1 S.2.1 S.2.2.2.1 (hG.1 11 _ rfl).1 d_Kind_firstWord_90 ?_
                        exact hret (some 11) _ _ _ _ _ _ _ d_Kind_firstWord_92 hf hI
                      · have hf := b_if_f hc10 hf
                        refine lv_tableOut (tgt := 93) S.1 S.2.1 d_Kind_firstWord_1 (by have g0 := lv_neT (a := 5) hc0 (by decide); have g1 := lv_neT (a := 6) hc1 (by decide); have g2 := lv_neT (a := 7) hc2 (by decide); have g3 := lv_neT (a := 8) hc3 (by decide); have g4 := lv_neT (a := 9) hc4 (by decide); have g5 := lv_neT (a := 10) hc5 (by decide); have g6 := lv_neT (a := 11) hc6 (by decide); have g7 := lv_neT (a := 12) hc7 (by decide); have g8 := lv_neT (a := 13) hc8 (by decide); have g9 := lv_neT (a := 14) hc9 (by decide); have g10 := lv_neT (a := 15) hc10 (by decide); omega) (by decide) ?_
                        refine va_ldcS S.1 S.2.1 S.2.2.2.1 (hG.1 12 _ rfl).1 d_Kind_firstWord_93 ?_
                        exact hret (some 12) _ _ _ _ _ _ _ d_Kind_firstWord_95 hf hI
set_option maxHeartbeats 4000000 in
set_option maxRecDepth 100000 in
theorem c_Scan_isWord (l : Launch) {D : va_G} {dA : Nat → ClassId} {aK aV : Nat → Nat} {z : Nat} {N : Nat} {h0 : Nat} {p0 : Option Nat} {M : hM} {Z : Int32 × hM} (hf : (f_Scan_isWord N h0 p0).1 M = some Z) : Met l y_Scan_isWord w_Scan_isWord ({ frames := 4, cells := Z.2.2.1 - M.2.1, slots := Z.2.2.2 - M.2.2, locals := 85 }) (va_Pc [.ref h0, va_rf (Option.map aK p0)] (hm_B D dA hCl (hTy dA) sT aK aV z M)) (hm_Q D dA hCl (hTy dA) sT aK aV z (some (.int Z.1)) Z.2) (Z.2.2.1 - M.2.1) (Z.2.2.2 - M.2.2) (fun q => z ≤ q) := by
  refine Met.ofW (cc := b_Scan_isWord) (maxL := 3) (ret := (some .boolean)) (by decide) rfl ?_
  intro p e s m args below meth c s₁ B hml hv
  obtain ⟨hav, hB⟩ := hv
  have S : CallFix p m c b_Scan_isWord 3 s args w_Scan_isWord R_Scan := ⟨B.exec, B.bytes, hml, findClass_of_methodNamed B.named, atoms_spec (ws := w_Scan_isWord) B.pre⟩
  have hr : meth.sig.returnType = (some .boolean) := B.returns
  have hlocks := B.notSynchronized
  have hK := hB.2.2.1
  have hG := hB.2.2.2.2.2
  have hI := hm_I.start hB
  rw [← hB.2.1]
  generalize M.2.2 = k1 at hI ⊢
  refine W.eq (g2 := F0 m 0 ((lg_sl ([.ref h0, va_rf (Option.map aK p0)]) ++ List.replicate (3 - (lg_sl ([.ref h0, va_rf (Option.map aK p0)])).length) Slot.unset).toArray) []) (by rw [hav]; exact lg_entry_eq m ([.ref h0, va_rf (Option.map aK p0)]) 3) ?_
  have hl := lv_entry ([.ref h0, va_rf (Option.map aK p0)]) (n := 3) (by cases p0 <;> exact Nat.le_of_ble_eq_true rfl)
  generalize (lg_sl ([.ref h0, va_rf (Option.map aK p0)]) ++ List.replicate (3 - (lg_sl ([.ref h0, va_rf (Option.map aK p0)])).length) Slot.unset).toArray = ls at hl ⊢
  simp only [lvA_nil, lvA_i, lvA_l, lvA_a, lvA_r, Nat.zero_add, Nat.reduceAdd] at hl
  have hret : ∀ (v : Int32) (M : hM) (H : Heap) (locs : List Loc) (cells slots : Nat) (ls : Array Slot) (pc : Nat), decode b_Scan_isWord pc = .ok (.ireturn, 1) → (b_retN .boolean v).1 M = some Z → hm_I D dA hCl z k1 s M H locs cells slots → W p l e (headSpec w_Scan_isWord { frames := 4, cells := Z.2.2.1 - s.heap.size, slots := Z.2.2.2 - k1, locals := 85 }).room s m args below meth c H locs cells slots (MQ below (hm_Q D dA hCl (hTy dA) sT aK aV z (some (.int Z.1)) Z.2) args s (Z.2.2.1 - s.heap.size) (Z.2.2.2 - k1) (fun q => z ≤ q)) (F0 m pc ls [.int v]) := fun v M H locs cells slots ls pc hdg hf hI => x_retn S hK hG hI hr hlocks hdg hf
  have hR : Z.2.2.1 - s.heap.size ≤ (headSpec w_Scan_isWord { frames := 4, cells := Z.2.2.1 - s.heap.size, slots := Z.2.2.2 - k1, locals := 85 }).room.cells ∧ Z.2.2.2 - k1 ≤ (headSpec w_Scan_isWord { frames := 4, cells := Z.2.2.1 - s.heap.size, slots := Z.2.2.2 - k1, locals := 85 }).room.slots := ⟨Nat.le_refl _, Nat.le_refl _⟩
  have hRf : 4 ≤ (headSpec w_Scan_isWord { frames := 4, cells := Z.2.2.1 - s.heap.size, slots := Z.2.2.2 - k1, locals := 85 }).room.frames ∧ 85 ≤ (headSpec w_Scan_isWord { frames := 4, cells := Z.2.2.1 - s.heap.size, slots := Z.2.2.2 - k1, locals := 85 }).room.locals := ⟨Nat.le_refl _, Nat.le_refl _⟩
  generalize (headSpec w_Scan_isWord { frames := 4, cells := Z.2.2.1 - s.heap.size, slots := Z.2.2.2 - k1, locals := 85 }).room = R at hret hR hRf ⊢
  generalize (MQ below (hm_Q D dA hCl (hTy dA) sT aK aV z (some (.int Z.1)) Z.2) args s (Z.2.2.1 - s.heap.size) (Z.2.2.2 - k1) (fun q => z ≤ q)) = Q at hret ⊢
  rw [e_Scan_isWord] at hf
  have w20 : ∀ (n : Nat) (x2 : Int32) (M : hM) (H : Heap) (locs : List Loc) (ls : Array Slot) (cells slots : Nat), (f_Scan_isWord_20 N h0 p0  n x2).1 M = some Z → hm_I D dA hCl z k1 s M H locs cells slots → lv_has ls 3 [(0, .ref h0), (1, va_rf (Option.map aK p0)), (2, .int x2)] → W p l e R s m args below meth c H locs cells slots Q (F0 m 20 ls []) := by
    intro n
    induction n with
    | zero => intro x2 M H locs ls cells slots hf hI hl; cases hf
    | succ n20 ih20 =>
      intro x2 M H locs ls cells slots hf hI hl
      rw [e_Scan_isWord_20] at hf
      refine lv_iload_n S.1 S.2.1 d_Scan_isWord_20 rfl (lv_at hl 2 rfl) ?_
      refine x_aload_n (r := (Option.map aK p0)) S d_Scan_isWord_21 rfl (lv_at hl 1 rfl) ?_
      obtain ⟨a1, ea1, hg⟩ := b_nn_inv hf
      have hI0 := hI
      have hl0 := hl
      clear hf hI hl
      subst ea1
      have hf := hg
      have hI := hI0
      have hl := hl0
      clear hg hI0 hl0
      refine x_slen S hK hG hI hR wd_235 hl.1 (lv_room (Nat.le_of_ble_eq_true rfl)) ⟨Nat.le_trans (Nat.le_of_ble_eq_true rfl) hRf.1, Nat.le_trans (Nat.le_of_ble_eq_true rfl) hRf.2⟩ d_Scan_isWord_22 hf (fun v2 hf H locs cells slots hI => ?_)
      refine lv_icmp_ge (tgt := 55) S.1 S.2.1 d_Scan_isWord_25 (by decide) (fun hc => ?_) (fun hc => ?_)
      · have hf := b_if_t hc hf
        refine lv_iconst (v := 1) S.1 S.2.1 d_Scan_isWord_55 (by decide) ?_
        exact hret _ _ _ _ _ _ _ _ d_Scan_isWord_56 hf hI
      · have hf := b_if_f hc hf
        refine lv_aload_n S.1 S.2.1 d_Scan_isWord_28 rfl (lv_at hl 0 rfl) ?_
        refine x_getR (ci := 8) (k := 0) S hK hI (fun w h => List.mem_cons_of_mem _ (i_Scan w h)) rfl (by decide) (List.mem_cons_of_mem _ wd_12) rfl d_Scan_isWord_29 hf (fun r3 hf => ?_)
        refine lv_aload_n S.1 S.2.1 d_Scan_isWord_32 rfl (lv_at hl 0 rfl) ?_
        refine x_getI (ci := 8) (k := 4) S hK hI (fun w h => List.mem_cons_of_mem _ (i_Scan w h)) rfl (by decide) (List.mem_cons_of_mem _ wd_56) rfl d_Scan_isWord_33 hf (fun v4 hf => ?_)
        refine lv_iload_n S.1 S.2.1 d_Scan_isWord_36 rfl (lv_at hl 2 rfl) ?_
        refine lv_iadd S.1 S.2.1 d_Scan_isWord_37 ?_
        obtain ⟨a5, ea5, hg⟩ := b_nn_inv hf
        have hI0 := hI
        have hl0 := hl
        clear hf hI hl
        subst ea5
        have hf := hg
        have hI := hI0
        have hl := hl0
        clear hg hI0 hl0
        refine x_cald (t := 0) S hK hI rfl d_Scan_isWord_38 hf (fun v6 hf => ?_)
        refine lv_aload_n S.1 S.2.1 d_Scan_isWord_39 rfl (lv_at hl 1 rfl) ?_
        refine lv_iload_n S.1 S.2.1 d_Scan_isWord_40 rfl (lv_at hl 2 rfl) ?_
        refine x_schr S hK hG hI hR wd_236 hl.1 (lv_room (Nat.le_of_ble_eq_true rfl)) ⟨Nat.le_trans (Nat.le_of_ble_eq_true rfl) hRf.1, Nat.le_trans (Nat.le_of_ble_eq_true rfl) hRf.2⟩ d_Scan_isWord_41 hf (fun v7 hf H locs cells slots hI => ?_)
        refine lv_icmp_eq (tgt := 49) S.1 S.2.1 d_Scan_isWord_44 (by decide) (fun hc => ?_) (fun hc => ?_)
        · have hf := b_if_t hc hf
          refine x_iinc (v := 1) (lv2 := [(0, .ref h0), (1, .ref (aK a1))]) S d_Scan_isWord_49 hl 2 rfl (by decide) (by decide) [0, 1] rfl ⟨⟨(by decide : (0 : Nat) ≠ 2), fun h => absurd (show (0 : Nat) + 1 = 2 from h) (by decide)⟩, ⟨⟨(by decide : (1 : Nat) ≠ 2), fun _ => rfl⟩, trivial⟩⟩ (fun ls hl => ?_)
          refine lv_goto (tgt := 20) S.1 S.2.1 d_Scan_isWord_52 (by decide) ?_
          exact ih20 (x2 + 1) _ _ _ _ _ _ hf hI (lv_sub hl [1, 2, 0] rfl)
        · have hf := b_if_f hc hf
          refine lv_iconst (v := 0) S.1 S.2.1 d_Scan_isWord_47 (by decide) ?_
          exact hret _ _ _ _ _ _ _ _ d_Scan_isWord_48 hf hI
  refine lv_aload_n S.1 S.2.1 d_Scan_isWord_0 rfl (lv_at hl 0 rfl) ?_
  refine x_getI (ci := 8) (k := 5) S hK hI (fun w h => List.mem_cons_of_mem _ (i_Scan w h)) rfl (by decide) (List.mem_cons_of_mem _ wd_57) rfl d_Scan_isWord_1 hf (fun v8 hf => ?_)
  refine lv_aload_n S.1 S.2.1 d_Scan_isWord_4 rfl (lv_at hl 0 rfl) ?_
  refine x_getI (ci := 8) (k := 4) S hK hI (fun w h => List.mem_cons_of_mem _ (i_Scan w h)) rfl (by decide) (List.mem_cons_of_mem _ wd_56) rfl d_Scan_isWord_5 hf (fun v9 hf => ?_)
  refine lv_isub S.1 S.2.1 d_Scan_isWord_8 ?_
  refine x_aload_n (r := (Option.map aK p0)) S d_Scan_isWord_9 rfl (lv_at hl 1 rfl) ?_
  obtain ⟨a10, ea10, hg⟩ := b_nn_inv hf
  have hI0 := hI
  have hl0 := hl
  clear hf hI hl
  subst ea10
  have hf := hg
  have hI := hI0
  have hl := hl0
  clear hg hI0 hl0
  refine x_slen S hK hG hI hR wd_235 hl.1 (lv_room (Nat.le_of_ble_eq_true rfl)) ⟨Nat.le_trans (Nat.le_of_ble_eq_true rfl) hRf.1, Nat.le_trans (Nat.le_of_ble_eq_true rfl) hRf.2⟩ d_Scan_isWord_10 hf (fun v11 hf H locs cells slots hI => ?_)
  refine lv_icmp_eq (tgt := 18) S.1 S.2.1 d_Scan_isWord_13 (by decide) (fun hc => ?_) (fun hc => ?_)
  · have hf := b_if_t hc hf
    refine lv_iconst (v := 0) S.1 S.2.1 d_Scan_isWord_18 (by decide) ?_
    refine x_istore_n (lv2 := [(0, .ref h0), (1, .ref (aK a10))]) S d_Scan_isWord_19 rfl hl (by decide) [0, 1] rfl ⟨⟨(by decide : (0 : Nat) ≠ 2), fun h => absurd (show (0 : Nat) + 1 = 2 from h) (by decide)⟩, ⟨⟨(by decide : (1 : Nat) ≠ 2), fun _ => rfl⟩, trivial⟩⟩ (fun ls hl => ?_)
    exact w20 N 0 _ _ _ _ _ _ hf hI (lv_sub hl [1, 2, 0] rfl)
  · have hf := b_if_f hc hf
    refine lv_iconst (v := 0) S.1 S.2.1 d_Scan_isWord_16 (by decide) ?_
    exact hret _ _ _ _ _ _ _ _ d_Scan_isWord_17 hf hI
set_option maxHeartbeats 4000000 in
set_option maxRecDepth 100000 in
theorem c_Reader_kindOfFirstWord (l : Launch) {D : va_G} {dA : Nat → ClassId} {aK aV : Nat → Nat} {z : Nat} {N : Nat} {h0 : Nat} {M : hM} {Z : Int32 × hM} (hf : (f_Reader_kindOfFirstWord N h0 ).1 M = some Z) : Met l y_Reader_kindOfFirstWord w_Reader_kindOfFirstWord ({ frames := 5, cells := Z.2.2.1 - M.2.1, slots := Z.2.2.2 - M.2.2, locals := 107 }) (va_Pc [.ref h0] (hm_B D dA hCl (hTy dA) sT aK aV z M)) (hm_Q D dA hCl (hTy dA) sT aK aV z (some (.int Z.1)) Z.2) (Z.2.2.1 - M.2.1) (Z.2.2.2 - M.2.2) (fun q => z ≤ q) := by
  refine Met.ofW (cc := b_Reader_kindOfFirstWord) (maxL := 2) (ret := (some .int)) (by decide) rfl ?_
  intro p e s m args below meth c s₁ B hml hv
  obtain ⟨hav, hB⟩ := hv
  have S : CallFix p m c b_Reader_kindOfFirstWord 2 s args w_Reader_kindOfFirstWord R_Reader := ⟨B.exec, B.bytes, hml, findClass_of_methodNamed B.named, atoms_spec (ws := w_Reader_kindOfFirstWord) B.pre⟩
  have hr : meth.sig.returnType = (some .int) := B.returns
  have hlocks := B.notSynchronized
  have hK := hB.2.2.1
  have hG := hB.2.2.2.2.2
  have hI := hm_I.start hB
  rw [← hB.2.1]
  generalize M.2.2 = k1 at hI ⊢
  refine W.eq (g2 := F0 m 0 ((lg_sl ([.ref h0]) ++ List.replicate (2 - (lg_sl ([.ref h0])).length) Slot.unset).toArray) []) (by rw [hav]; exact lg_entry_eq m ([.ref h0]) 2) ?_
  have hl := lv_entry ([.ref h0]) (n := 2) (Nat.le_of_ble_eq_true rfl)
  generalize (lg_sl ([.ref h0]) ++ List.replicate (2 - (lg_sl ([.ref h0])).length) Slot.unset).toArray = ls at hl ⊢
  simp only [lvA_nil, lvA_i, lvA_l, lvA_a, lvA_r, Nat.zero_add, Nat.reduceAdd] at hl
  have hret : ∀ (v : Int32) (M : hM) (H : Heap) (locs : List Loc) (cells slots : Nat) (ls : Array Slot) (pc : Nat), decode b_Reader_kindOfFirstWord pc = .ok (.ireturn, 1) → (b_ret v).1 M = some Z → hm_I D dA hCl z k1 s M H locs cells slots → W p l e (headSpec w_Reader_kindOfFirstWord { frames := 5, cells := Z.2.2.1 - s.heap.size, slots := Z.2.2.2 - k1, locals := 107 }).room s m args below meth c H locs cells slots (MQ below (hm_Q D dA hCl (hTy dA) sT aK aV z (some (.int Z.1)) Z.2) args s (Z.2.2.1 - s.heap.size) (Z.2.2.2 - k1) (fun q => z ≤ q)) (F0 m pc ls [.int v]) := fun v M H locs cells slots ls pc hdg hf hI => x_reti S hK hG hI hr hlocks hdg hf
  have hR : Z.2.2.1 - s.heap.size ≤ (headSpec w_Reader_kindOfFirstWord { frames := 5, cells := Z.2.2.1 - s.heap.size, slots := Z.2.2.2 - k1, locals := 107 }).room.cells ∧ Z.2.2.2 - k1 ≤ (headSpec w_Reader_kindOfFirstWord { frames := 5, cells := Z.2.2.1 - s.heap.size, slots := Z.2.2.2 - k1, locals := 107 }).room.slots := ⟨Nat.le_refl _, Nat.le_refl _⟩
  have hRf : 5 ≤ (headSpec w_Reader_kindOfFirstWord { frames := 5, cells := Z.2.2.1 - s.heap.size, slots := Z.2.2.2 - k1, locals := 107 }).room.frames ∧ 107 ≤ (headSpec w_Reader_kindOfFirstWord { frames := 5, cells := Z.2.2.1 - s.heap.size, slots := Z.2.2.2 - k1, locals := 107 }).room.locals := ⟨Nat.le_refl _, Nat.le_refl _⟩
  generalize (headSpec w_Reader_kindOfFirstWord { frames := 5, cells := Z.2.2.1 - s.heap.size, slots := Z.2.2.2 - k1, locals := 107 }).room = R at hret hR hRf ⊢
  generalize (MQ below (hm_Q D dA hCl (hTy dA) sT aK aV z (some (.int Z.1)) Z.2) args s (Z.2.2.1 - s.heap.size) (Z.2.2.2 - k1) (fun q => z ≤ q)) = Q at hret ⊢
  rw [e_Reader_kindOfFirstWord] at hf
  have w2 : ∀ (n : Nat) (x1 : Int32) (M : hM) (H : Heap) (locs : List Loc) (ls : Array Slot) (cells slots : Nat), (f_Reader_kindOfFirstWord_2 N h0  n x1).1 M = some Z → hm_I D dA hCl z k1 s M H locs cells slots → lv_has ls 2 [(0, .ref h0), (1, .int x1)] → W p l e R s m args below meth c H locs cells slots Q (F0 m 2 ls []) := by
    intro n
    induction n with
    | zero => intro x1 M H locs ls cells slots hf hI hl; cases hf
    | succ n2 ih2 =>
      intro x1 M H locs ls cells slots hf hI hl
      rw [e_Reader_kindOfFirstWord_2] at hf
      refine lv_iload_n S.1 S.2.1 d_Reader_kindOfFirstWord_2 rfl (lv_at hl 1 rfl) ?_
      refine lv_bipush (v := 15) S.1 S.2.1 d_Reader_kindOfFirstWord_3 (by decide) ?_
      refine lv_icmp_gt (tgt := 30) S.1 S.2.1 d_Reader_kindOfFirstWord_5 (by decide) (fun hc => ?_) (fun hc => ?_)
      · have hf := b_if_t hc hf
        refine lv_iconst (v := (-1)) S.1 S.2.1 d_Reader_kindOfFirstWord_30 (by decide) ?_
        exact hret _ _ _ _ _ _ _ _ d_Reader_kindOfFirstWord_31 hf hI
      · have hf := b_if_f hc hf
        refine lv_aload_n S.1 S.2.1 d_Reader_kindOfFirstWord_8 rfl (lv_at hl 0 rfl) ?_
        refine x_getR (ci := 6) (k := 0) S hK hI (fun w h => List.mem_cons_of_mem _ (i_Reader w h)) rfl (by decide) (List.mem_cons_of_mem _ wd_15) rfl d_Reader_kindOfFirstWord_9 hf (fun r1 hf => ?_)
        refine lv_iload_n S.1 S.2.1 d_Reader_kindOfFirstWord_12 rfl (lv_at hl 1 rfl) ?_
        obtain ⟨r2, N3, hg4, hf⟩ := b_call_inv hf
        refine x_call hI (hm_mo hg4) (va_runS (As := [.int x1]) (rest := [va_rf r1]) S (c_Kind_firstWord l hg4) (va_cwS 1 S.2.2.2.2 (gi_S wd_232 wd_233 wd_204 wd_234) rfl rfl rfl (by decide +kernel) ⟨Nat.le_trans (Nat.le_of_ble_eq_true rfl) hRf.1, Nat.le_trans (Nat.le_of_ble_eq_true rfl) hRf.2⟩) ⟨hm_B.blind, fun U hU hW => ⟨rfl, hm_B.of hK hG hI hU hW⟩⟩ rfl rfl hl.1 rfl (lv_room (by simp only [List.map_cons, List.map_nil, List.sum_cons, List.sum_nil, rf_cat, cat_i, cat_l, cat_a, cat_n]; exact Nat.le_of_ble_eq_true rfl)) d_Reader_kindOfFirstWord_13 (hx_fit hI hR (hm_mo hg4) (hm_mo hf))) (fun H locs cells slots hI => ?_)
        refine W.eq (g2 := F0 m 16 ls [va_rf (Option.map aK r2), va_rf r1]) rfl ?_
        obtain ⟨a5, ea5, hg⟩ := b_nn_inv hf
        have hI0 := hI
        have hl0 := hl
        clear hf hI hl
        subst ea5
        have hf := hg
        have hI := hI0
        have hl := hl0
        clear hg hI0 hl0
        obtain ⟨⟨fs9, hefs9⟩, hf⟩ := b_is_inv hf
        obtain ⟨v6, N7, hg8, hf⟩ := b_call_inv hf
        refine x_call hI (hm_mo hg8) (va_runV (As := [va_rf (Option.map aK r2)]) (rest := []) S (c_Scan_isWord l hg8) (cwV 1 S.2.2.2.2 (gi_V wd_237 wd_238 wd_239 wd_9 wd_240) rfl rfl rfl (by decide +kernel) ⟨Nat.le_trans (Nat.le_of_ble_eq_true rfl) hRf.1, Nat.le_trans (Nat.le_of_ble_eq_true rfl) hRf.2⟩) ⟨hm_B.blind, va_recv hK (hI.1.one hefs9) (ci := 8) (q0 := 0) rfl rfl, fun U hU hW => ⟨rfl, hm_B.of hK hG hI hU hW⟩⟩ rfl rfl hl.1 rfl (lv_room (Nat.le_of_ble_eq_true rfl)) d_Reader_kindOfFirstWord_16 (hx_fit hI hR (hm_mo hg8) (hm_mo hf))) (fun H locs cells slots hI => ?_)
        refine W.eq (g2 := F0 m 19 ls [.int v6]) rfl ?_
        refine lv_if_eq (tgt := 24) S.1 S.2.1 d_Reader_kindOfFirstWord_19 (by decide) (fun hc => ?_) (fun hc => ?_)
        · have hf := b_if_t hc hf
          refine x_iinc (v := 1) (lv2 := [(0, .ref h0)]) S d_Reader_kindOfFirstWord_24 hl 1 rfl (by decide) (by decide) [0] rfl ⟨⟨(by decide : (0 : Nat) ≠ 1), fun _ => rfl⟩, trivial⟩ (fun ls hl => ?_)
          refine lv_goto (tgt := 2) S.1 S.2.1 d_Reader_kindOfFirstWord_27 (by decide) ?_
          exact ih2 (x1 + 1) _ _ _ _ _ _ hf hI (lv_sub hl [1, 0] rfl)
        · have hf := b_if_f hc hf
          refine lv_iload_n S.1 S.2.1 d_Reader_kindOfFirstWord_22 rfl (lv_at hl 1 rfl) ?_
          exact hret _ _ _ _ _ _ _ _ d_Reader_kindOfFirstWord_23 hf hI
  refine lv_iconst (v := 4) S.1 S.2.1 d_Reader_kindOfFirstWord_0 (by decide) ?_
  refine x_istore_n (lv2 := [(0, .ref h0)]) S d_Reader_kindOfFirstWord_1 rfl hl (by decide) [0] rfl ⟨⟨(by decide : (0 : Nat) ≠ 1), fun _ => rfl⟩, trivial⟩ (fun ls hl => ?_)
  exact w2 N 4 _ _ _ _ _ _ hf hI (lv_sub hl [1, 0] rfl)
set_option maxHeartbeats 4000000 in
set_option maxRecDepth 100000 in
theorem c_Kind_needWord (l : Launch) {D : va_G} {dA : Nat → ClassId} {aK aV : Nat → Nat} {z : Nat} {N : Nat} {p0 : Int32} {M : hM} {Z : Option Nat × hM} (hf : (f_Kind_needWord N p0).1 M = some Z) : Met l y_Kind_needWord w_Kind_needWord ({ frames := 0, cells := Z.2.2.1 - M.2.1, slots := Z.2.2.2 - M.2.2, locals := 0 }) (va_Pc [.int p0] (hm_B D dA hCl (hTy dA) sT aK aV z M)) (hm_Q D dA hCl (hTy dA) sT aK aV z (some (va_rf (Option.map aK Z.1))) Z.2) (Z.2.2.1 - M.2.1) (Z.2.2.2 - M.2.2) (fun q => z ≤ q) := by
  refine Met.ofW (cc := b_Kind_needWord) (maxL := 1) (ret := (some (.object "java/lang/String"))) (by decide) rfl ?_
  intro p e s m args below meth c s₁ B hml hv
  obtain ⟨hav, hB⟩ := hv
  have S : CallFix p m c b_Kind_needWord 1 s args w_Kind_needWord R_Kind := ⟨B.exec, B.bytes, hml, findClass_of_methodNamed B.named, atoms_spec (ws := w_Kind_needWord) B.pre⟩
  have hr : meth.sig.returnType = (some (.object "java/lang/String")) := B.returns
  have hlocks := B.notSynchronized
  have hK := hB.2.2.1
  have hG := hB.2.2.2.2.2
  have hI := hm_I.start hB
  rw [← hB.2.1]
  generalize M.2.2 = k1 at hI ⊢
  refine W.eq (g2 := F0 m 0 ((lg_sl ([.int p0]) ++ List.replicate (1 - (lg_sl ([.int p0])).length) Slot.unset).toArray) []) (by rw [hav]; exact lg_entry_eq m ([.int p0]) 1) ?_
  have hl := lv_entry ([.int p0]) (n := 1) (Nat.le_of_ble_eq_true rfl)
  generalize (lg_sl ([.int p0]) ++ List.replicate (1 - (lg_sl ([.int p0])).length) Slot.unset).toArray = ls at hl ⊢
  simp only [lvA_nil, lvA_i, lvA_l, lvA_a, lvA_r, Nat.zero_add, Nat.reduceAdd] at hl
  have hret : ∀ (v : Option Nat) (M : hM) (H : Heap) (locs : List Loc) (cells slots : Nat) (ls : Array Slot) (pc : Nat), decode b_Kind_needWord pc = .ok (.areturn, 1) → (b_ret v).1 M = some Z → hm_I D dA hCl z k1 s M H locs cells slots → W p l e (headSpec w_Kind_needWord { frames := 0, cells := Z.2.2.1 - s.heap.size, slots := Z.2.2.2 - k1, locals := 0 }).room s m args below meth c H locs cells slots (MQ below (hm_Q D dA hCl (hTy dA) sT aK aV z (some (va_rf (Option.map aK Z.1))) Z.2) args s (Z.2.2.1 - s.heap.size) (Z.2.2.2 - k1) (fun q => z ≤ q)) (F0 m pc ls [va_rf (Option.map aK v)]) := fun v M H locs cells slots ls pc hdg hf hI => x_rett S hK hG hI hr (Or.inl ⟨_, rfl⟩) hlocks hdg hf
  have hR : Z.2.2.1 - s.heap.size ≤ (headSpec w_Kind_needWord { frames := 0, cells := Z.2.2.1 - s.heap.size, slots := Z.2.2.2 - k1, locals := 0 }).room.cells ∧ Z.2.2.2 - k1 ≤ (headSpec w_Kind_needWord { frames := 0, cells := Z.2.2.1 - s.heap.size, slots := Z.2.2.2 - k1, locals := 0 }).room.slots := ⟨Nat.le_refl _, Nat.le_refl _⟩
  have hRf : 0 ≤ (headSpec w_Kind_needWord { frames := 0, cells := Z.2.2.1 - s.heap.size, slots := Z.2.2.2 - k1, locals := 0 }).room.frames ∧ 0 ≤ (headSpec w_Kind_needWord { frames := 0, cells := Z.2.2.1 - s.heap.size, slots := Z.2.2.2 - k1, locals := 0 }).room.locals := ⟨Nat.le_refl _, Nat.le_refl _⟩
  generalize (headSpec w_Kind_needWord { frames := 0, cells := Z.2.2.1 - s.heap.size, slots := Z.2.2.2 - k1, locals := 0 }).room = R at hret hR hRf ⊢
  generalize (MQ below (hm_Q D dA hCl (hTy dA) sT aK aV z (some (va_rf (Option.map aK Z.1))) Z.2) args s (Z.2.2.1 - s.heap.size) (Z.2.2.2 - k1) (fun q => z ≤ q)) = Q at hret ⊢
  rw [e_Kind_needWord] at hf
  refine lv_iload_n S.1 S.2.1 d_Kind_needWord_0 rfl (lv_at hl 0 rfl) ?_
  by_cases hc0 : p0 = 1
  · have hf := b_if_t hc0 hf
    refine lv_tableIn (tgt := 32) S.1 S.2.1 d_Kind_needWord_1 (by rw [hc0]; decide) (by rw [hc0]; decide) (by rw [hc0] <;> rfl) (by decide) ?_
    refine va_ldcS S.1 S.2.1 S.2.2.2.1 (hG.1 13 _ rfl).1 d_Kind_needWord_32 ?_
    exact hret (some 13) _ _ _ _ _ _ _ d_Kind_needWord_34 hf hI
  · have hf := b_if_f hc0 hf
    by_cases hc1 : p0 = 2
    · have hf := b_if_t hc1 hf
      refine lv_tableIn (tgt := 35) S.1 S.2.1 d_Kind_needWord_1 (by rw [hc1]; decide) (by rw [hc1]; decide) (by rw [hc1] <;> rfl) (by decide) ?_
      refine va_ldcS S.1 S.2.1 S.2.2.2.1 (hG.1 14 _ rfl).1 d_Kind_needWord_35 ?_
      exact hret (some 14) _ _ _ _ _ _ _ d_Kind_needWord_37 hf hI
    · have hf := b_if_f hc1 hf
      by_cases hc2 : p0 = 3
      · have hf := b_if_t hc2 hf
        refine lv_tableIn (tgt := 38) S.1 S.2.1 d_Kind_needWord_1 (by rw [hc2]; decide) (by rw [hc2]; decide) (by rw [hc2] <;> rfl) (by decide) ?_
        refine va_ldcS S.1 S.2.1 S.2.2.2.1 (hG.1 15 _ rfl).1 d_Kind_needWord_38 ?_
        exact hret (some 15) _ _ _ _ _ _ _ d_Kind_needWord_40 hf hI
      · have hf := b_if_f hc2 hf
        by_cases hc3 : p0 = 4
        · have hf := b_if_t hc3 hf
          refine lv_tableIn (tgt := 41) S.1 S.2.1 d_Kind_needWord_1 (by rw [hc3]; decide) (by rw [hc3]; decide) (by rw [hc3] <;> rfl) (by decide) ?_
          refine va_ldcS S.1 S.2.1 S.2.2.2.1 (hG.1 16 _ rfl).1 d_Kind_needWord_41 ?_
          exact hret (some 16) _ _ _ _ _ _ _ d_Kind_needWord_43 hf hI
        · have hf := b_if_f hc3 hf
          refine lv_tableOut (tgt := 44) S.1 S.2.1 d_Kind_needWord_1 (by have g0 := lv_neT (a := 1) hc0 (by decide); have g1 := lv_neT (a := 2) hc1 (by decide); have g2 := lv_neT (a := 3) hc2 (by decide); have g3 := lv_neT (a := 4) hc3 (by decide); omega) (by decide) ?_
          refine va_ldcS S.1 S.2.1 S.2.2.2.1 (hG.1 17 _ rfl).1 d_Kind_needWord_44 ?_
          exact hret (some 17) _ _ _ _ _ _ _ d_Kind_needWord_46 hf hI
set_option maxHeartbeats 4000000 in
set_option maxRecDepth 100000 in
theorem c_Reader_kindOfNeedWord (l : Launch) {D : va_G} {dA : Nat → ClassId} {aK aV : Nat → Nat} {z : Nat} {N : Nat} {h0 : Nat} {M : hM} {Z : Int32 × hM} (hf : (f_Reader_kindOfNeedWord N h0 ).1 M = some Z) : Met l y_Reader_kindOfNeedWord w_Reader_kindOfNeedWord ({ frames := 5, cells := Z.2.2.1 - M.2.1, slots := Z.2.2.2 - M.2.2, locals := 107 }) (va_Pc [.ref h0] (hm_B D dA hCl (hTy dA) sT aK aV z M)) (hm_Q D dA hCl (hTy dA) sT aK aV z (some (.int Z.1)) Z.2) (Z.2.2.1 - M.2.1) (Z.2.2.2 - M.2.2) (fun q => z ≤ q) := by
  refine Met.ofW (cc := b_Reader_kindOfNeedWord) (maxL := 2) (ret := (some .int)) (by decide) rfl ?_
  intro p e s m args below meth c s₁ B hml hv
  obtain ⟨hav, hB⟩ := hv
  have S : CallFix p m c b_Reader_kindOfNeedWord 2 s args w_Reader_kindOfNeedWord R_Reader := ⟨B.exec, B.bytes, hml, findClass_of_methodNamed B.named, atoms_spec (ws := w_Reader_kindOfNeedWord) B.pre⟩
  have hr : meth.sig.returnType = (some .int) := B.returns
  have hlocks := B.notSynchronized
  have hK := hB.2.2.1
  have hG := hB.2.2.2.2.2
  have hI := hm_I.start hB
  rw [← hB.2.1]
  generalize M.2.2 = k1 at hI ⊢
  refine W.eq (g2 := F0 m 0 ((lg_sl ([.ref h0]) ++ List.replicate (2 - (lg_sl ([.ref h0])).length) Slot.unset).toArray) []) (by rw [hav]; exact lg_entry_eq m ([.ref h0]) 2) ?_
  have hl := lv_entry ([.ref h0]) (n := 2) (Nat.le_of_ble_eq_true rfl)
  generalize (lg_sl ([.ref h0]) ++ List.replicate (2 - (lg_sl ([.ref h0])).length) Slot.unset).toArray = ls at hl ⊢
  simp only [lvA_nil, lvA_i, lvA_l, lvA_a, lvA_r, Nat.zero_add, Nat.reduceAdd] at hl
  have hret : ∀ (v : Int32) (M : hM) (H : Heap) (locs : List Loc) (cells slots : Nat) (ls : Array Slot) (pc : Nat), decode b_Reader_kindOfNeedWord pc = .ok (.ireturn, 1) → (b_ret v).1 M = some Z → hm_I D dA hCl z k1 s M H locs cells slots → W p l e (headSpec w_Reader_kindOfNeedWord { frames := 5, cells := Z.2.2.1 - s.heap.size, slots := Z.2.2.2 - k1, locals := 107 }).room s m args below meth c H locs cells slots (MQ below (hm_Q D dA hCl (hTy dA) sT aK aV z (some (.int Z.1)) Z.2) args s (Z.2.2.1 - s.heap.size) (Z.2.2.2 - k1) (fun q => z ≤ q)) (F0 m pc ls [.int v]) := fun v M H locs cells slots ls pc hdg hf hI => x_reti S hK hG hI hr hlocks hdg hf
  have hR : Z.2.2.1 - s.heap.size ≤ (headSpec w_Reader_kindOfNeedWord { frames := 5, cells := Z.2.2.1 - s.heap.size, slots := Z.2.2.2 - k1, locals := 107 }).room.cells ∧ Z.2.2.2 - k1 ≤ (headSpec w_Reader_kindOfNeedWord { frames := 5, cells := Z.2.2.1 - s.heap.size, slots := Z.2.2.2 - k1, locals := 107 }).room.slots := ⟨Nat.le_refl _, Nat.le_refl _⟩
  have hRf : 5 ≤ (headSpec w_Reader_kindOfNeedWord { frames := 5, cells := Z.2.2.1 - s.heap.size, slots := Z.2.2.2 - k1, locals := 107 }).room.frames ∧ 107 ≤ (headSpec w_Reader_kindOfNeedWord { frames := 5, cells := Z.2.2.1 - s.heap.size, slots := Z.2.2.2 - k1, locals := 107 }).room.locals := ⟨Nat.le_refl _, Nat.le_refl _⟩
  generalize (headSpec w_Reader_kindOfNeedWord { frames := 5, cells := Z.2.2.1 - s.heap.size, slots := Z.2.2.2 - k1, locals := 107 }).room = R at hret hR hRf ⊢
  generalize (MQ below (hm_Q D dA hCl (hTy dA) sT aK aV z (some (.int Z.1)) Z.2) args s (Z.2.2.1 - s.heap.size) (Z.2.2.2 - k1) (fun q => z ≤ q)) = Q at hret ⊢
  rw [e_Reader_kindOfNeedWord] at hf
  have w2 : ∀ (n : Nat) (x1 : Int32) (M : hM) (H : Heap) (locs : List Loc) (ls : Array Slot) (cells slots : Nat), (f_Reader_kindOfNeedWord_2 N h0  n x1).1 M = some Z → hm_I D dA hCl z k1 s M H locs cells slots → lv_has ls 2 [(0, .ref h0), (1, .int x1)] → W p l e R s m args below meth c H locs cells slots Q (F0 m 2 ls []) := by
    intro n
    induction n with
    | zero => intro x1 M H locs ls cells slots hf hI hl; cases hf
    | succ n2 ih2 =>
      intro x1 M H locs ls cells slots hf hI hl
      rw [e_Reader_kindOfNeedWord_2] at hf
      refine lv_iload_n S.1 S.2.1 d_Reader_kindOfNeedWord_2 rfl (lv_at hl 1 rfl) ?_
      refine lv_iconst (v := 4) S.1 S.2.1 d_Reader_kindOfNeedWord_3 (by decide) ?_
      refine lv_icmp_gt (tgt := 29) S.1 S.2.1 d_Reader_kindOfNeedWord_4 (by decide) (fun hc => ?_) (fun hc => ?_)
      · have hf := b_if_t hc hf
        refine lv_iconst (v := (-1)) S.1 S.2.1 d_Reader_kindOfNeedWord_29 (by decide) ?_
        exact hret _ _ _ _ _ _ _ _ d_Reader_kindOfNeedWord_30 hf hI
      · have hf := b_if_f hc hf
        refine lv_aload_n S.1 S.2.1 d_Reader_kindOfNeedWord_7 rfl (lv_at hl 0 rfl) ?_
        refine x_getR (ci := 6) (k := 0) S hK hI (fun w h => List.mem_cons_of_mem _ (i_Reader w h)) rfl (by decide) (List.mem_cons_of_mem _ wd_15) rfl d_Reader_kindOfNeedWord_8 hf (fun r1 hf => ?_)
        refine lv_iload_n S.1 S.2.1 d_Reader_kindOfNeedWord_11 rfl (lv_at hl 1 rfl) ?_
        obtain ⟨r2, N3, hg4, hf⟩ := b_call_inv hf
        refine x_call hI (hm_mo hg4) (va_runS (As := [.int x1]) (rest := [va_rf r1]) S (c_Kind_needWord l hg4) (va_cwS 1 S.2.2.2.2 (gi_S wd_245 wd_246 wd_204 wd_247) rfl rfl rfl (by decide +kernel) ⟨Nat.le_trans (Nat.le_of_ble_eq_true rfl) hRf.1, Nat.le_trans (Nat.le_of_ble_eq_true rfl) hRf.2⟩) ⟨hm_B.blind, fun U hU hW => ⟨rfl, hm_B.of hK hG hI hU hW⟩⟩ rfl rfl hl.1 rfl (lv_room (by simp only [List.map_cons, List.map_nil, List.sum_cons, List.sum_nil, rf_cat, cat_i, cat_l, cat_a, cat_n]; exact Nat.le_of_ble_eq_true rfl)) d_Reader_kindOfNeedWord_12 (hx_fit hI hR (hm_mo hg4) (hm_mo hf))) (fun H locs cells slots hI => ?_)
        refine W.eq (g2 := F0 m 15 ls [va_rf (Option.map aK r2), va_rf r1]) rfl ?_
        obtain ⟨a5, ea5, hg⟩ := b_nn_inv hf
        have hI0 := hI
        have hl0 := hl
        clear hf hI hl
        subst ea5
        have hf := hg
        have hI := hI0
        have hl := hl0
        clear hg hI0 hl0
        obtain ⟨⟨fs9, hefs9⟩, hf⟩ := b_is_inv hf
        obtain ⟨v6, N7, hg8, hf⟩ := b_call_inv hf
        refine x_call hI (hm_mo hg8) (va_runV (As := [va_rf (Option.map aK r2)]) (rest := []) S (c_Scan_isWord l hg8) (cwV 1 S.2.2.2.2 (gi_V wd_237 wd_238 wd_239 wd_9 wd_240) rfl rfl rfl (by decide +kernel) ⟨Nat.le_trans (Nat.le_of_ble_eq_true rfl) hRf.1, Nat.le_trans (Nat.le_of_ble_eq_true rfl) hRf.2⟩) ⟨hm_B.blind, va_recv hK (hI.1.one hefs9) (ci := 8) (q0 := 0) rfl rfl, fun U hU hW => ⟨rfl, hm_B.of hK hG hI hU hW⟩⟩ rfl rfl hl.1 rfl (lv_room (Nat.le_of_ble_eq_true rfl)) d_Reader_kindOfNeedWord_15 (hx_fit hI hR (hm_mo hg8) (hm_mo hf))) (fun H locs cells slots hI => ?_)
        refine W.eq (g2 := F0 m 18 ls [.int v6]) rfl ?_
        refine lv_if_eq (tgt := 23) S.1 S.2.1 d_Reader_kindOfNeedWord_18 (by decide) (fun hc => ?_) (fun hc => ?_)
        · have hf := b_if_t hc hf
          refine x_iinc (v := 1) (lv2 := [(0, .ref h0)]) S d_Reader_kindOfNeedWord_23 hl 1 rfl (by decide) (by decide) [0] rfl ⟨⟨(by decide : (0 : Nat) ≠ 1), fun _ => rfl⟩, trivial⟩ (fun ls hl => ?_)
          refine lv_goto (tgt := 2) S.1 S.2.1 d_Reader_kindOfNeedWord_26 (by decide) ?_
          exact ih2 (x1 + 1) _ _ _ _ _ _ hf hI (lv_sub hl [1, 0] rfl)
        · have hf := b_if_f hc hf
          refine lv_iload_n S.1 S.2.1 d_Reader_kindOfNeedWord_21 rfl (lv_at hl 1 rfl) ?_
          exact hret _ _ _ _ _ _ _ _ d_Reader_kindOfNeedWord_22 hf hI
  refine lv_iconst (v := 0) S.1 S.2.1 d_Reader_kindOfNeedWord_0 (by decide) ?_
  refine x_istore_n (lv2 := [(0, .ref h0)]) S d_Reader_kindOfNeedWord_1 rfl hl (by decide) [0] rfl ⟨⟨(by decide : (0 : Nat) ≠ 1), fun _ => rfl⟩, trivial⟩ (fun ls hl => ?_)
  exact w2 N 0 _ _ _ _ _ _ hf hI (lv_sub hl [1, 0] rfl)
set_option maxHeartbeats 4000000 in
set_option maxRecDepth 100000 in
theorem c_Reader_takeTextRow (l : Launch) {D : va_G} {dA : Nat → ClassId} {aK aV : Nat → Nat} {z : Nat} {N : Nat} {h0 : Nat} {M : hM} {Z : Int32 × hM} (hf : (f_Reader_takeTextRow N h0 ).1 M = some Z) : Met l y_Reader_takeTextRow w_Reader_takeTextRow ({ frames := 6, cells := Z.2.2.1 - M.2.1, slots := Z.2.2.2 - M.2.2, locals := 128 }) (va_Pc [.ref h0] (hm_B D dA hCl (hTy dA) sT aK aV z M)) (hm_Q D dA hCl (hTy dA) sT aK aV z (some (.int Z.1)) Z.2) (Z.2.2.1 - M.2.1) (Z.2.2.2 - M.2.2) (fun q => z ≤ q) := by
  refine Met.ofW (cc := b_Reader_takeTextRow) (maxL := 2) (ret := (some .boolean)) (by decide) rfl ?_
  intro p e s m args below meth c s₁ B hml hv
  obtain ⟨hav, hB⟩ := hv
  have S : CallFix p m c b_Reader_takeTextRow 2 s args w_Reader_takeTextRow R_Reader := ⟨B.exec, B.bytes, hml, findClass_of_methodNamed B.named, atoms_spec (ws := w_Reader_takeTextRow) B.pre⟩
  have hr : meth.sig.returnType = (some .boolean) := B.returns
  have hlocks := B.notSynchronized
  have hK := hB.2.2.1
  have hG := hB.2.2.2.2.2
  have hI := hm_I.start hB
  rw [← hB.2.1]
  generalize M.2.2 = k1 at hI ⊢
  refine W.eq (g2 := F0 m 0 ((lg_sl ([.ref h0]) ++ List.replicate (2 - (lg_sl ([.ref h0])).length) Slot.unset).toArray) []) (by rw [hav]; exact lg_entry_eq m ([.ref h0]) 2) ?_
  have hl := lv_entry ([.ref h0]) (n := 2) (Nat.le_of_ble_eq_true rfl)
  generalize (lg_sl ([.ref h0]) ++ List.replicate (2 - (lg_sl ([.ref h0])).length) Slot.unset).toArray = ls at hl ⊢
  simp only [lvA_nil, lvA_i, lvA_l, lvA_a, lvA_r, Nat.zero_add, Nat.reduceAdd] at hl
  have hret : ∀ (v : Int32) (M : hM) (H : Heap) (locs : List Loc) (cells slots : Nat) (ls : Array Slot) (pc : Nat), decode b_Reader_takeTextRow pc = .ok (.ireturn, 1) → (b_retN .boolean v).1 M = some Z → hm_I D dA hCl z k1 s M H locs cells slots → W p l e (headSpec w_Reader_takeTextRow { frames := 6, cells := Z.2.2.1 - s.heap.size, slots := Z.2.2.2 - k1, locals := 128 }).room s m args below meth c H locs cells slots (MQ below (hm_Q D dA hCl (hTy dA) sT aK aV z (some (.int Z.1)) Z.2) args s (Z.2.2.1 - s.heap.size) (Z.2.2.2 - k1) (fun q => z ≤ q)) (F0 m pc ls [.int v]) := fun v M H locs cells slots ls pc hdg hf hI => x_retn S hK hG hI hr hlocks hdg hf
  have hR : Z.2.2.1 - s.heap.size ≤ (headSpec w_Reader_takeTextRow { frames := 6, cells := Z.2.2.1 - s.heap.size, slots := Z.2.2.2 - k1, locals := 128 }).room.cells ∧ Z.2.2.2 - k1 ≤ (headSpec w_Reader_takeTextRow { frames := 6, cells := Z.2.2.1 - s.heap.size, slots := Z.2.2.2 - k1, locals := 128 }).room.slots := ⟨Nat.le_refl _, Nat.le_refl _⟩
  have hRf : 6 ≤ (headSpec w_Reader_takeTextRow { frames := 6, cells := Z.2.2.1 - s.heap.size, slots := Z.2.2.2 - k1, locals := 128 }).room.frames ∧ 128 ≤ (headSpec w_Reader_takeTextRow { frames := 6, cells := Z.2.2.1 - s.heap.size, slots := Z.2.2.2 - k1, locals := 128 }).room.locals := ⟨Nat.le_refl _, Nat.le_refl _⟩
  generalize (headSpec w_Reader_takeTextRow { frames := 6, cells := Z.2.2.1 - s.heap.size, slots := Z.2.2.2 - k1, locals := 128 }).room = R at hret hR hRf ⊢
  generalize (MQ below (hm_Q D dA hCl (hTy dA) sT aK aV z (some (.int Z.1)) Z.2) args s (Z.2.2.1 - s.heap.size) (Z.2.2.2 - k1) (fun q => z ≤ q)) = Q at hret ⊢
  rw [e_Reader_takeTextRow] at hf
  obtain ⟨J50, eJ50, hf⟩ := b_let_inv hf
  have w50 : ∀ (x1 : Int32) (M : hM) (H : Heap) (locs : List Loc) (ls : Array Slot) (cells slots : Nat), (J50 x1).1 M = some Z → hm_I D dA hCl z k1 s M H locs cells slots → lv_has ls 2 [(0, .ref h0), (1, .int x1)] → W p l e R s m args below meth c H locs cells slots Q (F0 m 50 ls []) := by
    intro x1 M H locs ls cells slots hf hI hl
    rw [eJ50] at hf
    obtain ⟨J156, eJ156, hf⟩ := b_let_inv hf
    have w156 : ∀ (y0 : Int32) (M : hM) (H : Heap) (locs : List Loc) (ls : Array Slot) (cells slots : Nat), (J156 y0).1 M = some Z → hm_I D dA hCl z k1 s M H locs cells slots → lv_has ls 2 [] → W p l e R s m args below meth c H locs cells slots Q (F0 m 156 ls [.int y0]) := by
      intro y0 M H locs ls cells slots hf hI hl
      rw [eJ156] at hf
      exact hret _ _ _ _ _ _ _ _ d_Reader_takeTextRow_156 hf hI
    refine lv_iload_n S.1 S.2.1 d_Reader_takeTextRow_50 rfl (lv_at hl 1 rfl) ?_
    by_cases hc0 : x1 = (-1)
    · have hf := b_if_t hc0 hf
      refine lv_lookup (off := 49) (tgt := 100) S.1 S.2.1 d_Reader_takeTextRow_51 (by decide) (by rw [hc0] <;> rfl) (by decide) ?_
      refine lv_aload_n S.1 S.2.1 d_Reader_takeTextRow_100 rfl (lv_at hl 0 rfl) ?_
      refine x_getR (ci := 6) (k := 0) S hK hI (fun w h => List.mem_cons_of_mem _ (i_Reader w h)) rfl (by decide) (List.mem_cons_of_mem _ wd_15) rfl d_Reader_takeTextRow_101 hf (fun r1 hf => ?_)
      refine lv_aload_n S.1 S.2.1 d_Reader_takeTextRow_104 rfl (lv_at hl 0 rfl) ?_
      refine x_getR (ci := 6) (k := 0) S hK hI (fun w h => List.mem_cons_of_mem _ (i_Reader w h)) rfl (by decide) (List.mem_cons_of_mem _ wd_15) rfl d_Reader_takeTextRow_105 hf (fun r2 hf => ?_)
      obtain ⟨a3, ea3, hg⟩ := b_nn_inv hf
      have hI0 := hI
      have hl0 := hl
      clear hf hI hl
      subst ea3
      have hf := hg
      have hI := hI0
      have hl := hl0
      clear hg hI0 hl0
      refine x_getI (ci := 8) (k := 4) S hK hI (fun w h => List.mem_cons_of_mem _ (i_Scan w h)) rfl (by decide) (List.mem_cons_of_mem _ wd_97) rfl d_Reader_takeTextRow_108 hf (fun v4 hf => ?_)
      obtain ⟨a5, ea5, hg⟩ := b_nn_inv hf
      have hI0 := hI
      have hl0 := hl
      clear hf hI hl
      subst ea5
      have hf := hg
      have hI := hI0
      have hl := hl0
      clear hg hI0 hl0
      obtain ⟨⟨fs9, hefs9⟩, hf⟩ := b_is_inv hf
      obtain ⟨v6, N7, hg8, hf⟩ := b_call_inv hf
      refine x_call hI (hm_mo hg8) (va_runV (As := [.int v4]) (rest := []) S (c_Scan_refuse l hg8) (cwV 1 S.2.2.2.2 (gi_V wd_81 wd_82 wd_83 wd_9 wd_84) rfl rfl rfl (by decide +kernel) ⟨Nat.le_trans (Nat.le_of_ble_eq_true rfl) hRf.1, Nat.le_trans (Nat.le_of_ble_eq_true rfl) hRf.2⟩) ⟨hm_B.blind, va_recv hK (hI.1.one hefs9) (ci := 8) (q0 := 0) rfl rfl, fun U hU hW => ⟨rfl, hm_B.of hK hG hI hU hW⟩⟩ rfl rfl hl.1 rfl (lv_room (Nat.le_of_ble_eq_true rfl)) d_Reader_takeTextRow_111 (hx_fit hI hR (hm_mo hg8) (hm_mo hf))) (fun H locs cells slots hI => ?_)
      refine W.eq (g2 := F0 m 114 ls [.int v6]) rfl ?_
      exact hret _ _ _ _ _ _ _ _ d_Reader_takeTextRow_114 hf hI
    · have hf := b_if_f hc0 hf
      by_cases hc1 : x1 = 7
      · have hf := b_if_t hc1 hf
        refine lv_lookup (off := 64) (tgt := 115) S.1 S.2.1 d_Reader_takeTextRow_51 (by decide) (by rw [hc1] <;> rfl) (by decide) ?_
        refine lv_aload_n S.1 S.2.1 d_Reader_takeTextRow_115 rfl (lv_at hl 0 rfl) ?_
        obtain ⟨⟨fs13, hefs13⟩, hf⟩ := b_is_inv hf
        obtain ⟨v10, N11, hg12, hf⟩ := b_call_inv hf
        refine x_call hI (hm_mo hg12) (va_runV (As := []) (rest := []) S (c_Reader_takeProvided l hg12) (cwV 0 S.2.2.2.2 (gi_V wd_166 wd_167 wd_168 wd_5 wd_169) rfl rfl rfl (by decide +kernel) ⟨Nat.le_trans (Nat.le_of_ble_eq_true rfl) hRf.1, Nat.le_trans (Nat.le_of_ble_eq_true rfl) hRf.2⟩) ⟨hm_B.blind, va_recv hK (hI.1.one hefs13) (ci := 6) (q0 := 0) rfl rfl, fun U hU hW => ⟨rfl, hm_B.of hK hG hI hU hW⟩⟩ rfl rfl hl.1 rfl (lv_room (Nat.le_of_ble_eq_true rfl)) d_Reader_takeTextRow_116 (hx_fit hI hR (hm_mo hg12) (hm_mo hf))) (fun H locs cells slots hI => ?_)
        refine W.eq (g2 := F0 m 119 ls [.int v10]) rfl ?_
        exact hret _ _ _ _ _ _ _ _ d_Reader_takeTextRow_119 hf hI
      · have hf := b_if_f hc1 hf
        by_cases hc2 : x1 = 9
        · have hf := b_if_t hc2 hf
          refine lv_lookup (off := 69) (tgt := 120) S.1 S.2.1 d_Reader_takeTextRow_51 (by decide) (by rw [hc2] <;> rfl) (by decide) ?_
          refine lv_aload_n S.1 S.2.1 d_Reader_takeTextRow_120 rfl (lv_at hl 0 rfl) ?_
          obtain ⟨⟨fs17, hefs17⟩, hf⟩ := b_is_inv hf
          obtain ⟨v14, N15, hg16, hf⟩ := b_call_inv hf
          refine x_call hI (hm_mo hg16) (va_runV (As := []) (rest := []) S (c_Reader_takeFeature l hg16) (cwV 0 S.2.2.2.2 (gi_V wd_188 wd_189 wd_190 wd_5 wd_191) rfl rfl rfl (by decide +kernel) ⟨Nat.le_trans (Nat.le_of_ble_eq_true rfl) hRf.1, Nat.le_trans (Nat.le_of_ble_eq_true rfl) hRf.2⟩) ⟨hm_B.blind, va_recv hK (hI.1.one hefs17) (ci := 6) (q0 := 0) rfl rfl, fun U hU hW => ⟨rfl, hm_B.of hK hG hI hU hW⟩⟩ rfl rfl hl.1 rfl (lv_room (Nat.le_of_ble_eq_true rfl)) d_Reader_takeTextRow_121 (hx_fit hI hR (hm_mo hg16) (hm_mo hf))) (fun H locs cells slots hI => ?_)
          refine W.eq (g2 := F0 m 124 ls [.int v14]) rfl ?_
          exact hret _ _ _ _ _ _ _ _ d_Reader_takeTextRow_124 hf hI
        · have hf := b_if_f hc2 hf
          by_cases hc3 : x1 = 14
          · have hf := b_if_t hc3 hf
            refine lv_lookup (off := 74) (tgt := 125) S.1 S.2.1 d_Reader_takeTextRow_51 (by decide) (by rw [hc3] <;> rfl) (by decide) ?_
            refine lv_aload_n S.1 S.2.1 d_Reader_takeTextRow_125 rfl (lv_at hl 0 rfl) ?_
            obtain ⟨⟨fs21, hefs21⟩, hf⟩ := b_is_inv hf
            obtain ⟨v18, N19, hg20, hf⟩ := b_call_inv hf
            refine x_call hI (hm_mo hg20) (va_runV (As := []) (rest := []) S (c_Reader_takeScript l hg20) (cwV 0 S.2.2.2.2 (gi_V wd_192 wd_193 wd_194 wd_5 wd_195) rfl rfl rfl (by decide +kernel) ⟨Nat.le_trans (Nat.le_of_ble_eq_true rfl) hRf.1, Nat.le_trans (Nat.le_of_ble_eq_true rfl) hRf.2⟩) ⟨hm_B.blind, va_recv hK (hI.1.one hefs21) (ci := 6) (q0 := 0) rfl rfl, fun U hU hW => ⟨rfl, hm_B.of hK hG hI hU hW⟩⟩ rfl rfl hl.1 rfl (lv_room (Nat.le_of_ble_eq_true rfl)) d_Reader_takeTextRow_126 (hx_fit hI hR (hm_mo hg20) (hm_mo hf))) (fun H locs cells slots hI => ?_)
            refine W.eq (g2 := F0 m 129 ls [.int v18]) rfl ?_
            exact hret _ _ _ _ _ _ _ _ d_Reader_takeTextRow_129 hf hI
          · have hf := b_if_f hc3 hf
            by_cases hc4 : x1 = 15
            · have hf := b_if_t hc4 hf
              refine lv_lookup (off := 79) (tgt := 130) S.1 S.2.1 d_Reader_takeTextRow_51 (by decide) (by rw [hc4] <;> rfl) (by decide) ?_
              refine lv_aload_n S.1 S.2.1 d_Reader_takeTextRow_130 rfl (lv_at hl 0 rfl) ?_
              obtain ⟨⟨fs25, hefs25⟩, hf⟩ := b_is_inv hf
              obtain ⟨v22, N23, hg24, hf⟩ := b_call_inv hf
              refine x_call hI (hm_mo hg24) (va_runV (As := []) (rest := []) S (c_Reader_takeFile l hg24) (cwV 0 S.2.2.2.2 (gi_V wd_198 wd_199 wd_200 wd_5 wd_201) rfl rfl rfl (by decide +kernel) ⟨Nat.le_trans (Nat.le_of_ble_eq_true rfl) hRf.1, Nat.le_trans (Nat.le_of_ble_eq_true rfl) hRf.2⟩) ⟨hm_B.blind, va_recv hK (hI.1.one hefs25) (ci := 6) (q0 := 0) rfl rfl, fun U hU hW => ⟨rfl, hm_B.of hK hG hI hU hW⟩⟩ rfl rfl hl.1 rfl (lv_room (Nat.le_of_ble_eq_true rfl)) d_Reader_takeTextRow_131 (hx_fit hI hR (hm_mo hg24) (hm_mo hf))) (fun H locs cells slots hI => ?_)
              refine W.eq (g2 := F0 m 134 ls [.int v22]) rfl ?_
              exact hret _ _ _ _ _ _ _ _ d_Reader_takeTextRow_134 hf hI
            · have hf := b_if_f hc4 hf
              refine lv_lookup (off := 84) (tgt := 135) S.1 S.2.1 d_Reader_takeTextRow_51 (by decide) (by rw [lv_osw (k := (-1)) hc0 (by decide), lv_osw (k := 7) hc1 (by decide), lv_osw (k := 9) hc2 (by decide), lv_osw (k := 14) hc3 (by decide), lv_osw (k := 15) hc4 (by decide)] <;> rfl) (by decide) ?_
              refine lv_iload_n S.1 S.2.1 d_Reader_takeTextRow_135 rfl (lv_at hl 1 rfl) ?_
              obtain ⟨v26, N27, hg28, hf⟩ := b_call_inv hf
              refine x_call hI (hm_mo hg28) (va_runS (As := [.int x1]) (rest := []) S (c_Kind_isList l hg28) (va_cwS 1 S.2.2.2.2 (gi_S wd_202 wd_203 wd_204 wd_205) rfl rfl rfl (by decide +kernel) ⟨Nat.le_trans (Nat.le_of_ble_eq_true rfl) hRf.1, Nat.le_trans (Nat.le_of_ble_eq_true rfl) hRf.2⟩) ⟨hm_B.blind, fun U hU hW => ⟨rfl, hm_B.of hK hG hI hU hW⟩⟩ rfl rfl hl.1 rfl (lv_room (Nat.le_of_ble_eq_true rfl)) d_Reader_takeTextRow_136 (hx_fit hI hR (hm_mo hg28) (hm_mo hf))) (fun H locs cells slots hI => ?_)
              refine W.eq (g2 := F0 m 139 ls [.int v26]) rfl ?_
              refine lv_if_eq (tgt := 151) S.1 S.2.1 d_Reader_takeTextRow_139 (by decide) (fun hc => ?_) (fun hc => ?_)
              · have hf := b_if_t hc hf
                refine lv_aload_n S.1 S.2.1 d_Reader_takeTextRow_151 rfl (lv_at hl 0 rfl) ?_
                refine lv_iload_n S.1 S.2.1 d_Reader_takeTextRow_152 rfl (lv_at hl 1 rfl) ?_
                obtain ⟨⟨fs32, hefs32⟩, hf⟩ := b_is_inv hf
                obtain ⟨v29, N30, hg31, hf⟩ := b_call_inv hf
                refine x_call hI (hm_mo hg31) (va_runV (As := [.int x1]) (rest := []) S (c_Reader_takeRanged l hg31) (cwV 1 S.2.2.2.2 (gi_V wd_227 wd_228 wd_229 wd_5 wd_230) rfl rfl rfl (by decide +kernel) ⟨Nat.le_trans (Nat.le_of_ble_eq_true rfl) hRf.1, Nat.le_trans (Nat.le_of_ble_eq_true rfl) hRf.2⟩) ⟨hm_B.blind, va_recv hK (hI.1.one hefs32) (ci := 6) (q0 := 0) rfl rfl, fun U hU hW => ⟨rfl, hm_B.of hK hG hI hU hW⟩⟩ rfl rfl hl.1 rfl (lv_room (Nat.le_of_ble_eq_true rfl)) d_Reader_takeTextRow_153 (hx_fit hI hR (hm_mo hg31) (hm_mo hf))) (fun H locs cells slots hI => ?_)
                refine W.eq (g2 := F0 m 156 ls [.int v29]) rfl ?_
                exact w156 v29 _ _ _ _ _ _ hf hI (lv_sub hl [] rfl)
              · have hf := b_if_f hc hf
                refine lv_aload_n S.1 S.2.1 d_Reader_takeTextRow_142 rfl (lv_at hl 0 rfl) ?_
                refine lv_iload_n S.1 S.2.1 d_Reader_takeTextRow_143 rfl (lv_at hl 1 rfl) ?_
                refine lv_null S.1 S.2.1 d_Reader_takeTextRow_144 ?_
                obtain ⟨⟨fs36, hefs36⟩, hf⟩ := b_is_inv hf
                obtain ⟨v33, N34, hg35, hf⟩ := b_call_inv hf
                refine x_call hI (hm_mo hg35) (va_runV (As := [.int x1, .null]) (rest := []) S (c_Reader_takeNames l hg35) (cwV 2 S.2.2.2.2 (gi_V wd_184 wd_185 wd_186 wd_5 wd_187) rfl rfl rfl (by decide +kernel) ⟨Nat.le_trans (Nat.le_of_ble_eq_true rfl) hRf.1, Nat.le_trans (Nat.le_of_ble_eq_true rfl) hRf.2⟩) ⟨hm_B.blind, va_recv hK (hI.1.one hefs36) (ci := 6) (q0 := 0) rfl rfl, fun U hU hW => ⟨rfl, hm_B.of hK hG hI hU hW⟩⟩ rfl rfl hl.1 rfl (lv_room (Nat.le_of_ble_eq_true rfl)) d_Reader_takeTextRow_145 (hx_fit hI hR (hm_mo hg35) (hm_mo hf))) (fun H locs cells slots hI => ?_)
                refine W.eq (g2 := F0 m 148 ls [.int v33]) rfl ?_
                refine lv_goto (tgt := 156) S.1 S.2.1 d_Reader_takeTextRow_148 (by decide) ?_
                exact w156 v33 _ _ _ _ _ _ hf hI (lv_sub hl [] rfl)
  refine lv_aload_n S.1 S.2.1 d_Reader_takeTextRow_0 rfl (lv_at hl 0 rfl) ?_
  refine x_getR (ci := 6) (k := 0) S hK hI (fun w h => List.mem_cons_of_mem _ (i_Reader w h)) rfl (by decide) (List.mem_cons_of_mem _ wd_15) rfl d_Reader_takeTextRow_1 hf (fun r37 hf => ?_)
  obtain ⟨a38, ea38, hg⟩ := b_nn_inv hf
  have hI0 := hI
  have hl0 := hl
  clear hf hI hl
  subst ea38
  have hf := hg
  have hI := hI0
  have hl := hl0
  clear hg hI0 hl0
  obtain ⟨⟨fs42, hefs42⟩, hf⟩ := b_is_inv hf
  obtain ⟨v39, N40, hg41, hf⟩ := b_call_inv hf
  refine x_call hI (hm_mo hg41) (va_runV (As := []) (rest := []) S (c_Scan_takeWord l hg41) (cwV 0 S.2.2.2.2 (gi_V wd_231 wd_113 wd_114 wd_9 wd_115) rfl rfl rfl (by decide +kernel) ⟨Nat.le_trans (Nat.le_of_ble_eq_true rfl) hRf.1, Nat.le_trans (Nat.le_of_ble_eq_true rfl) hRf.2⟩) ⟨hm_B.blind, va_recv hK (hI.1.one hefs42) (ci := 8) (q0 := 0) rfl rfl, fun U hU hW => ⟨rfl, hm_B.of hK hG hI hU hW⟩⟩ rfl rfl hl.1 rfl (lv_room (Nat.le_of_ble_eq_true rfl)) d_Reader_takeTextRow_4 (hx_fit hI hR (hm_mo hg41) (hm_mo hf))) (fun H locs cells slots hI => ?_)
  refine W.eq (g2 := F0 m 7 ls [.int v39]) rfl ?_
  refine lv_if_ne (tgt := 12) S.1 S.2.1 d_Reader_takeTextRow_7 (by decide) (fun hc => ?_) (fun hc => ?_)
  · have hf := b_if_f hc hf
    refine lv_aload_n S.1 S.2.1 d_Reader_takeTextRow_12 rfl (lv_at hl 0 rfl) ?_
    refine lv_aload_n S.1 S.2.1 d_Reader_takeTextRow_13 rfl (lv_at hl 0 rfl) ?_
    refine x_getR (ci := 6) (k := 0) S hK hI (fun w h => List.mem_cons_of_mem _ (i_Reader w h)) rfl (by decide) (List.mem_cons_of_mem _ wd_15) rfl d_Reader_takeTextRow_14 hf (fun r43 hf => ?_)
    obtain ⟨a44, ea44, hg⟩ := b_nn_inv hf
    have hI0 := hI
    have hl0 := hl
    clear hf hI hl
    subst ea44
    have hf := hg
    have hI := hI0
    have hl := hl0
    clear hg hI0 hl0
    refine x_getI (ci := 8) (k := 4) S hK hI (fun w h => List.mem_cons_of_mem _ (i_Scan w h)) rfl (by decide) (List.mem_cons_of_mem _ wd_97) rfl d_Reader_takeTextRow_17 hf (fun v45 hf => ?_)
    refine x_put (ci := 6) (k := 8) S hK hI (fun w h => List.mem_cons_of_mem _ (i_Reader w h)) t_Reader t_Reader_ok n_Reader rfl (by decide) (List.mem_cons_of_mem _ wd_148) rfl (Or.inl rfl) (by rfl) rfl d_Reader_takeTextRow_20 hf (fun M H locs hf hI => ?_)
    refine lv_aload_n S.1 S.2.1 d_Reader_takeTextRow_23 rfl (lv_at hl 0 rfl) ?_
    obtain ⟨⟨fs49, hefs49⟩, hf⟩ := b_is_inv hf
    obtain ⟨v46, N47, hg48, hf⟩ := b_call_inv hf
    refine x_call hI (hm_mo hg48) (va_runV (As := []) (rest := []) S (c_Reader_kindOfFirstWord l hg48) (cwV 0 S.2.2.2.2 (gi_V wd_241 wd_242 wd_243 wd_5 wd_244) rfl rfl rfl (by decide +kernel) ⟨Nat.le_trans (Nat.le_of_ble_eq_true rfl) hRf.1, Nat.le_trans (Nat.le_of_ble_eq_true rfl) hRf.2⟩) ⟨hm_B.blind, va_recv hK (hI.1.one hefs49) (ci := 6) (q0 := 0) rfl rfl, fun U hU hW => ⟨rfl, hm_B.of hK hG hI hU hW⟩⟩ rfl rfl hl.1 rfl (lv_room (Nat.le_of_ble_eq_true rfl)) d_Reader_takeTextRow_24 (hx_fit hI hR (hm_mo hg48) (hm_mo hf))) (fun H locs cells slots hI => ?_)
    refine W.eq (g2 := F0 m 27 ls [.int v46]) rfl ?_
    refine x_istore_n (lv2 := [(0, .ref h0)]) S d_Reader_takeTextRow_27 rfl hl (by decide) [0] rfl ⟨⟨(by decide : (0 : Nat) ≠ 1), fun _ => rfl⟩, trivial⟩ (fun ls hl => ?_)
    refine lv_iload_n S.1 S.2.1 d_Reader_takeTextRow_28 rfl (lv_at hl 0 rfl) ?_
    refine lv_iconst (v := 4) S.1 S.2.1 d_Reader_takeTextRow_29 (by decide) ?_
    refine lv_icmp_ne (tgt := 50) S.1 S.2.1 d_Reader_takeTextRow_30 (by decide) (fun hc => ?_) (fun hc => ?_)
    · have hf := b_if_f hc hf
      exact w50 v46 _ _ _ _ _ _ hf hI (lv_sub hl [1, 0] rfl)
    · have hf := b_if_t hc hf
      refine lv_aload_n S.1 S.2.1 d_Reader_takeTextRow_33 rfl (lv_at hl 1 rfl) ?_
      refine x_getR (ci := 6) (k := 0) S hK hI (fun w h => List.mem_cons_of_mem _ (i_Reader w h)) rfl (by decide) (List.mem_cons_of_mem _ wd_15) rfl d_Reader_takeTextRow_34 hf (fun r50 hf => ?_)
      obtain ⟨a51, ea51, hg⟩ := b_nn_inv hf
      have hI0 := hI
      have hl0 := hl
      clear hf hI hl
      subst ea51
      have hf := hg
      have hI := hI0
      have hl := hl0
      clear hg hI0 hl0
      obtain ⟨⟨fs55, hefs55⟩, hf⟩ := b_is_inv hf
      obtain ⟨v52, N53, hg54, hf⟩ := b_call_inv hf
      refine x_call hI (hm_mo hg54) (va_runV (As := []) (rest := []) S (c_Scan_takeWord l hg54) (cwV 0 S.2.2.2.2 (gi_V wd_231 wd_113 wd_114 wd_9 wd_115) rfl rfl rfl (by decide +kernel) ⟨Nat.le_trans (Nat.le_of_ble_eq_true rfl) hRf.1, Nat.le_trans (Nat.le_of_ble_eq_true rfl) hRf.2⟩) ⟨hm_B.blind, va_recv hK (hI.1.one hefs55) (ci := 8) (q0 := 0) rfl rfl, fun U hU hW => ⟨rfl, hm_B.of hK hG hI hU hW⟩⟩ rfl rfl hl.1 rfl (lv_room (Nat.le_of_ble_eq_true rfl)) d_Reader_takeTextRow_37 (hx_fit hI hR (hm_mo hg54) (hm_mo hf))) (fun H locs cells slots hI => ?_)
      refine W.eq (g2 := F0 m 40 ls [.int v52]) rfl ?_
      refine lv_if_ne (tgt := 45) S.1 S.2.1 d_Reader_takeTextRow_40 (by decide) (fun hc => ?_) (fun hc => ?_)
      · have hf := b_if_f hc hf
        refine lv_aload_n S.1 S.2.1 d_Reader_takeTextRow_45 rfl (lv_at hl 1 rfl) ?_
        obtain ⟨⟨fs59, hefs59⟩, hf⟩ := b_is_inv hf
        obtain ⟨v56, N57, hg58, hf⟩ := b_call_inv hf
        refine x_call hI (hm_mo hg58) (va_runV (As := []) (rest := []) S (c_Reader_kindOfNeedWord l hg58) (cwV 0 S.2.2.2.2 (gi_V wd_248 wd_249 wd_250 wd_5 wd_251) rfl rfl rfl (by decide +kernel) ⟨Nat.le_trans (Nat.le_of_ble_eq_true rfl) hRf.1, Nat.le_trans (Nat.le_of_ble_eq_true rfl) hRf.2⟩) ⟨hm_B.blind, va_recv hK (hI.1.one hefs59) (ci := 6) (q0 := 0) rfl rfl, fun U hU hW => ⟨rfl, hm_B.of hK hG hI hU hW⟩⟩ rfl rfl hl.1 rfl (lv_room (Nat.le_of_ble_eq_true rfl)) d_Reader_takeTextRow_46 (hx_fit hI hR (hm_mo hg58) (hm_mo hf))) (fun H locs cells slots hI => ?_)
        refine W.eq (g2 := F0 m 49 ls [.int v56]) rfl ?_
        refine x_istore_n (lv2 := [(0, .ref h0)]) S d_Reader_takeTextRow_49 rfl hl (by decide) [1] rfl ⟨⟨(by decide : (0 : Nat) ≠ 1), fun _ => rfl⟩, trivial⟩ (fun ls hl => ?_)
        exact w50 v56 _ _ _ _ _ _ hf hI (lv_sub hl [1, 0] rfl)
      · have hf := b_if_t hc hf
        refine lv_iconst (v := 0) S.1 S.2.1 d_Reader_takeTextRow_43 (by decide) ?_
        exact hret _ _ _ _ _ _ _ _ d_Reader_takeTextRow_44 hf hI
  · have hf := b_if_t hc hf
    refine lv_iconst (v := 0) S.1 S.2.1 d_Reader_takeTextRow_10 (by decide) ?_
    exact hret _ _ _ _ _ _ _ _ d_Reader_takeTextRow_11 hf hI
set_option maxHeartbeats 4000000 in
set_option maxRecDepth 100000 in
theorem c_Reader_takeHead (l : Launch) {D : va_G} {dA : Nat → ClassId} {aK aV : Nat → Nat} {z : Nat} {N : Nat} {h0 : Nat} {M : hM} {Z : Int32 × hM} (hf : (f_Reader_takeHead N h0 ).1 M = some Z) : Met l y_Reader_takeHead w_Reader_takeHead ({ frames := 5, cells := Z.2.2.1 - M.2.1, slots := Z.2.2.2 - M.2.2, locals := 107 }) (va_Pc [.ref h0] (hm_B D dA hCl (hTy dA) sT aK aV z M)) (hm_Q D dA hCl (hTy dA) sT aK aV z (some (.int Z.1)) Z.2) (Z.2.2.1 - M.2.1) (Z.2.2.2 - M.2.2) (fun q => z ≤ q) := by
  refine Met.ofW (cc := b_Reader_takeHead) (maxL := 1) (ret := (some .boolean)) (by decide) rfl ?_
  intro p e s m args below meth c s₁ B hml hv
  obtain ⟨hav, hB⟩ := hv
  have S : CallFix p m c b_Reader_takeHead 1 s args w_Reader_takeHead R_Reader := ⟨B.exec, B.bytes, hml, findClass_of_methodNamed B.named, atoms_spec (ws := w_Reader_takeHead) B.pre⟩
  have hr : meth.sig.returnType = (some .boolean) := B.returns
  have hlocks := B.notSynchronized
  have hK := hB.2.2.1
  have hG := hB.2.2.2.2.2
  have hI := hm_I.start hB
  rw [← hB.2.1]
  generalize M.2.2 = k1 at hI ⊢
  refine W.eq (g2 := F0 m 0 ((lg_sl ([.ref h0]) ++ List.replicate (1 - (lg_sl ([.ref h0])).length) Slot.unset).toArray) []) (by rw [hav]; exact lg_entry_eq m ([.ref h0]) 1) ?_
  have hl := lv_entry ([.ref h0]) (n := 1) (Nat.le_of_ble_eq_true rfl)
  generalize (lg_sl ([.ref h0]) ++ List.replicate (1 - (lg_sl ([.ref h0])).length) Slot.unset).toArray = ls at hl ⊢
  simp only [lvA_nil, lvA_i, lvA_l, lvA_a, lvA_r, Nat.zero_add, Nat.reduceAdd] at hl
  have hret : ∀ (v : Int32) (M : hM) (H : Heap) (locs : List Loc) (cells slots : Nat) (ls : Array Slot) (pc : Nat), decode b_Reader_takeHead pc = .ok (.ireturn, 1) → (b_retN .boolean v).1 M = some Z → hm_I D dA hCl z k1 s M H locs cells slots → W p l e (headSpec w_Reader_takeHead { frames := 5, cells := Z.2.2.1 - s.heap.size, slots := Z.2.2.2 - k1, locals := 107 }).room s m args below meth c H locs cells slots (MQ below (hm_Q D dA hCl (hTy dA) sT aK aV z (some (.int Z.1)) Z.2) args s (Z.2.2.1 - s.heap.size) (Z.2.2.2 - k1) (fun q => z ≤ q)) (F0 m pc ls [.int v]) := fun v M H locs cells slots ls pc hdg hf hI => x_retn S hK hG hI hr hlocks hdg hf
  have hR : Z.2.2.1 - s.heap.size ≤ (headSpec w_Reader_takeHead { frames := 5, cells := Z.2.2.1 - s.heap.size, slots := Z.2.2.2 - k1, locals := 107 }).room.cells ∧ Z.2.2.2 - k1 ≤ (headSpec w_Reader_takeHead { frames := 5, cells := Z.2.2.1 - s.heap.size, slots := Z.2.2.2 - k1, locals := 107 }).room.slots := ⟨Nat.le_refl _, Nat.le_refl _⟩
  have hRf : 5 ≤ (headSpec w_Reader_takeHead { frames := 5, cells := Z.2.2.1 - s.heap.size, slots := Z.2.2.2 - k1, locals := 107 }).room.frames ∧ 107 ≤ (headSpec w_Reader_takeHead { frames := 5, cells := Z.2.2.1 - s.heap.size, slots := Z.2.2.2 - k1, locals := 107 }).room.locals := ⟨Nat.le_refl _, Nat.le_refl _⟩
  generalize (headSpec w_Reader_takeHead { frames := 5, cells := Z.2.2.1 - s.heap.size, slots := Z.2.2.2 - k1, locals := 107 }).room = R at hret hR hRf ⊢
  generalize (MQ below (hm_Q D dA hCl (hTy dA) sT aK aV z (some (.int Z.1)) Z.2) args s (Z.2.2.1 - s.heap.size) (Z.2.2.2 - k1) (fun q => z ≤ q)) = Q at hret ⊢
  rw [e_Reader_takeHead] at hf
  refine lv_aload_n S.1 S.2.1 d_Reader_takeHead_0 rfl (lv_at hl 0 rfl) ?_
  refine x_getR (ci := 6) (k := 0) S hK hI (fun w h => List.mem_cons_of_mem _ (i_Reader w h)) rfl (by decide) (List.mem_cons_of_mem _ wd_15) rfl d_Reader_takeHead_1 hf (fun r1 hf => ?_)
  obtain ⟨a2, ea2, hg⟩ := b_nn_inv hf
  have hI0 := hI
  have hl0 := hl
  clear hf hI hl
  subst ea2
  have hf := hg
  have hI := hI0
  have hl := hl0
  clear hg hI0 hl0
  obtain ⟨⟨fs6, hefs6⟩, hf⟩ := b_is_inv hf
  obtain ⟨v3, N4, hg5, hf⟩ := b_call_inv hf
  refine x_call hI (hm_mo hg5) (va_runV (As := []) (rest := []) S (c_Scan_takeWord l hg5) (cwV 0 S.2.2.2.2 (gi_V wd_231 wd_113 wd_114 wd_9 wd_115) rfl rfl rfl (by decide +kernel) ⟨Nat.le_trans (Nat.le_of_ble_eq_true rfl) hRf.1, Nat.le_trans (Nat.le_of_ble_eq_true rfl) hRf.2⟩) ⟨hm_B.blind, va_recv hK (hI.1.one hefs6) (ci := 8) (q0 := 0) rfl rfl, fun U hU hW => ⟨rfl, hm_B.of hK hG hI hU hW⟩⟩ rfl rfl hl.1 rfl (lv_room (Nat.le_of_ble_eq_true rfl)) d_Reader_takeHead_4 (hx_fit hI hR (hm_mo hg5) (hm_mo hf))) (fun H locs cells slots hI => ?_)
  refine W.eq (g2 := F0 m 7 ls [.int v3]) rfl ?_
  refine lv_if_ne (tgt := 12) S.1 S.2.1 d_Reader_takeHead_7 (by decide) (fun hc => ?_) (fun hc => ?_)
  · have hf := b_if_f hc hf
    refine lv_aload_n S.1 S.2.1 d_Reader_takeHead_12 rfl (lv_at hl 0 rfl) ?_
    refine x_getR (ci := 6) (k := 0) S hK hI (fun w h => List.mem_cons_of_mem _ (i_Reader w h)) rfl (by decide) (List.mem_cons_of_mem _ wd_15) rfl d_Reader_takeHead_13 hf (fun r7 hf => ?_)
    refine va_ldcS S.1 S.2.1 S.2.2.2.1 (hG.1 0 _ rfl).1 d_Reader_takeHead_16 ?_
    obtain ⟨a8, ea8, hg⟩ := b_nn_inv hf
    have hI0 := hI
    have hl0 := hl
    clear hf hI hl
    subst ea8
    have hf := hg
    have hI := hI0
    have hl := hl0
    clear hg hI0 hl0
    obtain ⟨⟨fs12, hefs12⟩, hf⟩ := b_is_inv hf
    obtain ⟨v9, N10, hg11, hf⟩ := b_call_inv hf
    refine x_call hI (hm_mo hg11) (va_runV (As := [.ref (aK 0)]) (rest := []) S (c_Scan_isWord l hg11) (cwV 1 S.2.2.2.2 (gi_V wd_237 wd_238 wd_239 wd_9 wd_240) rfl rfl rfl (by decide +kernel) ⟨Nat.le_trans (Nat.le_of_ble_eq_true rfl) hRf.1, Nat.le_trans (Nat.le_of_ble_eq_true rfl) hRf.2⟩) ⟨hm_B.blind, va_recv hK (hI.1.one hefs12) (ci := 8) (q0 := 0) rfl rfl, fun U hU hW => ⟨rfl, hm_B.of hK hG hI hU hW⟩⟩ rfl rfl hl.1 rfl (lv_room (Nat.le_of_ble_eq_true rfl)) d_Reader_takeHead_18 (hx_fit hI hR (hm_mo hg11) (hm_mo hf))) (fun H locs cells slots hI => ?_)
    refine W.eq (g2 := F0 m 21 ls [.int v9]) rfl ?_
    refine lv_if_ne (tgt := 39) S.1 S.2.1 d_Reader_takeHead_21 (by decide) (fun hc => ?_) (fun hc => ?_)
    · have hf := b_if_f hc hf
      refine lv_aload_n S.1 S.2.1 d_Reader_takeHead_39 rfl (lv_at hl 0 rfl) ?_
      refine x_getR (ci := 6) (k := 0) S hK hI (fun w h => List.mem_cons_of_mem _ (i_Reader w h)) rfl (by decide) (List.mem_cons_of_mem _ wd_15) rfl d_Reader_takeHead_40 hf (fun r13 hf => ?_)
      obtain ⟨a14, ea14, hg⟩ := b_nn_inv hf
      have hI0 := hI
      have hl0 := hl
      clear hf hI hl
      subst ea14
      have hf := hg
      have hI := hI0
      have hl := hl0
      clear hg hI0 hl0
      obtain ⟨⟨fs18, hefs18⟩, hf⟩ := b_is_inv hf
      obtain ⟨v15, N16, hg17, hf⟩ := b_call_inv hf
      refine x_call hI (hm_mo hg17) (va_runV (As := []) (rest := []) S (c_Scan_takeName l hg17) (cwV 0 S.2.2.2.2 (gi_V wd_116 wd_117 wd_118 wd_9 wd_119) rfl rfl rfl (by decide +kernel) ⟨Nat.le_trans (Nat.le_of_ble_eq_true rfl) hRf.1, Nat.le_trans (Nat.le_of_ble_eq_true rfl) hRf.2⟩) ⟨hm_B.blind, va_recv hK (hI.1.one hefs18) (ci := 8) (q0 := 0) rfl rfl, fun U hU hW => ⟨rfl, hm_B.of hK hG hI hU hW⟩⟩ rfl rfl hl.1 rfl (lv_room (Nat.le_of_ble_eq_true rfl)) d_Reader_takeHead_43 (hx_fit hI hR (hm_mo hg17) (hm_mo hf))) (fun H locs cells slots hI => ?_)
      refine W.eq (g2 := F0 m 46 ls [.int v15]) rfl ?_
      refine lv_if_ne (tgt := 51) S.1 S.2.1 d_Reader_takeHead_46 (by decide) (fun hc => ?_) (fun hc => ?_)
      · have hf := b_if_f hc hf
        refine lv_aload_n S.1 S.2.1 d_Reader_takeHead_51 rfl (lv_at hl 0 rfl) ?_
        refine lv_aload_n S.1 S.2.1 d_Reader_takeHead_52 rfl (lv_at hl 0 rfl) ?_
        refine x_getR (ci := 6) (k := 0) S hK hI (fun w h => List.mem_cons_of_mem _ (i_Reader w h)) rfl (by decide) (List.mem_cons_of_mem _ wd_15) rfl d_Reader_takeHead_53 hf (fun r19 hf => ?_)
        obtain ⟨a20, ea20, hg⟩ := b_nn_inv hf
        have hI0 := hI
        have hl0 := hl
        clear hf hI hl
        subst ea20
        have hf := hg
        have hI := hI0
        have hl := hl0
        clear hg hI0 hl0
        obtain ⟨⟨fs24, hefs24⟩, hf⟩ := b_is_inv hf
        obtain ⟨r21, N22, hg23, hf⟩ := b_call_inv hf
        refine x_call hI (hm_mo hg23) (va_runV (As := []) (rest := [.ref h0]) S (c_Scan_takenName l hg23) (cwV 0 S.2.2.2.2 (gi_V wd_131 wd_132 wd_133 wd_9 wd_134) rfl rfl rfl (by decide +kernel) ⟨Nat.le_trans (Nat.le_of_ble_eq_true rfl) hRf.1, Nat.le_trans (Nat.le_of_ble_eq_true rfl) hRf.2⟩) ⟨hm_B.blind, va_recv hK (hI.1.one hefs24) (ci := 8) (q0 := 0) rfl rfl, fun U hU hW => ⟨rfl, hm_B.of hK hG hI hU hW⟩⟩ rfl rfl hl.1 rfl (lv_room (Nat.le_of_ble_eq_true rfl)) d_Reader_takeHead_56 (hx_fit hI hR (hm_mo hg23) (hm_mo hf))) (fun H locs cells slots hI => ?_)
        refine W.eq (g2 := F0 m 59 ls [va_rf r21, .ref h0]) rfl ?_
        refine x_put (ci := 6) (k := 6) S hK hI (fun w h => List.mem_cons_of_mem _ (i_Reader w h)) t_Reader t_Reader_ok n_Reader rfl (by decide) (List.mem_cons_of_mem _ wd_256) rfl (Or.inl rfl) (by rfl) (rf_fit _ _) d_Reader_takeHead_59 hf (fun M H locs hf hI => ?_)
        refine lv_aload_n S.1 S.2.1 d_Reader_takeHead_62 rfl (lv_at hl 0 rfl) ?_
        refine x_getR (ci := 6) (k := 0) S hK hI (fun w h => List.mem_cons_of_mem _ (i_Reader w h)) rfl (by decide) (List.mem_cons_of_mem _ wd_15) rfl d_Reader_takeHead_63 hf (fun r25 hf => ?_)
        obtain ⟨a26, ea26, hg⟩ := b_nn_inv hf
        have hI0 := hI
        have hl0 := hl
        clear hf hI hl
        subst ea26
        have hf := hg
        have hI := hI0
        have hl := hl0
        clear hg hI0 hl0
        obtain ⟨⟨fs30, hefs30⟩, hf⟩ := b_is_inv hf
        obtain ⟨v27, N28, hg29, hf⟩ := b_call_inv hf
        refine x_call hI (hm_mo hg29) (va_runV (As := []) (rest := []) S (c_Scan_takeVersion l hg29) (cwV 0 S.2.2.2.2 (gi_V wd_143 wd_144 wd_145 wd_9 wd_146) rfl rfl rfl (by decide +kernel) ⟨Nat.le_trans (Nat.le_of_ble_eq_true rfl) hRf.1, Nat.le_trans (Nat.le_of_ble_eq_true rfl) hRf.2⟩) ⟨hm_B.blind, va_recv hK (hI.1.one hefs30) (ci := 8) (q0 := 0) rfl rfl, fun U hU hW => ⟨rfl, hm_B.of hK hG hI hU hW⟩⟩ rfl rfl hl.1 rfl (lv_room (Nat.le_of_ble_eq_true rfl)) d_Reader_takeHead_66 (hx_fit hI hR (hm_mo hg29) (hm_mo hf))) (fun H locs cells slots hI => ?_)
        refine W.eq (g2 := F0 m 69 ls [.int v27]) rfl ?_
        refine lv_if_ne (tgt := 74) S.1 S.2.1 d_Reader_takeHead_69 (by decide) (fun hc => ?_) (fun hc => ?_)
        · have hf := b_if_f hc hf
          refine lv_aload_n S.1 S.2.1 d_Reader_takeHead_74 rfl (lv_at hl 0 rfl) ?_
          refine lv_aload_n S.1 S.2.1 d_Reader_takeHead_75 rfl (lv_at hl 0 rfl) ?_
          refine x_getR (ci := 6) (k := 0) S hK hI (fun w h => List.mem_cons_of_mem _ (i_Reader w h)) rfl (by decide) (List.mem_cons_of_mem _ wd_15) rfl d_Reader_takeHead_76 hf (fun r31 hf => ?_)
          obtain ⟨a32, ea32, hg⟩ := b_nn_inv hf
          have hI0 := hI
          have hl0 := hl
          clear hf hI hl
          subst ea32
          have hf := hg
          have hI := hI0
          have hl := hl0
          clear hg hI0 hl0
          refine x_getL (ci := 8) (k := 6) S hK hI (fun w h => List.mem_cons_of_mem _ (i_Scan w h)) rfl (by decide) (List.mem_cons_of_mem _ wd_147) rfl d_Reader_takeHead_79 hf (fun v33 hf => ?_)
          refine x_put (ci := 6) (k := 7) S hK hI (fun w h => List.mem_cons_of_mem _ (i_Reader w h)) t_Reader t_Reader_ok n_Reader rfl (by decide) (List.mem_cons_of_mem _ wd_257) rfl (Or.inl rfl) (by rfl) rfl d_Reader_takeHead_82 hf (fun M H locs hf hI => ?_)
          refine lv_aload_n S.1 S.2.1 d_Reader_takeHead_85 rfl (lv_at hl 0 rfl) ?_
          refine x_getR (ci := 6) (k := 0) S hK hI (fun w h => List.mem_cons_of_mem _ (i_Reader w h)) rfl (by decide) (List.mem_cons_of_mem _ wd_15) rfl d_Reader_takeHead_86 hf (fun r34 hf => ?_)
          refine lv_bipush (v := 59) S.1 S.2.1 d_Reader_takeHead_89 (by decide) ?_
          obtain ⟨a35, ea35, hg⟩ := b_nn_inv hf
          have hI0 := hI
          have hl0 := hl
          clear hf hI hl
          subst ea35
          have hf := hg
          have hI := hI0
          have hl := hl0
          clear hg hI0 hl0
          obtain ⟨⟨fs39, hefs39⟩, hf⟩ := b_is_inv hf
          obtain ⟨v36, N37, hg38, hf⟩ := b_call_inv hf
          refine x_call hI (hm_mo hg38) (va_runV (As := [.int 59]) (rest := []) S (c_Scan_takeSign l hg38) (cwV 1 S.2.2.2.2 (gi_V wd_174 wd_175 wd_176 wd_9 wd_177) rfl rfl rfl (by decide +kernel) ⟨Nat.le_trans (Nat.le_of_ble_eq_true rfl) hRf.1, Nat.le_trans (Nat.le_of_ble_eq_true rfl) hRf.2⟩) ⟨hm_B.blind, va_recv hK (hI.1.one hefs39) (ci := 8) (q0 := 0) rfl rfl, fun U hU hW => ⟨rfl, hm_B.of hK hG hI hU hW⟩⟩ rfl rfl hl.1 rfl (lv_room (Nat.le_of_ble_eq_true rfl)) d_Reader_takeHead_91 (hx_fit hI hR (hm_mo hg38) (hm_mo hf))) (fun H locs cells slots hI => ?_)
          refine W.eq (g2 := F0 m 94 ls [.int v36]) rfl ?_
          exact hret _ _ _ _ _ _ _ _ d_Reader_takeHead_94 hf hI
        · have hf := b_if_t hc hf
          refine lv_iconst (v := 0) S.1 S.2.1 d_Reader_takeHead_72 (by decide) ?_
          exact hret _ _ _ _ _ _ _ _ d_Reader_takeHead_73 hf hI
      · have hf := b_if_t hc hf
        refine lv_iconst (v := 0) S.1 S.2.1 d_Reader_takeHead_49 (by decide) ?_
        exact hret _ _ _ _ _ _ _ _ d_Reader_takeHead_50 hf hI
    · have hf := b_if_t hc hf
      refine lv_aload_n S.1 S.2.1 d_Reader_takeHead_24 rfl (lv_at hl 0 rfl) ?_
      refine x_getR (ci := 6) (k := 0) S hK hI (fun w h => List.mem_cons_of_mem _ (i_Reader w h)) rfl (by decide) (List.mem_cons_of_mem _ wd_15) rfl d_Reader_takeHead_25 hf (fun r40 hf => ?_)
      refine lv_aload_n S.1 S.2.1 d_Reader_takeHead_28 rfl (lv_at hl 0 rfl) ?_
      refine x_getR (ci := 6) (k := 0) S hK hI (fun w h => List.mem_cons_of_mem _ (i_Reader w h)) rfl (by decide) (List.mem_cons_of_mem _ wd_15) rfl d_Reader_takeHead_29 hf (fun r41 hf => ?_)
      obtain ⟨a42, ea42, hg⟩ := b_nn_inv hf
      have hI0 := hI
      have hl0 := hl
      clear hf hI hl
      subst ea42
      have hf := hg
      have hI := hI0
      have hl := hl0
      clear hg hI0 hl0
      refine x_getI (ci := 8) (k := 4) S hK hI (fun w h => List.mem_cons_of_mem _ (i_Scan w h)) rfl (by decide) (List.mem_cons_of_mem _ wd_97) rfl d_Reader_takeHead_32 hf (fun v43 hf => ?_)
      obtain ⟨a44, ea44, hg⟩ := b_nn_inv hf
      have hI0 := hI
      have hl0 := hl
      clear hf hI hl
      subst ea44
      have hf := hg
      have hI := hI0
      have hl := hl0
      clear hg hI0 hl0
      obtain ⟨⟨fs48, hefs48⟩, hf⟩ := b_is_inv hf
      obtain ⟨v45, N46, hg47, hf⟩ := b_call_inv hf
      refine x_call hI (hm_mo hg47) (va_runV (As := [.int v43]) (rest := []) S (c_Scan_refuse l hg47) (cwV 1 S.2.2.2.2 (gi_V wd_81 wd_82 wd_83 wd_9 wd_84) rfl rfl rfl (by decide +kernel) ⟨Nat.le_trans (Nat.le_of_ble_eq_true rfl) hRf.1, Nat.le_trans (Nat.le_of_ble_eq_true rfl) hRf.2⟩) ⟨hm_B.blind, va_recv hK (hI.1.one hefs48) (ci := 8) (q0 := 0) rfl rfl, fun U hU hW => ⟨rfl, hm_B.of hK hG hI hU hW⟩⟩ rfl rfl hl.1 rfl (lv_room (Nat.le_of_ble_eq_true rfl)) d_Reader_takeHead_35 (hx_fit hI hR (hm_mo hg47) (hm_mo hf))) (fun H locs cells slots hI => ?_)
      refine W.eq (g2 := F0 m 38 ls [.int v45]) rfl ?_
      exact hret _ _ _ _ _ _ _ _ d_Reader_takeHead_38 hf hI
  · have hf := b_if_t hc hf
    refine lv_iconst (v := 0) S.1 S.2.1 d_Reader_takeHead_10 (by decide) ?_
    exact hret _ _ _ _ _ _ _ _ d_Reader_takeHead_11 hf hI
set_option maxHeartbeats 4000000 in
set_option maxRecDepth 100000 in
theorem c_Reader_takeText (l : Launch) {D : va_G} {dA : Nat → ClassId} {aK aV : Nat → Nat} {z : Nat} {N : Nat} {h0 : Nat} {M : hM} {Z : Int32 × hM} (hf : (f_Reader_takeText N h0 ).1 M = some Z) : Met l y_Reader_takeText w_Reader_takeText ({ frames := 7, cells := Z.2.2.1 - M.2.1, slots := Z.2.2.2 - M.2.2, locals := 149 }) (va_Pc [.ref h0] (hm_B D dA hCl (hTy dA) sT aK aV z M)) (hm_Q D dA hCl (hTy dA) sT aK aV z (some (.int Z.1)) Z.2) (Z.2.2.1 - M.2.1) (Z.2.2.2 - M.2.2) (fun q => z ≤ q) := by
  refine Met.ofW (cc := b_Reader_takeText) (maxL := 2) (ret := (some .boolean)) (by decide) rfl ?_
  intro p e s m args below meth c s₁ B hml hv
  obtain ⟨hav, hB⟩ := hv
  have S : CallFix p m c b_Reader_takeText 2 s args w_Reader_takeText R_Reader := ⟨B.exec, B.bytes, hml, findClass_of_methodNamed B.named, atoms_spec (ws := w_Reader_takeText) B.pre⟩
  have hr : meth.sig.returnType = (some .boolean) := B.returns
  have hlocks := B.notSynchronized
  have hK := hB.2.2.1
  have hG := hB.2.2.2.2.2
  have hI := hm_I.start hB
  rw [← hB.2.1]
  generalize M.2.2 = k1 at hI ⊢
  refine W.eq (g2 := F0 m 0 ((lg_sl ([.ref h0]) ++ List.replicate (2 - (lg_sl ([.ref h0])).length) Slot.unset).toArray) []) (by rw [hav]; exact lg_entry_eq m ([.ref h0]) 2) ?_
  have hl := lv_entry ([.ref h0]) (n := 2) (Nat.le_of_ble_eq_true rfl)
  generalize (lg_sl ([.ref h0]) ++ List.replicate (2 - (lg_sl ([.ref h0])).length) Slot.unset).toArray = ls at hl ⊢
  simp only [lvA_nil, lvA_i, lvA_l, lvA_a, lvA_r, Nat.zero_add, Nat.reduceAdd] at hl
  have hret : ∀ (v : Int32) (M : hM) (H : Heap) (locs : List Loc) (cells slots : Nat) (ls : Array Slot) (pc : Nat), decode b_Reader_takeText pc = .ok (.ireturn, 1) → (b_retN .boolean v).1 M = some Z → hm_I D dA hCl z k1 s M H locs cells slots → W p l e (headSpec w_Reader_takeText { frames := 7, cells := Z.2.2.1 - s.heap.size, slots := Z.2.2.2 - k1, locals := 149 }).room s m args below meth c H locs cells slots (MQ below (hm_Q D dA hCl (hTy dA) sT aK aV z (some (.int Z.1)) Z.2) args s (Z.2.2.1 - s.heap.size) (Z.2.2.2 - k1) (fun q => z ≤ q)) (F0 m pc ls [.int v]) := fun v M H locs cells slots ls pc hdg hf hI => x_retn S hK hG hI hr hlocks hdg hf
  have hR : Z.2.2.1 - s.heap.size ≤ (headSpec w_Reader_takeText { frames := 7, cells := Z.2.2.1 - s.heap.size, slots := Z.2.2.2 - k1, locals := 149 }).room.cells ∧ Z.2.2.2 - k1 ≤ (headSpec w_Reader_takeText { frames := 7, cells := Z.2.2.1 - s.heap.size, slots := Z.2.2.2 - k1, locals := 149 }).room.slots := ⟨Nat.le_refl _, Nat.le_refl _⟩
  have hRf : 7 ≤ (headSpec w_Reader_takeText { frames := 7, cells := Z.2.2.1 - s.heap.size, slots := Z.2.2.2 - k1, locals := 149 }).room.frames ∧ 149 ≤ (headSpec w_Reader_takeText { frames := 7, cells := Z.2.2.1 - s.heap.size, slots := Z.2.2.2 - k1, locals := 149 }).room.locals := ⟨Nat.le_refl _, Nat.le_refl _⟩
  generalize (headSpec w_Reader_takeText { frames := 7, cells := Z.2.2.1 - s.heap.size, slots := Z.2.2.2 - k1, locals := 149 }).room = R at hret hR hRf ⊢
  generalize (MQ below (hm_Q D dA hCl (hTy dA) sT aK aV z (some (.int Z.1)) Z.2) args s (Z.2.2.1 - s.heap.size) (Z.2.2.2 - k1) (fun q => z ≤ q)) = Q at hret ⊢
  rw [e_Reader_takeText] at hf
  have w26 : ∀ (n : Nat) (x1 : Int32) (M : hM) (H : Heap) (locs : List Loc) (ls : Array Slot) (cells slots : Nat), (f_Reader_takeText_26 N h0  n x1).1 M = some Z → hm_I D dA hCl z k1 s M H locs cells slots → lv_has ls 2 [(0, .ref h0), (1, .int x1)] → W p l e R s m args below meth c H locs cells slots Q (F0 m 26 ls []) := by
    intro n
    induction n with
    | zero => intro x1 M H locs ls cells slots hf hI hl; cases hf
    | succ n26 ih26 =>
      intro x1 M H locs ls cells slots hf hI hl
      rw [e_Reader_takeText_26] at hf
      obtain ⟨J70, eJ70, hf⟩ := b_let_inv hf
      have w70 : ∀  (M : hM) (H : Heap) (locs : List Loc) (ls : Array Slot) (cells slots : Nat), (J70).1 M = some Z → hm_I D dA hCl z k1 s M H locs cells slots → lv_has ls 2 [(0, .ref h0)] → W p l e R s m args below meth c H locs cells slots Q (F0 m 70 ls []) := by
        intro M H locs ls cells slots hf hI hl
        rw [eJ70] at hf
        refine lv_aload_n S.1 S.2.1 d_Reader_takeText_70 rfl (lv_at hl 0 rfl) ?_
        obtain ⟨⟨fs4, hefs4⟩, hf⟩ := b_is_inv hf
        obtain ⟨v1, N2, hg3, hf⟩ := b_call_inv hf
        refine x_call hI (hm_mo hg3) (va_runV (As := []) (rest := []) S (c_Reader_defaultsStand l hg3) (cwV 0 S.2.2.2.2 (gi_V wd_85 wd_86 wd_87 wd_5 wd_88) rfl rfl rfl (by decide +kernel) ⟨Nat.le_trans (Nat.le_of_ble_eq_true rfl) hRf.1, Nat.le_trans (Nat.le_of_ble_eq_true rfl) hRf.2⟩) ⟨hm_B.blind, va_recv hK (hI.1.one hefs4) (ci := 6) (q0 := 0) rfl rfl, fun U hU hW => ⟨rfl, hm_B.of hK hG hI hU hW⟩⟩ rfl rfl hl.1 rfl (lv_room (Nat.le_of_ble_eq_true rfl)) d_Reader_takeText_71 (hx_fit hI hR (hm_mo hg3) (hm_mo hf))) (fun H locs cells slots hI => ?_)
        refine W.eq (g2 := F0 m 74 ls [.int v1]) rfl ?_
        exact hret _ _ _ _ _ _ _ _ d_Reader_takeText_74 hf hI
      refine lv_iload_n S.1 S.2.1 d_Reader_takeText_26 rfl (lv_at hl 1 rfl) ?_
      refine lv_sipush (v := 2000) S.1 S.2.1 d_Reader_takeText_27 (by decide) ?_
      refine lv_icmp_ge (tgt := 70) S.1 S.2.1 d_Reader_takeText_30 (by decide) (fun hc => ?_) (fun hc => ?_)
      · have hf := b_if_t hc hf
        exact w70  _ _ _ _ _ _ hf hI (lv_sub hl [0] rfl)
      · have hf := b_if_f hc hf
        refine lv_aload_n S.1 S.2.1 d_Reader_takeText_33 rfl (lv_at hl 0 rfl) ?_
        refine x_getR (ci := 6) (k := 0) S hK hI (fun w h => List.mem_cons_of_mem _ (i_Reader w h)) rfl (by decide) (List.mem_cons_of_mem _ wd_15) rfl d_Reader_takeText_34 hf (fun r5 hf => ?_)
        obtain ⟨a6, ea6, hg⟩ := b_nn_inv hf
        have hI0 := hI
        have hl0 := hl
        clear hf hI hl
        subst ea6
        have hf := hg
        have hI := hI0
        have hl := hl0
        clear hg hI0 hl0
        obtain ⟨⟨fs10, hefs10⟩, hf⟩ := b_is_inv hf
        obtain ⟨v7, N8, hg9, hf⟩ := b_call_inv hf
        refine x_call hI (hm_mo hg9) (va_runV (As := []) (rest := []) S (c_Scan_atEnd l hg9) (cwV 0 S.2.2.2.2 (gi_V wd_93 wd_94 wd_95 wd_9 wd_96) rfl rfl rfl (by decide +kernel) ⟨Nat.le_trans (Nat.le_of_ble_eq_true rfl) hRf.1, Nat.le_trans (Nat.le_of_ble_eq_true rfl) hRf.2⟩) ⟨hm_B.blind, va_recv hK (hI.1.one hefs10) (ci := 8) (q0 := 0) rfl rfl, fun U hU hW => ⟨rfl, hm_B.of hK hG hI hU hW⟩⟩ rfl rfl hl.1 rfl (lv_room (Nat.le_of_ble_eq_true rfl)) d_Reader_takeText_37 (hx_fit hI hR (hm_mo hg9) (hm_mo hf))) (fun H locs cells slots hI => ?_)
        refine W.eq (g2 := F0 m 40 ls [.int v7]) rfl ?_
        refine lv_if_ne (tgt := 70) S.1 S.2.1 d_Reader_takeText_40 (by decide) (fun hc => ?_) (fun hc => ?_)
        · have hf := b_if_f hc hf
          exact w70  _ _ _ _ _ _ hf hI (lv_sub hl [0] rfl)
        · have hf := b_if_t hc hf
          refine lv_aload_n S.1 S.2.1 d_Reader_takeText_43 rfl (lv_at hl 0 rfl) ?_
          obtain ⟨⟨fs14, hefs14⟩, hf⟩ := b_is_inv hf
          obtain ⟨v11, N12, hg13, hf⟩ := b_call_inv hf
          refine x_call hI (hm_mo hg13) (va_runV (As := []) (rest := []) S (c_Reader_takeTextRow l hg13) (cwV 0 S.2.2.2.2 (gi_V wd_252 wd_253 wd_254 wd_5 wd_255) rfl rfl rfl (by decide +kernel) ⟨Nat.le_trans (Nat.le_of_ble_eq_true rfl) hRf.1, Nat.le_trans (Nat.le_of_ble_eq_true rfl) hRf.2⟩) ⟨hm_B.blind, va_recv hK (hI.1.one hefs14) (ci := 6) (q0 := 0) rfl rfl, fun U hU hW => ⟨rfl, hm_B.of hK hG hI hU hW⟩⟩ rfl rfl hl.1 rfl (lv_room (Nat.le_of_ble_eq_true rfl)) d_Reader_takeText_44 (hx_fit hI hR (hm_mo hg13) (hm_mo hf))) (fun H locs cells slots hI => ?_)
          refine W.eq (g2 := F0 m 47 ls [.int v11]) rfl ?_
          refine lv_if_eq (tgt := 62) S.1 S.2.1 d_Reader_takeText_47 (by decide) (fun hc => ?_) (fun hc => ?_)
          · have hf := b_if_t hc hf
            refine lv_iconst (v := 0) S.1 S.2.1 d_Reader_takeText_62 (by decide) ?_
            exact hret _ _ _ _ _ _ _ _ d_Reader_takeText_63 hf hI
          · have hf := b_if_f hc hf
            refine lv_aload_n S.1 S.2.1 d_Reader_takeText_50 rfl (lv_at hl 0 rfl) ?_
            refine x_getR (ci := 6) (k := 0) S hK hI (fun w h => List.mem_cons_of_mem _ (i_Reader w h)) rfl (by decide) (List.mem_cons_of_mem _ wd_15) rfl d_Reader_takeText_51 hf (fun r15 hf => ?_)
            refine lv_bipush (v := 59) S.1 S.2.1 d_Reader_takeText_54 (by decide) ?_
            obtain ⟨a16, ea16, hg⟩ := b_nn_inv hf
            have hI0 := hI
            have hl0 := hl
            clear hf hI hl
            subst ea16
            have hf := hg
            have hI := hI0
            have hl := hl0
            clear hg hI0 hl0
            obtain ⟨⟨fs20, hefs20⟩, hf⟩ := b_is_inv hf
            obtain ⟨v17, N18, hg19, hf⟩ := b_call_inv hf
            refine x_call hI (hm_mo hg19) (va_runV (As := [.int 59]) (rest := []) S (c_Scan_takeSign l hg19) (cwV 1 S.2.2.2.2 (gi_V wd_174 wd_175 wd_176 wd_9 wd_177) rfl rfl rfl (by decide +kernel) ⟨Nat.le_trans (Nat.le_of_ble_eq_true rfl) hRf.1, Nat.le_trans (Nat.le_of_ble_eq_true rfl) hRf.2⟩) ⟨hm_B.blind, va_recv hK (hI.1.one hefs20) (ci := 8) (q0 := 0) rfl rfl, fun U hU hW => ⟨rfl, hm_B.of hK hG hI hU hW⟩⟩ rfl rfl hl.1 rfl (lv_room (Nat.le_of_ble_eq_true rfl)) d_Reader_takeText_56 (hx_fit hI hR (hm_mo hg19) (hm_mo hf))) (fun H locs cells slots hI => ?_)
            refine W.eq (g2 := F0 m 59 ls [.int v17]) rfl ?_
            refine lv_if_ne (tgt := 64) S.1 S.2.1 d_Reader_takeText_59 (by decide) (fun hc => ?_) (fun hc => ?_)
            · have hf := b_if_f hc hf
              refine x_iinc (v := 1) (lv2 := [(0, .ref h0)]) S d_Reader_takeText_64 hl 1 rfl (by decide) (by decide) [0] rfl ⟨⟨(by decide : (0 : Nat) ≠ 1), fun _ => rfl⟩, trivial⟩ (fun ls hl => ?_)
              refine lv_goto (tgt := 26) S.1 S.2.1 d_Reader_takeText_67 (by decide) ?_
              exact ih26 (x1 + 1) _ _ _ _ _ _ hf hI (lv_sub hl [1, 0] rfl)
            · have hf := b_if_t hc hf
              refine lv_iconst (v := 0) S.1 S.2.1 d_Reader_takeText_62 (by decide) ?_
              exact hret _ _ _ _ _ _ _ _ d_Reader_takeText_63 hf hI
  refine lv_aload_n S.1 S.2.1 d_Reader_takeText_0 rfl (lv_at hl 0 rfl) ?_
  refine lv_iconst (v := 0) S.1 S.2.1 d_Reader_takeText_1 (by decide) ?_
  refine x_put (ci := 6) (k := 3) S hK hI (fun w h => List.mem_cons_of_mem _ (i_Reader w h)) t_Reader t_Reader_ok n_Reader rfl (by decide) (List.mem_cons_of_mem _ wd_62) rfl (Or.inl rfl) (by rfl) rfl d_Reader_takeText_2 hf (fun M H locs hf hI => ?_)
  refine lv_aload_n S.1 S.2.1 d_Reader_takeText_5 rfl (lv_at hl 0 rfl) ?_
  refine lv_iconst (v := 0) S.1 S.2.1 d_Reader_takeText_6 (by decide) ?_
  refine x_put (ci := 6) (k := 5) S hK hI (fun w h => List.mem_cons_of_mem _ (i_Reader w h)) t_Reader t_Reader_ok n_Reader rfl (by decide) (List.mem_cons_of_mem _ wd_65) rfl (Or.inl rfl) (by rfl) rfl d_Reader_takeText_7 hf (fun M H locs hf hI => ?_)
  refine lv_aload_n S.1 S.2.1 d_Reader_takeText_10 rfl (lv_at hl 0 rfl) ?_
  refine lv_iconst (v := (-1)) S.1 S.2.1 d_Reader_takeText_11 (by decide) ?_
  refine x_put (ci := 6) (k := 9) S hK hI (fun w h => List.mem_cons_of_mem _ (i_Reader w h)) t_Reader t_Reader_ok n_Reader rfl (by decide) (List.mem_cons_of_mem _ wd_161) rfl (Or.inl rfl) (by rfl) rfl d_Reader_takeText_12 hf (fun M H locs hf hI => ?_)
  refine lv_aload_n S.1 S.2.1 d_Reader_takeText_15 rfl (lv_at hl 0 rfl) ?_
  obtain ⟨⟨fs24, hefs24⟩, hf⟩ := b_is_inv hf
  obtain ⟨v21, N22, hg23, hf⟩ := b_call_inv hf
  refine x_call hI (hm_mo hg23) (va_runV (As := []) (rest := []) S (c_Reader_takeHead l hg23) (cwV 0 S.2.2.2.2 (gi_V wd_258 wd_259 wd_260 wd_5 wd_261) rfl rfl rfl (by decide +kernel) ⟨Nat.le_trans (Nat.le_of_ble_eq_true rfl) hRf.1, Nat.le_trans (Nat.le_of_ble_eq_true rfl) hRf.2⟩) ⟨hm_B.blind, va_recv hK (hI.1.one hefs24) (ci := 6) (q0 := 0) rfl rfl, fun U hU hW => ⟨rfl, hm_B.of hK hG hI hU hW⟩⟩ rfl rfl hl.1 rfl (lv_room (Nat.le_of_ble_eq_true rfl)) d_Reader_takeText_16 (hx_fit hI hR (hm_mo hg23) (hm_mo hf))) (fun H locs cells slots hI => ?_)
  refine W.eq (g2 := F0 m 19 ls [.int v21]) rfl ?_
  refine lv_if_ne (tgt := 24) S.1 S.2.1 d_Reader_takeText_19 (by decide) (fun hc => ?_) (fun hc => ?_)
  · have hf := b_if_f hc hf
    refine lv_iconst (v := 0) S.1 S.2.1 d_Reader_takeText_24 (by decide) ?_
    refine x_istore_n (lv2 := [(0, .ref h0)]) S d_Reader_takeText_25 rfl hl (by decide) [0] rfl ⟨⟨(by decide : (0 : Nat) ≠ 1), fun _ => rfl⟩, trivial⟩ (fun ls hl => ?_)
    exact w26 N 0 _ _ _ _ _ _ hf hI (lv_sub hl [1, 0] rfl)
  · have hf := b_if_t hc hf
    refine lv_iconst (v := 0) S.1 S.2.1 d_Reader_takeText_22 (by decide) ?_
    exact hret _ _ _ _ _ _ _ _ d_Reader_takeText_23 hf hI
set_option maxHeartbeats 4000000 in
set_option maxRecDepth 100000 in
theorem c_Scan_useUp (l : Launch) {D : va_G} {dA : Nat → ClassId} {aK aV : Nat → Nat} {z : Nat} {N : Nat} {h0 : Nat} {M : hM} {Z : Unit × hM} (hf : (f_Scan_useUp N h0 ).1 M = some Z) : Met l y_Scan_useUp w_Scan_useUp ({ frames := 0, cells := Z.2.2.1 - M.2.1, slots := Z.2.2.2 - M.2.2, locals := 0 }) (va_Pc [.ref h0] (hm_B D dA hCl (hTy dA) sT aK aV z M)) (hm_Q D dA hCl (hTy dA) sT aK aV z none Z.2) (Z.2.2.1 - M.2.1) (Z.2.2.2 - M.2.2) (fun q => z ≤ q) := by
  refine Met.ofW (cc := b_Scan_useUp) (maxL := 1) (ret := none) (by decide) rfl ?_
  intro p e s m args below meth c s₁ B hml hv
  obtain ⟨hav, hB⟩ := hv
  have S : CallFix p m c b_Scan_useUp 1 s args w_Scan_useUp R_Scan := ⟨B.exec, B.bytes, hml, findClass_of_methodNamed B.named, atoms_spec (ws := w_Scan_useUp) B.pre⟩
  have hr : meth.sig.returnType = none := B.returns
  have hlocks := B.notSynchronized
  have hK := hB.2.2.1
  have hG := hB.2.2.2.2.2
  have hI := hm_I.start hB
  rw [← hB.2.1]
  generalize M.2.2 = k1 at hI ⊢
  refine W.eq (g2 := F0 m 0 ((lg_sl ([.ref h0]) ++ List.replicate (1 - (lg_sl ([.ref h0])).length) Slot.unset).toArray) []) (by rw [hav]; exact lg_entry_eq m ([.ref h0]) 1) ?_
  have hl := lv_entry ([.ref h0]) (n := 1) (Nat.le_of_ble_eq_true rfl)
  generalize (lg_sl ([.ref h0]) ++ List.replicate (1 - (lg_sl ([.ref h0])).length) Slot.unset).toArray = ls at hl ⊢
  simp only [lvA_nil, lvA_i, lvA_l, lvA_a, lvA_r, Nat.zero_add, Nat.reduceAdd] at hl
  have hret : ∀ (M : hM) (H : Heap) (locs : List Loc) (cells slots : Nat) (ls : Array Slot) (pc : Nat), decode b_Scan_useUp pc = .ok (.return_, 1) → (b_ret ()).1 M = some Z → hm_I D dA hCl z k1 s M H locs cells slots → W p l e (headSpec w_Scan_useUp { frames := 0, cells := Z.2.2.1 - s.heap.size, slots := Z.2.2.2 - k1, locals := 0 }).room s m args below meth c H locs cells slots (MQ below (hm_Q D dA hCl (hTy dA) sT aK aV z none Z.2) args s (Z.2.2.1 - s.heap.size) (Z.2.2.2 - k1) (fun q => z ≤ q)) (F0 m pc ls []) := fun M H locs cells slots ls pc hdg hf hI => x_retv S hK hG hI hr hlocks hdg hf
  have hR : Z.2.2.1 - s.heap.size ≤ (headSpec w_Scan_useUp { frames := 0, cells := Z.2.2.1 - s.heap.size, slots := Z.2.2.2 - k1, locals := 0 }).room.cells ∧ Z.2.2.2 - k1 ≤ (headSpec w_Scan_useUp { frames := 0, cells := Z.2.2.1 - s.heap.size, slots := Z.2.2.2 - k1, locals := 0 }).room.slots := ⟨Nat.le_refl _, Nat.le_refl _⟩
  have hRf : 0 ≤ (headSpec w_Scan_useUp { frames := 0, cells := Z.2.2.1 - s.heap.size, slots := Z.2.2.2 - k1, locals := 0 }).room.frames ∧ 0 ≤ (headSpec w_Scan_useUp { frames := 0, cells := Z.2.2.1 - s.heap.size, slots := Z.2.2.2 - k1, locals := 0 }).room.locals := ⟨Nat.le_refl _, Nat.le_refl _⟩
  generalize (headSpec w_Scan_useUp { frames := 0, cells := Z.2.2.1 - s.heap.size, slots := Z.2.2.2 - k1, locals := 0 }).room = R at hret hR hRf ⊢
  generalize (MQ below (hm_Q D dA hCl (hTy dA) sT aK aV z none Z.2) args s (Z.2.2.1 - s.heap.size) (Z.2.2.2 - k1) (fun q => z ≤ q)) = Q at hret ⊢
  rw [e_Scan_useUp] at hf
  refine lv_aload_n S.1 S.2.1 d_Scan_useUp_0 rfl (lv_at hl 0 rfl) ?_
  refine lv_iconst (v := 0) S.1 S.2.1 d_Scan_useUp_1 (by decide) ?_
  refine x_put (ci := 8) (k := 1) S hK hI (fun w h => List.mem_cons_of_mem _ (i_Scan w h)) t_Scan t_Scan_ok n_Scan rfl (by decide) (List.mem_cons_of_mem _ wd_49) rfl (Or.inl rfl) (by rfl) rfl d_Scan_useUp_2 hf (fun M H locs hf hI => ?_)
  exact hret _ _ _ _ _ _ _ d_Scan_useUp_5 hf hI
set_option maxHeartbeats 4000000 in
set_option maxRecDepth 100000 in
theorem c_Pack_init (l : Launch) {D : va_G} {dA : Nat → ClassId} {aK aV : Nat → Nat} {z : Nat} {N : Nat} {h0 : Nat} {p0 : Option Nat} {p1 : Int64} {p2 : Option Nat} {p3 : Option Nat} {M : hM} {Z : Unit × hM} (hf : (f_Pack_init N h0 p0 p1 p2 p3).1 M = some Z) : Met l y_Pack_init w_Pack_init ({ frames := 1, cells := Z.2.2.1 - M.2.1, slots := Z.2.2.2 - M.2.2, locals := 20 }) (va_Pc [.ref h0, va_rf p0, .long p1, va_rf p2, va_rf p3] (hm_B D dA hCl (hTy dA) sT aK aV z M)) (hm_Q D dA hCl (hTy dA) sT aK aV z none Z.2) (Z.2.2.1 - M.2.1) (Z.2.2.2 - M.2.2) (fun q => z ≤ q) := by
  refine Met.ofW (cc := b_Pack_init) (maxL := 6) (ret := none) (by decide) rfl ?_
  intro p e s m args below meth c s₁ B hml hv
  obtain ⟨hav, hB⟩ := hv
  have S : CallFix p m c b_Pack_init 6 s args w_Pack_init R_Pack := ⟨B.exec, B.bytes, hml, findClass_of_methodNamed B.named, atoms_spec (ws := w_Pack_init) B.pre⟩
  have hr : meth.sig.returnType = none := B.returns
  have hlocks := B.notSynchronized
  have hin : meth.name = "<init>" := (name_of_methodNamed B.named B.method).1
  have hK := hB.2.2.1
  have hG := hB.2.2.2.2.2
  have hI := hm_I.start hB
  rw [← hB.2.1]
  generalize M.2.2 = k1 at hI ⊢
  refine W.eq (g2 := F0 m 0 ((lg_sl ([.ref h0, va_rf p0, .long p1, va_rf p2, va_rf p3]) ++ List.replicate (6 - (lg_sl ([.ref h0, va_rf p0, .long p1, va_rf p2, va_rf p3])).length) Slot.unset).toArray) []) (by rw [hav]; exact lg_entry_eq m ([.ref h0, va_rf p0, .long p1, va_rf p2, va_rf p3]) 6) ?_
  have hl := lv_entry ([.ref h0, va_rf p0, .long p1, va_rf p2, va_rf p3]) (n := 6) (by cases p0 <;> cases p2 <;> cases p3 <;> exact Nat.le_of_ble_eq_true rfl)
  generalize (lg_sl ([.ref h0, va_rf p0, .long p1, va_rf p2, va_rf p3]) ++ List.replicate (6 - (lg_sl ([.ref h0, va_rf p0, .long p1, va_rf p2, va_rf p3])).length) Slot.unset).toArray = ls at hl ⊢
  simp only [lvA_nil, lvA_i, lvA_l, lvA_a, lvA_r, Nat.zero_add, Nat.reduceAdd] at hl
  have hret : ∀ (M : hM) (H : Heap) (locs : List Loc) (cells slots : Nat) (ls : Array Slot) (pc : Nat), decode b_Pack_init pc = .ok (.return_, 1) → (b_ret ()).1 M = some Z → hm_I D dA hCl z k1 s M H locs cells slots → W p l e (headSpec w_Pack_init { frames := 1, cells := Z.2.2.1 - s.heap.size, slots := Z.2.2.2 - k1, locals := 20 }).room s m args below meth c H locs cells slots (MQ below (hm_Q D dA hCl (hTy dA) sT aK aV z none Z.2) args s (Z.2.2.1 - s.heap.size) (Z.2.2.2 - k1) (fun q => z ≤ q)) (F0 m pc ls []) := fun M H locs cells slots ls pc hdg hf hI => x_retv S hK hG hI hr hlocks hdg hf
  have hR : Z.2.2.1 - s.heap.size ≤ (headSpec w_Pack_init { frames := 1, cells := Z.2.2.1 - s.heap.size, slots := Z.2.2.2 - k1, locals := 20 }).room.cells ∧ Z.2.2.2 - k1 ≤ (headSpec w_Pack_init { frames := 1, cells := Z.2.2.1 - s.heap.size, slots := Z.2.2.2 - k1, locals := 20 }).room.slots := ⟨Nat.le_refl _, Nat.le_refl _⟩
  have hRf : 1 ≤ (headSpec w_Pack_init { frames := 1, cells := Z.2.2.1 - s.heap.size, slots := Z.2.2.2 - k1, locals := 20 }).room.frames ∧ 20 ≤ (headSpec w_Pack_init { frames := 1, cells := Z.2.2.1 - s.heap.size, slots := Z.2.2.2 - k1, locals := 20 }).room.locals := ⟨Nat.le_refl _, Nat.le_refl _⟩
  generalize (headSpec w_Pack_init { frames := 1, cells := Z.2.2.1 - s.heap.size, slots := Z.2.2.2 - k1, locals := 20 }).room = R at hret hR hRf ⊢
  generalize (MQ below (hm_Q D dA hCl (hTy dA) sT aK aV z none Z.2) args s (Z.2.2.1 - s.heap.size) (Z.2.2.2 - k1) (fun q => z ≤ q)) = Q at hret ⊢
  rw [e_Pack_init] at hf
  refine lv_aload_n S.1 S.2.1 d_Pack_init_0 rfl (lv_at hl 0 rfl) ?_
  refine W.objInit S.1 S.2.1 S.2.2.2.1 (S.2.2.2.2 _ (List.mem_cons_of_mem _ wd_274)) (S.2.2.2.2 _ (List.mem_cons_of_mem _ wd_1)) (S.2.2.2.2 _ (List.mem_cons_of_mem _ wd_2)) rfl (by rw [S.2.2.1]; exact hl.1) rfl d_Pack_init_1 (Nat.le_trans (Nat.le_of_ble_eq_true rfl) hRf.1) (Nat.le_trans (Nat.le_of_ble_eq_true rfl) hRf.2) ?_
  refine W.eq (g2 := F0 m 4 ls []) rfl ?_
  refine lv_aload_n S.1 S.2.1 d_Pack_init_4 rfl (lv_at hl 0 rfl) ?_
  refine x_aload_n (r := p0) S d_Pack_init_5 rfl (lv_at hl 1 rfl) ?_
  refine x_put (ci := 3) (k := 0) S hK hI (fun w h => List.mem_cons_of_mem _ (i_Pack w h)) t_Pack t_Pack_ok n_Pack rfl (by decide) (List.mem_cons_of_mem _ wd_275) rfl (Or.inr ⟨rfl, hin, rfl⟩) (by rfl) (rf_fit _ _) d_Pack_init_6 hf (fun M H locs hf hI => ?_)
  refine lv_aload_n S.1 S.2.1 d_Pack_init_9 rfl (lv_at hl 0 rfl) ?_
  refine lv_lload_n S.1 S.2.1 d_Pack_init_10 rfl (lv_at hl 2 rfl) ?_
  refine x_put (ci := 3) (k := 1) S hK hI (fun w h => List.mem_cons_of_mem _ (i_Pack w h)) t_Pack t_Pack_ok n_Pack rfl (by decide) (List.mem_cons_of_mem _ wd_276) rfl (Or.inr ⟨rfl, hin, rfl⟩) (by rfl) rfl d_Pack_init_11 hf (fun M H locs hf hI => ?_)
  refine lv_aload_n S.1 S.2.1 d_Pack_init_14 rfl (lv_at hl 0 rfl) ?_
  refine x_aload (r := p2) S d_Pack_init_15 (lv_at hl 3 rfl) ?_
  refine x_put (ci := 3) (k := 2) S hK hI (fun w h => List.mem_cons_of_mem _ (i_Pack w h)) t_Pack t_Pack_ok n_Pack rfl (by decide) (List.mem_cons_of_mem _ wd_277) rfl (Or.inr ⟨rfl, hin, rfl⟩) (by rfl) (rf_fitA _ _) d_Pack_init_17 hf (fun M H locs hf hI => ?_)
  refine lv_aload_n S.1 S.2.1 d_Pack_init_20 rfl (lv_at hl 0 rfl) ?_
  refine x_aload (r := p3) S d_Pack_init_21 (lv_at hl 4 rfl) ?_
  refine x_put (ci := 3) (k := 3) S hK hI (fun w h => List.mem_cons_of_mem _ (i_Pack w h)) t_Pack t_Pack_ok n_Pack rfl (by decide) (List.mem_cons_of_mem _ wd_278) rfl (Or.inr ⟨rfl, hin, rfl⟩) (by rfl) (rf_fitA _ _) d_Pack_init_23 hf (fun M H locs hf hI => ?_)
  exact hret _ _ _ _ _ _ _ d_Pack_init_26 hf hI
set_option maxHeartbeats 4000000 in
set_option maxRecDepth 100000 in
theorem c_Kind_hasRange (l : Launch) {D : va_G} {dA : Nat → ClassId} {aK aV : Nat → Nat} {z : Nat} {N : Nat} {p0 : Int32} {M : hM} {Z : Int32 × hM} (hf : (f_Kind_hasRange N p0).1 M = some Z) : Met l y_Kind_hasRange w_Kind_hasRange ({ frames := 0, cells := Z.2.2.1 - M.2.1, slots := Z.2.2.2 - M.2.2, locals := 0 }) (va_Pc [.int p0] (hm_B D dA hCl (hTy dA) sT aK aV z M)) (hm_Q D dA hCl (hTy dA) sT aK aV z (some (.int Z.1)) Z.2) (Z.2.2.1 - M.2.1) (Z.2.2.2 - M.2.2) (fun q => z ≤ q) := by
  refine Met.ofW (cc := b_Kind_hasRange) (maxL := 1) (ret := (some .boolean)) (by decide) rfl ?_
  intro p e s m args below meth c s₁ B hml hv
  obtain ⟨hav, hB⟩ := hv
  have S : CallFix p m c b_Kind_hasRange 1 s args w_Kind_hasRange R_Kind := ⟨B.exec, B.bytes, hml, findClass_of_methodNamed B.named, atoms_spec (ws := w_Kind_hasRange) B.pre⟩
  have hr : meth.sig.returnType = (some .boolean) := B.returns
  have hlocks := B.notSynchronized
  have hK := hB.2.2.1
  have hG := hB.2.2.2.2.2
  have hI := hm_I.start hB
  rw [← hB.2.1]
  generalize M.2.2 = k1 at hI ⊢
  refine W.eq (g2 := F0 m 0 ((lg_sl ([.int p0]) ++ List.replicate (1 - (lg_sl ([.int p0])).length) Slot.unset).toArray) []) (by rw [hav]; exact lg_entry_eq m ([.int p0]) 1) ?_
  have hl := lv_entry ([.int p0]) (n := 1) (Nat.le_of_ble_eq_true rfl)
  generalize (lg_sl ([.int p0]) ++ List.replicate (1 - (lg_sl ([.int p0])).length) Slot.unset).toArray = ls at hl ⊢
  simp only [lvA_nil, lvA_i, lvA_l, lvA_a, lvA_r, Nat.zero_add, Nat.reduceAdd] at hl
  have hret : ∀ (v : Int32) (M : hM) (H : Heap) (locs : List Loc) (cells slots : Nat) (ls : Array Slot) (pc : Nat), decode b_Kind_hasRange pc = .ok (.ireturn, 1) → (b_retN .boolean v).1 M = some Z → hm_I D dA hCl z k1 s M H locs cells slots → W p l e (headSpec w_Kind_hasRange { frames := 0, cells := Z.2.2.1 - s.heap.size, slots := Z.2.2.2 - k1, locals := 0 }).room s m args below meth c H locs cells slots (MQ below (hm_Q D dA hCl (hTy dA) sT aK aV z (some (.int Z.1)) Z.2) args s (Z.2.2.1 - s.heap.size) (Z.2.2.2 - k1) (fun q => z ≤ q)) (F0 m pc ls [.int v]) := fun v M H locs cells slots ls pc hdg hf hI => x_retn S hK hG hI hr hlocks hdg hf
  have hR : Z.2.2.1 - s.heap.size ≤ (headSpec w_Kind_hasRange { frames := 0, cells := Z.2.2.1 - s.heap.size, slots := Z.2.2.2 - k1, locals := 0 }).room.cells ∧ Z.2.2.2 - k1 ≤ (headSpec w_Kind_hasRange { frames := 0, cells := Z.2.2.1 - s.heap.size, slots := Z.2.2.2 - k1, locals := 0 }).room.slots := ⟨Nat.le_refl _, Nat.le_refl _⟩
  have hRf : 0 ≤ (headSpec w_Kind_hasRange { frames := 0, cells := Z.2.2.1 - s.heap.size, slots := Z.2.2.2 - k1, locals := 0 }).room.frames ∧ 0 ≤ (headSpec w_Kind_hasRange { frames := 0, cells := Z.2.2.1 - s.heap.size, slots := Z.2.2.2 - k1, locals := 0 }).room.locals := ⟨Nat.le_refl _, Nat.le_refl _⟩
  generalize (headSpec w_Kind_hasRange { frames := 0, cells := Z.2.2.1 - s.heap.size, slots := Z.2.2.2 - k1, locals := 0 }).room = R at hret hR hRf ⊢
  generalize (MQ below (hm_Q D dA hCl (hTy dA) sT aK aV z (some (.int Z.1)) Z.2) args s (Z.2.2.1 - s.heap.size) (Z.2.2.2 - k1) (fun q => z ≤ q)) = Q at hret ⊢
  rw [e_Kind_hasRange] at hf
  obtain ⟨J17, eJ17, hf⟩ := b_let_inv hf
  have w17 : ∀ (y0 : Int32) (M : hM) (H : Heap) (locs : List Loc) (ls : Array Slot) (cells slots : Nat), (J17 y0).1 M = some Z → hm_I D dA hCl z k1 s M H locs cells slots → lv_has ls 1 [] → W p l e R s m args below meth c H locs cells slots Q (F0 m 17 ls [.int y0]) := by
    intro y0 M H locs ls cells slots hf hI hl
    rw [eJ17] at hf
    exact hret _ _ _ _ _ _ _ _ d_Kind_hasRange_17 hf hI
  obtain ⟨J12, eJ12, hf⟩ := b_let_inv hf
  have w12 : ∀  (M : hM) (H : Heap) (locs : List Loc) (ls : Array Slot) (cells slots : Nat), (J12).1 M = some Z → hm_I D dA hCl z k1 s M H locs cells slots → lv_has ls 1 [] → W p l e R s m args below meth c H locs cells slots Q (F0 m 12 ls []) := by
    intro M H locs ls cells slots hf hI hl
    rw [eJ12] at hf
    refine lv_iconst (v := 1) S.1 S.2.1 d_Kind_hasRange_12 (by decide) ?_
    refine lv_goto (tgt := 17) S.1 S.2.1 d_Kind_hasRange_13 (by decide) ?_
    exact w17 1 _ _ _ _ _ _ hf hI (lv_sub hl [] rfl)
  refine lv_iload_n S.1 S.2.1 d_Kind_hasRange_0 rfl (lv_at hl 0 rfl) ?_
  refine lv_bipush (v := 6) S.1 S.2.1 d_Kind_hasRange_1 (by decide) ?_
  refine lv_icmp_le (tgt := 12) S.1 S.2.1 d_Kind_hasRange_3 (by decide) (fun hc => ?_) (fun hc => ?_)
  · have hf := b_if_t hc hf
    exact w12  _ _ _ _ _ _ hf hI (lv_sub hl [] rfl)
  · have hf := b_if_f hc hf
    refine lv_iload_n S.1 S.2.1 d_Kind_hasRange_6 rfl (lv_at hl 0 rfl) ?_
    refine lv_bipush (v := 8) S.1 S.2.1 d_Kind_hasRange_7 (by decide) ?_
    refine lv_icmp_ne (tgt := 16) S.1 S.2.1 d_Kind_hasRange_9 (by decide) (fun hc => ?_) (fun hc => ?_)
    · have hf := b_if_f hc hf
      refine lv_iconst (v := 0) S.1 S.2.1 d_Kind_hasRange_16 (by decide) ?_
      exact w17 0 _ _ _ _ _ _ hf hI (lv_sub hl [] rfl)
    · have hf := b_if_t hc hf
      exact w12  _ _ _ _ _ _ hf hI (lv_sub hl [] rfl)
set_option maxHeartbeats 4000000 in
set_option maxRecDepth 100000 in
theorem c_Row_hasEmptyRange (l : Launch) {D : va_G} {dA : Nat → ClassId} {aK aV : Nat → Nat} {z : Nat} {N : Nat} {h0 : Nat} {M : hM} {Z : Int32 × hM} (hf : (f_Row_hasEmptyRange N h0 ).1 M = some Z) : Met l y_Row_hasEmptyRange w_Row_hasEmptyRange ({ frames := 1, cells := Z.2.2.1 - M.2.1, slots := Z.2.2.2 - M.2.2, locals := 20 }) (va_Pc [.ref h0] (hm_B D dA hCl (hTy dA) sT aK aV z M)) (hm_Q D dA hCl (hTy dA) sT aK aV z (some (.int Z.1)) Z.2) (Z.2.2.1 - M.2.1) (Z.2.2.2 - M.2.2) (fun q => z ≤ q) := by
  refine Met.ofW (cc := b_Row_hasEmptyRange) (maxL := 1) (ret := (some .boolean)) (by decide) rfl ?_
  intro p e s m args below meth c s₁ B hml hv
  obtain ⟨hav, hB⟩ := hv
  have S : CallFix p m c b_Row_hasEmptyRange 1 s args w_Row_hasEmptyRange R_Row := ⟨B.exec, B.bytes, hml, findClass_of_methodNamed B.named, atoms_spec (ws := w_Row_hasEmptyRange) B.pre⟩
  have hr : meth.sig.returnType = (some .boolean) := B.returns
  have hlocks := B.notSynchronized
  have hK := hB.2.2.1
  have hG := hB.2.2.2.2.2
  have hI := hm_I.start hB
  rw [← hB.2.1]
  generalize M.2.2 = k1 at hI ⊢
  refine W.eq (g2 := F0 m 0 ((lg_sl ([.ref h0]) ++ List.replicate (1 - (lg_sl ([.ref h0])).length) Slot.unset).toArray) []) (by rw [hav]; exact lg_entry_eq m ([.ref h0]) 1) ?_
  have hl := lv_entry ([.ref h0]) (n := 1) (Nat.le_of_ble_eq_true rfl)
  generalize (lg_sl ([.ref h0]) ++ List.replicate (1 - (lg_sl ([.ref h0])).length) Slot.unset).toArray = ls at hl ⊢
  simp only [lvA_nil, lvA_i, lvA_l, lvA_a, lvA_r, Nat.zero_add, Nat.reduceAdd] at hl
  have hret : ∀ (v : Int32) (M : hM) (H : Heap) (locs : List Loc) (cells slots : Nat) (ls : Array Slot) (pc : Nat), decode b_Row_hasEmptyRange pc = .ok (.ireturn, 1) → (b_retN .boolean v).1 M = some Z → hm_I D dA hCl z k1 s M H locs cells slots → W p l e (headSpec w_Row_hasEmptyRange { frames := 1, cells := Z.2.2.1 - s.heap.size, slots := Z.2.2.2 - k1, locals := 20 }).room s m args below meth c H locs cells slots (MQ below (hm_Q D dA hCl (hTy dA) sT aK aV z (some (.int Z.1)) Z.2) args s (Z.2.2.1 - s.heap.size) (Z.2.2.2 - k1) (fun q => z ≤ q)) (F0 m pc ls [.int v]) := fun v M H locs cells slots ls pc hdg hf hI => x_retn S hK hG hI hr hlocks hdg hf
  have hR : Z.2.2.1 - s.heap.size ≤ (headSpec w_Row_hasEmptyRange { frames := 1, cells := Z.2.2.1 - s.heap.size, slots := Z.2.2.2 - k1, locals := 20 }).room.cells ∧ Z.2.2.2 - k1 ≤ (headSpec w_Row_hasEmptyRange { frames := 1, cells := Z.2.2.1 - s.heap.size, slots := Z.2.2.2 - k1, locals := 20 }).room.slots := ⟨Nat.le_refl _, Nat.le_refl _⟩
  have hRf : 1 ≤ (headSpec w_Row_hasEmptyRange { frames := 1, cells := Z.2.2.1 - s.heap.size, slots := Z.2.2.2 - k1, locals := 20 }).room.frames ∧ 20 ≤ (headSpec w_Row_hasEmptyRange { frames := 1, cells := Z.2.2.1 - s.heap.size, slots := Z.2.2.2 - k1, locals := 20 }).room.locals := ⟨Nat.le_refl _, Nat.le_refl _⟩
  generalize (headSpec w_Row_hasEmptyRange { frames := 1, cells := Z.2.2.1 - s.heap.size, slots := Z.2.2.2 - k1, locals := 20 }).room = R at hret hR hRf ⊢
  generalize (MQ below (hm_Q D dA hCl (hTy dA) sT aK aV z (some (.int Z.1)) Z.2) args s (Z.2.2.1 - s.heap.size) (Z.2.2.2 - k1) (fun q => z ≤ q)) = Q at hret ⊢
  rw [e_Row_hasEmptyRange] at hf
  obtain ⟨J27, eJ27, hf⟩ := b_let_inv hf
  have w27 : ∀ (y0 : Int32) (M : hM) (H : Heap) (locs : List Loc) (ls : Array Slot) (cells slots : Nat), (J27 y0).1 M = some Z → hm_I D dA hCl z k1 s M H locs cells slots → lv_has ls 1 [] → W p l e R s m args below meth c H locs cells slots Q (F0 m 27 ls [.int y0]) := by
    intro y0 M H locs ls cells slots hf hI hl
    rw [eJ27] at hf
    exact hret _ _ _ _ _ _ _ _ d_Row_hasEmptyRange_27 hf hI
  obtain ⟨J26, eJ26, hf⟩ := b_let_inv hf
  have w26 : ∀  (M : hM) (H : Heap) (locs : List Loc) (ls : Array Slot) (cells slots : Nat), (J26).1 M = some Z → hm_I D dA hCl z k1 s M H locs cells slots → lv_has ls 1 [] → W p l e R s m args below meth c H locs cells slots Q (F0 m 26 ls []) := by
    intro M H locs ls cells slots hf hI hl
    rw [eJ26] at hf
    refine lv_iconst (v := 0) S.1 S.2.1 d_Row_hasEmptyRange_26 (by decide) ?_
    exact w27 0 _ _ _ _ _ _ hf hI (lv_sub hl [] rfl)
  refine lv_aload_n S.1 S.2.1 d_Row_hasEmptyRange_0 rfl (lv_at hl 0 rfl) ?_
  refine x_getI (ci := 7) (k := 0) S hK hI (fun w h => List.mem_cons_of_mem _ (i_Row w h)) rfl (by decide) (List.mem_cons_of_mem _ wd_150) rfl d_Row_hasEmptyRange_1 hf (fun v1 hf => ?_)
  obtain ⟨v2, N3, hg4, hf⟩ := b_call_inv hf
  refine x_call hI (hm_mo hg4) (va_runS (As := [.int v1]) (rest := []) S (c_Kind_hasRange l hg4) (va_cwS 1 S.2.2.2.2 (gi_S wd_283 wd_284 wd_204 wd_285) rfl rfl rfl (by decide +kernel) ⟨Nat.le_trans (Nat.le_of_ble_eq_true rfl) hRf.1, Nat.le_trans (Nat.le_of_ble_eq_true rfl) hRf.2⟩) ⟨hm_B.blind, fun U hU hW => ⟨rfl, hm_B.of hK hG hI hU hW⟩⟩ rfl rfl hl.1 rfl (lv_room (Nat.le_of_ble_eq_true rfl)) d_Row_hasEmptyRange_4 (hx_fit hI hR (hm_mo hg4) (hm_mo hf))) (fun H locs cells slots hI => ?_)
  refine W.eq (g2 := F0 m 7 ls [.int v2]) rfl ?_
  refine lv_if_eq (tgt := 26) S.1 S.2.1 d_Row_hasEmptyRange_7 (by decide) (fun hc => ?_) (fun hc => ?_)
  · have hf := b_if_t hc hf
    exact w26  _ _ _ _ _ _ hf hI (lv_sub hl [] rfl)
  · have hf := b_if_f hc hf
    refine lv_aload_n S.1 S.2.1 d_Row_hasEmptyRange_10 rfl (lv_at hl 0 rfl) ?_
    refine x_getL (ci := 7) (k := 4) S hK hI (fun w h => List.mem_cons_of_mem _ (i_Row w h)) rfl (by decide) (List.mem_cons_of_mem _ wd_154) rfl d_Row_hasEmptyRange_11 hf (fun v5 hf => ?_)
    refine lv_aload_n S.1 S.2.1 d_Row_hasEmptyRange_14 rfl (lv_at hl 0 rfl) ?_
    refine x_getL (ci := 7) (k := 5) S hK hI (fun w h => List.mem_cons_of_mem _ (i_Row w h)) rfl (by decide) (List.mem_cons_of_mem _ wd_155) rfl d_Row_hasEmptyRange_15 hf (fun v6 hf => ?_)
    refine W.lcmp S.1 S.2.1 d_Row_hasEmptyRange_18 ?_
    refine lv_if_lt (tgt := 26) S.1 S.2.1 d_Row_hasEmptyRange_19 (by decide) (fun hc => ?_) (fun hc => ?_)
    · have hf := b_if_t hc hf
      exact w26  _ _ _ _ _ _ hf hI (lv_sub hl [] rfl)
    · have hf := b_if_f hc hf
      refine lv_iconst (v := 1) S.1 S.2.1 d_Row_hasEmptyRange_22 (by decide) ?_
      refine lv_goto (tgt := 27) S.1 S.2.1 d_Row_hasEmptyRange_23 (by decide) ?_
      exact w27 1 _ _ _ _ _ _ hf hI (lv_sub hl [] rfl)
