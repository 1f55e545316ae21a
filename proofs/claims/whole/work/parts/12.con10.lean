set_option maxHeartbeats 4000000 in
set_option maxRecDepth 100000 in
theorem c_MD_compare (l : Launch) {D : va_G} {dA : Nat → ClassId} {aK aV : Nat → Nat} {z : Nat} {N : Nat} {h0 : Nat} {p0 : Option Nat} {p1 : Int32} {p2 : Int32} {p3 : Option Nat} {p4 : Int32} {p5 : Int32} {M : hM} {Z : Int32 × hM} (hf : (f_MD_compare N h0 p0 p1 p2 p3 p4 p5).1 M = some Z) : Met l y_MD_compare w_MD_compare ({ frames := 2, cells := Z.2.2.1 - M.2.1, slots := Z.2.2.2 - M.2.2, locals := 46 }) (va_Pc [.ref h0, va_rf p0, .int p1, .int p2, va_rf p3, .int p4, .int p5] (hm_B D dA hCl (hTy dA) sT aK aV z M)) (hm_Q D dA hCl (hTy dA) sT aK aV z (some (.int Z.1)) Z.2) (Z.2.2.1 - M.2.1) (Z.2.2.2 - M.2.2) (fun q => z ≤ q) := by
  refine Met.ofW (cc := b_MD_compare) (maxL := 10) (ret := (some .int)) (by decide) rfl ?_
  intro p e s m args below meth c s₁ B hml hv
  obtain ⟨hav, hB⟩ := hv
  have S : CallFix p m c b_MD_compare 10 s args w_MD_compare R_MD := ⟨B.exec, B.bytes, hml, findClass_of_methodNamed B.named, atoms_spec (ws := w_MD_compare) B.pre⟩
  have hr : meth.sig.returnType = (some .int) := B.returns
  have hlocks := B.notSynchronized
  have hK := hB.2.2.1
  have hG := hB.2.2.2.2.2
  have hI := hm_I.start hB
  rw [← hB.2.1]
  generalize M.2.2 = k1 at hI ⊢
  refine W.eq (g2 := F0 m 0 ((lg_sl ([.ref h0, va_rf p0, .int p1, .int p2, va_rf p3, .int p4, .int p5]) ++ List.replicate (10 - (lg_sl ([.ref h0, va_rf p0, .int p1, .int p2, va_rf p3, .int p4, .int p5])).length) Slot.unset).toArray) []) (by rw [hav]; exact lg_entry_eq m ([.ref h0, va_rf p0, .int p1, .int p2, va_rf p3, .int p4, .int p5]) 10) ?_
  have hl := lv_entry ([.ref h0, va_rf p0, .int p1, .int p2, va_rf p3, .int p4, .int p5]) (n := 10) (by cases p0 <;> cases p3 <;> exact Nat.le_of_ble_eq_true rfl)
  generalize (lg_sl ([.ref h0, va_rf p0, .int p1, .int p2, va_rf p3, .int p4, .int p5]) ++ List.replicate (10 - (lg_sl ([.ref h0, va_rf p0, .int p1, .int p2, va_rf p3, .int p4, .int p5])).length) Slot.unset).toArray = ls at hl ⊢
  simp only [lvA_nil, lvA_i, lvA_l, lvA_a, lvA_r, Nat.zero_add, Nat.reduceAdd] at hl
  have hret : ∀ (v : Int32) (M : hM) (H : Heap) (locs : List Loc) (cells slots : Nat) (ls : Array Slot) (pc : Nat), decode b_MD_compare pc = .ok (.ireturn, 1) → (b_ret v).1 M = some Z → hm_I D dA hCl z k1 s M H locs cells slots → W p l e (headSpec w_MD_compare { frames := 2, cells := Z.2.2.1 - s.heap.size, slots := Z.2.2.2 - k1, locals := 46 }).room s m args below meth c H locs cells slots (MQ below (hm_Q D dA hCl (hTy dA) sT aK aV z (some (.int Z.1)) Z.2) args s (Z.2.2.1 - s.heap.size) (Z.2.2.2 - k1) (fun q => z ≤ q)) (F0 m pc ls [.int v]) := fun v M H locs cells slots ls pc hdg hf hI => x_reti S hK hG hI hr hlocks hdg hf
  have hR : Z.2.2.1 - s.heap.size ≤ (headSpec w_MD_compare { frames := 2, cells := Z.2.2.1 - s.heap.size, slots := Z.2.2.2 - k1, locals := 46 }).room.cells ∧ Z.2.2.2 - k1 ≤ (headSpec w_MD_compare { frames := 2, cells := Z.2.2.1 - s.heap.size, slots := Z.2.2.2 - k1, locals := 46 }).room.slots := ⟨Nat.le_refl _, Nat.le_refl _⟩
  have hRf : 2 ≤ (headSpec w_MD_compare { frames := 2, cells := Z.2.2.1 - s.heap.size, slots := Z.2.2.2 - k1, locals := 46 }).room.frames ∧ 46 ≤ (headSpec w_MD_compare { frames := 2, cells := Z.2.2.1 - s.heap.size, slots := Z.2.2.2 - k1, locals := 46 }).room.locals := ⟨Nat.le_refl _, Nat.le_refl _⟩
  generalize (headSpec w_MD_compare { frames := 2, cells := Z.2.2.1 - s.heap.size, slots := Z.2.2.2 - k1, locals := 46 }).room = R at hret hR hRf ⊢
  generalize (MQ below (hm_Q D dA hCl (hTy dA) sT aK aV z (some (.int Z.1)) Z.2) args s (Z.2.2.1 - s.heap.size) (Z.2.2.2 - k1) (fun q => z ≤ q)) = Q at hret ⊢
  rw [e_MD_compare] at hf
  have w30 : ∀ (n : Nat) (x7 : Int32) (x8 : Int32) (x9 : Int32) (M : hM) (H : Heap) (locs : List Loc) (ls : Array Slot) (cells slots : Nat), (f_MD_compare_30 N h0 p0 p1 p2 p3 p4 p5  n x7 x8 x9).1 M = some Z → hm_I D dA hCl z k1 s M H locs cells slots → lv_has ls 10 [(0, .ref h0), (7, .int x7), (8, .int x8), (9, .int x9)] → W p l e R s m args below meth c H locs cells slots Q (F0 m 30 ls []) := by
    intro n
    induction n with
    | zero => intro x7 x8 x9 M H locs ls cells slots hf hI hl; cases hf
    | succ n30 ih30 =>
      intro x7 x8 x9 M H locs ls cells slots hf hI hl
      rw [e_MD_compare_30] at hf
      obtain ⟨J83, eJ83, hf⟩ := b_let_inv hf
      have w83 : ∀ (x7 : Int32) (x8 : Int32) (M : hM) (H : Heap) (locs : List Loc) (ls : Array Slot) (cells slots : Nat), (J83 x7 x8).1 M = some Z → hm_I D dA hCl z k1 s M H locs cells slots → lv_has ls 10 [(7, .int x7), (8, .int x8)] → W p l e R s m args below meth c H locs cells slots Q (F0 m 83 ls []) := by
        intro x7 x8 M H locs ls cells slots hf hI hl
        rw [eJ83] at hf
        refine lv_iload S.1 S.2.1 d_MD_compare_83 (lv_at hl 0 rfl) ?_
        refine lv_iload S.1 S.2.1 d_MD_compare_85 (lv_at hl 1 rfl) ?_
        refine lv_isub S.1 S.2.1 d_MD_compare_87 ?_
        exact hret _ _ _ _ _ _ _ _ d_MD_compare_88 hf hI
      refine lv_iload S.1 S.2.1 d_MD_compare_30 (lv_at hl 3 rfl) ?_
      refine lv_iload S.1 S.2.1 d_MD_compare_32 (lv_at hl 1 rfl) ?_
      refine lv_icmp_ge (tgt := 83) S.1 S.2.1 d_MD_compare_34 (by decide) (fun hc => ?_) (fun hc => ?_)
      · have hf := b_if_t hc hf
        exact w83 x7 x8 _ _ _ _ _ _ hf hI (lv_sub hl [1, 2] rfl)
      · have hf := b_if_f hc hf
        refine lv_iload S.1 S.2.1 d_MD_compare_37 (lv_at hl 3 rfl) ?_
        refine lv_iload S.1 S.2.1 d_MD_compare_39 (lv_at hl 2 rfl) ?_
        refine lv_icmp_ge (tgt := 83) S.1 S.2.1 d_MD_compare_41 (by decide) (fun hc => ?_) (fun hc => ?_)
        · have hf := b_if_t hc hf
          exact w83 x7 x8 _ _ _ _ _ _ hf hI (lv_sub hl [1, 2] rfl)
        · have hf := b_if_f hc hf
          refine lv_aload_n S.1 S.2.1 d_MD_compare_44 rfl (lv_at hl 0 rfl) ?_
          refine x_getR (ci := 1) (k := 37) S hK hI (fun w h => List.mem_cons_of_mem _ (i_MD w h)) rfl (by decide) (List.mem_cons_of_mem _ wd_551) rfl d_MD_compare_45 hf (fun r1 hf => ?_)
          refine lv_iload S.1 S.2.1 d_MD_compare_48 (lv_at hl 3 rfl) ?_
          obtain ⟨a2, ea2, hg⟩ := b_nn_inv hf
          have hI0 := hI
          have hl0 := hl
          clear hf hI hl
          subst ea2
          have hf := hg
          have hI := hI0
          have hl := hl0
          clear hg hI0 hl0
          refine x_bald (t := 6) S hK hI rfl d_MD_compare_50 hf (fun v3 hf => ?_)
          refine lv_aload_n S.1 S.2.1 d_MD_compare_51 rfl (lv_at hl 0 rfl) ?_
          refine x_getR (ci := 1) (k := 38) S hK hI (fun w h => List.mem_cons_of_mem _ (i_MD w h)) rfl (by decide) (List.mem_cons_of_mem _ wd_552) rfl d_MD_compare_52 hf (fun r4 hf => ?_)
          refine lv_iload S.1 S.2.1 d_MD_compare_55 (lv_at hl 3 rfl) ?_
          obtain ⟨a5, ea5, hg⟩ := b_nn_inv hf
          have hI0 := hI
          have hl0 := hl
          clear hf hI hl
          subst ea5
          have hf := hg
          have hI := hI0
          have hl := hl0
          clear hg hI0 hl0
          refine x_bald (t := 6) S hK hI rfl d_MD_compare_57 hf (fun v6 hf => ?_)
          refine lv_icmp_eq (tgt := 77) S.1 S.2.1 d_MD_compare_58 (by decide) (fun hc => ?_) (fun hc => ?_)
          · have hf := b_if_t hc hf
            refine x_iinc (v := 1) (lv2 := [(0, .ref h0), (7, .int x7), (8, .int x8)]) S d_MD_compare_77 hl 3 rfl (by decide) (by decide) [0, 1, 2] rfl ⟨⟨(by decide : (0 : Nat) ≠ 9), fun h => absurd (show (0 : Nat) + 1 = 9 from h) (by decide)⟩, ⟨⟨(by decide : (7 : Nat) ≠ 9), fun h => absurd (show (7 : Nat) + 1 = 9 from h) (by decide)⟩, ⟨⟨(by decide : (8 : Nat) ≠ 9), fun _ => rfl⟩, trivial⟩⟩⟩ (fun ls hl => ?_)
            refine lv_goto (tgt := 30) S.1 S.2.1 d_MD_compare_80 (by decide) ?_
            exact ih30 x7 x8 (x9 + 1) _ _ _ _ _ _ hf hI (lv_sub hl [1, 2, 3, 0] rfl)
          · have hf := b_if_f hc hf
            refine lv_aload_n S.1 S.2.1 d_MD_compare_61 rfl (lv_at hl 0 rfl) ?_
            refine x_getR (ci := 1) (k := 37) S hK hI (fun w h => List.mem_cons_of_mem _ (i_MD w h)) rfl (by decide) (List.mem_cons_of_mem _ wd_551) rfl d_MD_compare_62 hf (fun r7 hf => ?_)
            refine lv_iload S.1 S.2.1 d_MD_compare_65 (lv_at hl 3 rfl) ?_
            obtain ⟨a8, ea8, hg⟩ := b_nn_inv hf
            have hI0 := hI
            have hl0 := hl
            clear hf hI hl
            subst ea8
            have hf := hg
            have hI := hI0
            have hl := hl0
            clear hg hI0 hl0
            refine x_bald (t := 6) S hK hI rfl d_MD_compare_67 hf (fun v9 hf => ?_)
            refine lv_aload_n S.1 S.2.1 d_MD_compare_68 rfl (lv_at hl 0 rfl) ?_
            refine x_getR (ci := 1) (k := 38) S hK hI (fun w h => List.mem_cons_of_mem _ (i_MD w h)) rfl (by decide) (List.mem_cons_of_mem _ wd_552) rfl d_MD_compare_69 hf (fun r10 hf => ?_)
            refine lv_iload S.1 S.2.1 d_MD_compare_72 (lv_at hl 3 rfl) ?_
            obtain ⟨a11, ea11, hg⟩ := b_nn_inv hf
            have hI0 := hI
            have hl0 := hl
            clear hf hI hl
            subst ea11
            have hf := hg
            have hI := hI0
            have hl := hl0
            clear hg hI0 hl0
            refine x_bald (t := 6) S hK hI rfl d_MD_compare_74 hf (fun v12 hf => ?_)
            refine lv_isub S.1 S.2.1 d_MD_compare_75 ?_
            exact hret _ _ _ _ _ _ _ _ d_MD_compare_76 hf hI
  refine x_aload_n (r := p0) S d_MD_compare_0 rfl (lv_at hl 1 rfl) ?_
  refine lv_iload_n S.1 S.2.1 d_MD_compare_1 rfl (lv_at hl 2 rfl) ?_
  refine lv_iload_n S.1 S.2.1 d_MD_compare_2 rfl (lv_at hl 3 rfl) ?_
  refine lv_aload_n S.1 S.2.1 d_MD_compare_3 rfl (lv_at hl 0 rfl) ?_
  refine x_getR (ci := 1) (k := 37) S hK hI (fun w h => List.mem_cons_of_mem _ (i_MD w h)) rfl (by decide) (List.mem_cons_of_mem _ wd_551) rfl d_MD_compare_4 hf (fun r13 hf => ?_)
  obtain ⟨v14, N15, hg16, hf⟩ := b_call_inv hf
  refine x_call hI (hm_mo hg16) (va_runS (As := [va_rf p0, .int p1, .int p2, va_rf r13]) (rest := []) S (c_MD_folded l hg16) (va_cwS 4 S.2.2.2.2 (gi_S wd_621 wd_622 wd_564 wd_623) rfl rfl rfl (by decide +kernel) ⟨Nat.le_trans (Nat.le_of_ble_eq_true rfl) hRf.1, Nat.le_trans (Nat.le_of_ble_eq_true rfl) hRf.2⟩) ⟨hm_B.blind, fun U hU hW => ⟨rfl, hm_B.of hK hG hI hU hW⟩⟩ rfl rfl hl.1 rfl (lv_room (Nat.le_of_ble_eq_true rfl)) d_MD_compare_7 (hx_fit hI hR (hm_mo hg16) (hm_mo hf))) (fun H locs cells slots hI => ?_)
  refine W.eq (g2 := F0 m 10 ls [.int v14]) rfl ?_
  refine x_istore (lv2 := [(0, .ref h0), (1, va_rf p0), (2, .int p1), (3, .int p2), (4, va_rf p3), (5, .int p4), (6, .int p5)]) S d_MD_compare_10 hl (by decide) [0, 1, 2, 3, 4, 5, 6] rfl ⟨⟨(by decide : (0 : Nat) ≠ 7), fun h => absurd (show (0 : Nat) + 1 = 7 from h) (by decide)⟩, ⟨⟨(by decide : (1 : Nat) ≠ 7), fun h => absurd (show (1 : Nat) + 1 = 7 from h) (by decide)⟩, ⟨⟨(by decide : (2 : Nat) ≠ 7), fun h => absurd (show (2 : Nat) + 1 = 7 from h) (by decide)⟩, ⟨⟨(by decide : (3 : Nat) ≠ 7), fun h => absurd (show (3 : Nat) + 1 = 7 from h) (by decide)⟩, ⟨⟨(by decide : (4 : Nat) ≠ 7), fun h => absurd (show (4 : Nat) + 1 = 7 from h) (by decide)⟩, ⟨⟨(by decide : (5 : Nat) ≠ 7), fun h => absurd (show (5 : Nat) + 1 = 7 from h) (by decide)⟩, ⟨⟨(by decide : (6 : Nat) ≠ 7), fun _ => rfl⟩, trivial⟩⟩⟩⟩⟩⟩⟩ (fun ls hl => ?_)
  refine x_aload (r := p3) S d_MD_compare_12 (lv_at hl 5 rfl) ?_
  refine lv_iload S.1 S.2.1 d_MD_compare_14 (lv_at hl 6 rfl) ?_
  refine lv_iload S.1 S.2.1 d_MD_compare_16 (lv_at hl 7 rfl) ?_
  refine lv_aload_n S.1 S.2.1 d_MD_compare_18 rfl (lv_at hl 1 rfl) ?_
  refine x_getR (ci := 1) (k := 38) S hK hI (fun w h => List.mem_cons_of_mem _ (i_MD w h)) rfl (by decide) (List.mem_cons_of_mem _ wd_552) rfl d_MD_compare_19 hf (fun r17 hf => ?_)
  obtain ⟨v18, N19, hg20, hf⟩ := b_call_inv hf
  refine x_call hI (hm_mo hg20) (va_runS (As := [va_rf p3, .int p4, .int p5, va_rf r17]) (rest := []) S (c_MD_folded l hg20) (va_cwS 4 S.2.2.2.2 (gi_S wd_621 wd_622 wd_564 wd_623) rfl rfl rfl (by decide +kernel) ⟨Nat.le_trans (Nat.le_of_ble_eq_true rfl) hRf.1, Nat.le_trans (Nat.le_of_ble_eq_true rfl) hRf.2⟩) ⟨hm_B.blind, fun U hU hW => ⟨rfl, hm_B.of hK hG hI hU hW⟩⟩ rfl rfl hl.1 rfl (lv_room (Nat.le_of_ble_eq_true rfl)) d_MD_compare_22 (hx_fit hI hR (hm_mo hg20) (hm_mo hf))) (fun H locs cells slots hI => ?_)
  refine W.eq (g2 := F0 m 25 ls [.int v18]) rfl ?_
  refine x_istore (lv2 := [(7, .int v14), (0, .ref h0), (1, va_rf p0), (2, .int p1), (3, .int p2), (4, va_rf p3), (5, .int p4), (6, .int p5)]) S d_MD_compare_25 hl (by decide) [0, 1, 2, 3, 4, 5, 6, 7] rfl ⟨⟨(by decide : (7 : Nat) ≠ 8), fun _ => rfl⟩, ⟨⟨(by decide : (0 : Nat) ≠ 8), fun h => absurd (show (0 : Nat) + 1 = 8 from h) (by decide)⟩, ⟨⟨(by decide : (1 : Nat) ≠ 8), fun h => absurd (show (1 : Nat) + 1 = 8 from h) (by decide)⟩, ⟨⟨(by decide : (2 : Nat) ≠ 8), fun h => absurd (show (2 : Nat) + 1 = 8 from h) (by decide)⟩, ⟨⟨(by decide : (3 : Nat) ≠ 8), fun h => absurd (show (3 : Nat) + 1 = 8 from h) (by decide)⟩, ⟨⟨(by decide : (4 : Nat) ≠ 8), fun h => absurd (show (4 : Nat) + 1 = 8 from h) (by decide)⟩, ⟨⟨(by decide : (5 : Nat) ≠ 8), fun h => absurd (show (5 : Nat) + 1 = 8 from h) (by decide)⟩, ⟨⟨(by decide : (6 : Nat) ≠ 8), fun h => absurd (show (6 : Nat) + 1 = 8 from h) (by decide)⟩, trivial⟩⟩⟩⟩⟩⟩⟩⟩ (fun ls hl => ?_)
  refine lv_iconst (v := 0) S.1 S.2.1 d_MD_compare_27 (by decide) ?_
  refine x_istore (lv2 := [(8, .int v18), (7, .int v14), (0, .ref h0), (1, va_rf p0), (2, .int p1), (3, .int p2), (4, va_rf p3), (5, .int p4), (6, .int p5)]) S d_MD_compare_28 hl (by decide) [0, 1, 2, 3, 4, 5, 6, 7, 8] rfl ⟨⟨(by decide : (8 : Nat) ≠ 9), fun _ => rfl⟩, ⟨⟨(by decide : (7 : Nat) ≠ 9), fun h => absurd (show (7 : Nat) + 1 = 9 from h) (by decide)⟩, ⟨⟨(by decide : (0 : Nat) ≠ 9), fun h => absurd (show (0 : Nat) + 1 = 9 from h) (by decide)⟩, ⟨⟨(by decide : (1 : Nat) ≠ 9), fun h => absurd (show (1 : Nat) + 1 = 9 from h) (by decide)⟩, ⟨⟨(by decide : (2 : Nat) ≠ 9), fun h => absurd (show (2 : Nat) + 1 = 9 from h) (by decide)⟩, ⟨⟨(by decide : (3 : Nat) ≠ 9), fun h => absurd (show (3 : Nat) + 1 = 9 from h) (by decide)⟩, ⟨⟨(by decide : (4 : Nat) ≠ 9), fun h => absurd (show (4 : Nat) + 1 = 9 from h) (by decide)⟩, ⟨⟨(by decide : (5 : Nat) ≠ 9), fun h => absurd (show (5 : Nat) + 1 = 9 from h) (by decide)⟩, ⟨⟨(by decide : (6 : Nat) ≠ 9), fun h => absurd (show (6 : Nat) + 1 = 9 from h) (by decide)⟩, trivial⟩⟩⟩⟩⟩⟩⟩⟩⟩ (fun ls hl => ?_)
  exact w30 N v14 v18 0 _ _ _ _ _ _ hf hI (lv_sub hl [3, 2, 1, 0] rfl)
set_option maxHeartbeats 4000000 in
set_option maxRecDepth 100000 in
theorem c_MD_base (l : Launch) {D : va_G} {dA : Nat → ClassId} {aK aV : Nat → Nat} {z : Nat} {N : Nat} {h0 : Nat} {M : hM} {Z : Int32 × hM} (hf : (f_MD_base N h0 ).1 M = some Z) : Met l y_MD_base w_MD_base ({ frames := 0, cells := Z.2.2.1 - M.2.1, slots := Z.2.2.2 - M.2.2, locals := 0 }) (va_Pc [.ref h0] (hm_B D dA hCl (hTy dA) sT aK aV z M)) (hm_Q D dA hCl (hTy dA) sT aK aV z (some (.int Z.1)) Z.2) (Z.2.2.1 - M.2.1) (Z.2.2.2 - M.2.2) (fun q => z ≤ q) := by
  refine Met.ofW (cc := b_MD_base) (maxL := 1) (ret := (some .int)) (by decide) rfl ?_
  intro p e s m args below meth c s₁ B hml hv
  obtain ⟨hav, hB⟩ := hv
  have S : CallFix p m c b_MD_base 1 s args w_MD_base R_MD := ⟨B.exec, B.bytes, hml, findClass_of_methodNamed B.named, atoms_spec (ws := w_MD_base) B.pre⟩
  have hr : meth.sig.returnType = (some .int) := B.returns
  have hlocks := B.notSynchronized
  have hK := hB.2.2.1
  have hG := hB.2.2.2.2.2
  have hI := hm_I.start hB
  rw [← hB.2.1]
  generalize M.2.2 = k1 at hI ⊢
  refine W.eq (g2 := F0 m 0 ((lg_sl ([.ref h0]) ++ List.replicate (1 - (lg_sl ([.ref h0])).length) Slot.unset).toArray) []) (by rw [hav]; exact lg_entry_eq m ([.ref h0]) 1) ?_
  have hl := lv_entry ([.ref h0]) (n := 1) (Nat.le_of_ble_eq_true rfl)
  generalize (lg_sl ([.ref h0]) ++ List.replicate (1 - (lg_sl ([.ref h0])).length) Slot.unset).toArray = ls at hl ⊢
  simp only [lvA_nil, lvA_i, lvA_l, lvA_a, lvA_r, Nat.zero_add, Nat.reduceAdd] at hl
  have hret : ∀ (v : Int32) (M : hM) (H : Heap) (locs : List Loc) (cells slots : Nat) (ls : Array Slot) (pc : Nat), decode b_MD_base pc = .ok (.ireturn, 1) → (b_ret v).1 M = some Z → hm_I D dA hCl z k1 s M H locs cells slots → W p l e (headSpec w_MD_base { frames := 0, cells := Z.2.2.1 - s.heap.size, slots := Z.2.2.2 - k1, locals := 0 }).room s m args below meth c H locs cells slots (MQ below (hm_Q D dA hCl (hTy dA) sT aK aV z (some (.int Z.1)) Z.2) args s (Z.2.2.1 - s.heap.size) (Z.2.2.2 - k1) (fun q => z ≤ q)) (F0 m pc ls [.int v]) := fun v M H locs cells slots ls pc hdg hf hI => x_reti S hK hG hI hr hlocks hdg hf
  have hR : Z.2.2.1 - s.heap.size ≤ (headSpec w_MD_base { frames := 0, cells := Z.2.2.1 - s.heap.size, slots := Z.2.2.2 - k1, locals := 0 }).room.cells ∧ Z.2.2.2 - k1 ≤ (headSpec w_MD_base { frames := 0, cells := Z.2.2.1 - s.heap.size, slots := Z.2.2.2 - k1, locals := 0 }).room.slots := ⟨Nat.le_refl _, Nat.le_refl _⟩
  have hRf : 0 ≤ (headSpec w_MD_base { frames := 0, cells := Z.2.2.1 - s.heap.size, slots := Z.2.2.2 - k1, locals := 0 }).room.frames ∧ 0 ≤ (headSpec w_MD_base { frames := 0, cells := Z.2.2.1 - s.heap.size, slots := Z.2.2.2 - k1, locals := 0 }).room.locals := ⟨Nat.le_refl _, Nat.le_refl _⟩
  generalize (headSpec w_MD_base { frames := 0, cells := Z.2.2.1 - s.heap.size, slots := Z.2.2.2 - k1, locals := 0 }).room = R at hret hR hRf ⊢
  generalize (MQ below (hm_Q D dA hCl (hTy dA) sT aK aV z (some (.int Z.1)) Z.2) args s (Z.2.2.1 - s.heap.size) (Z.2.2.2 - k1) (fun q => z ≤ q)) = Q at hret ⊢
  rw [e_MD_base] at hf
  refine lv_sipush (v := 200) S.1 S.2.1 d_MD_base_0 (by decide) ?_
  refine lv_aload_n S.1 S.2.1 d_MD_base_3 rfl (lv_at hl 0 rfl) ?_
  refine x_getI (ci := 1) (k := 11) S hK hI (fun w h => List.mem_cons_of_mem _ (i_MD w h)) rfl (by decide) (List.mem_cons_of_mem _ wd_624) rfl d_MD_base_4 hf (fun v1 hf => ?_)
  refine lv_imul S.1 S.2.1 d_MD_base_7 ?_
  exact hret _ _ _ _ _ _ _ _ d_MD_base_8 hf hI
set_option maxHeartbeats 4000000 in
set_option maxRecDepth 100000 in
theorem c_MD_copyName (l : Launch) {D : va_G} {dA : Nat → ClassId} {aK aV : Nat → Nat} {z : Nat} {N : Nat} {h0 : Nat} {p0 : Int32} {p1 : Int32} {p2 : Option Nat} {p3 : Int32} {M : hM} {Z : Unit × hM} (hf : (f_MD_copyName N h0 p0 p1 p2 p3).1 M = some Z) : Met l y_MD_copyName w_MD_copyName ({ frames := 0, cells := Z.2.2.1 - M.2.1, slots := Z.2.2.2 - M.2.2, locals := 0 }) (va_Pc [.ref h0, .int p0, .int p1, va_rf p2, .int p3] (hm_B D dA hCl (hTy dA) sT aK aV z M)) (hm_Q D dA hCl (hTy dA) sT aK aV z none Z.2) (Z.2.2.1 - M.2.1) (Z.2.2.2 - M.2.2) (fun q => z ≤ q) := by
  refine Met.ofW (cc := b_MD_copyName) (maxL := 6) (ret := none) (by decide) rfl ?_
  intro p e s m args below meth c s₁ B hml hv
  obtain ⟨hav, hB⟩ := hv
  have S : CallFix p m c b_MD_copyName 6 s args w_MD_copyName R_MD := ⟨B.exec, B.bytes, hml, findClass_of_methodNamed B.named, atoms_spec (ws := w_MD_copyName) B.pre⟩
  have hr : meth.sig.returnType = none := B.returns
  have hlocks := B.notSynchronized
  have hK := hB.2.2.1
  have hG := hB.2.2.2.2.2
  have hI := hm_I.start hB
  rw [← hB.2.1]
  generalize M.2.2 = k1 at hI ⊢
  refine W.eq (g2 := F0 m 0 ((lg_sl ([.ref h0, .int p0, .int p1, va_rf p2, .int p3]) ++ List.replicate (6 - (lg_sl ([.ref h0, .int p0, .int p1, va_rf p2, .int p3])).length) Slot.unset).toArray) []) (by rw [hav]; exact lg_entry_eq m ([.ref h0, .int p0, .int p1, va_rf p2, .int p3]) 6) ?_
  have hl := lv_entry ([.ref h0, .int p0, .int p1, va_rf p2, .int p3]) (n := 6) (by cases p2 <;> exact Nat.le_of_ble_eq_true rfl)
  generalize (lg_sl ([.ref h0, .int p0, .int p1, va_rf p2, .int p3]) ++ List.replicate (6 - (lg_sl ([.ref h0, .int p0, .int p1, va_rf p2, .int p3])).length) Slot.unset).toArray = ls at hl ⊢
  simp only [lvA_nil, lvA_i, lvA_l, lvA_a, lvA_r, Nat.zero_add, Nat.reduceAdd] at hl
  have hret : ∀ (M : hM) (H : Heap) (locs : List Loc) (cells slots : Nat) (ls : Array Slot) (pc : Nat), decode b_MD_copyName pc = .ok (.return_, 1) → (b_ret ()).1 M = some Z → hm_I D dA hCl z k1 s M H locs cells slots → W p l e (headSpec w_MD_copyName { frames := 0, cells := Z.2.2.1 - s.heap.size, slots := Z.2.2.2 - k1, locals := 0 }).room s m args below meth c H locs cells slots (MQ below (hm_Q D dA hCl (hTy dA) sT aK aV z none Z.2) args s (Z.2.2.1 - s.heap.size) (Z.2.2.2 - k1) (fun q => z ≤ q)) (F0 m pc ls []) := fun M H locs cells slots ls pc hdg hf hI => x_retv S hK hG hI hr hlocks hdg hf
  have hR : Z.2.2.1 - s.heap.size ≤ (headSpec w_MD_copyName { frames := 0, cells := Z.2.2.1 - s.heap.size, slots := Z.2.2.2 - k1, locals := 0 }).room.cells ∧ Z.2.2.2 - k1 ≤ (headSpec w_MD_copyName { frames := 0, cells := Z.2.2.1 - s.heap.size, slots := Z.2.2.2 - k1, locals := 0 }).room.slots := ⟨Nat.le_refl _, Nat.le_refl _⟩
  have hRf : 0 ≤ (headSpec w_MD_copyName { frames := 0, cells := Z.2.2.1 - s.heap.size, slots := Z.2.2.2 - k1, locals := 0 }).room.frames ∧ 0 ≤ (headSpec w_MD_copyName { frames := 0, cells := Z.2.2.1 - s.heap.size, slots := Z.2.2.2 - k1, locals := 0 }).room.locals := ⟨Nat.le_refl _, Nat.le_refl _⟩
  generalize (headSpec w_MD_copyName { frames := 0, cells := Z.2.2.1 - s.heap.size, slots := Z.2.2.2 - k1, locals := 0 }).room = R at hret hR hRf ⊢
  generalize (MQ below (hm_Q D dA hCl (hTy dA) sT aK aV z none Z.2) args s (Z.2.2.1 - s.heap.size) (Z.2.2.2 - k1) (fun q => z ≤ q)) = Q at hret ⊢
  rw [e_MD_copyName] at hf
  have w3 : ∀ (n : Nat) (x5 : Int32) (M : hM) (H : Heap) (locs : List Loc) (ls : Array Slot) (cells slots : Nat), (f_MD_copyName_3 N h0 p0 p1 p2 p3  n x5).1 M = some Z → hm_I D dA hCl z k1 s M H locs cells slots → lv_has ls 6 [(0, .ref h0), (1, .int p0), (2, .int p1), (3, va_rf p2), (4, .int p3), (5, .int x5)] → W p l e R s m args below meth c H locs cells slots Q (F0 m 3 ls []) := by
    intro n
    induction n with
    | zero => intro x5 M H locs ls cells slots hf hI hl; cases hf
    | succ n3 ih3 =>
      intro x5 M H locs ls cells slots hf hI hl
      rw [e_MD_copyName_3] at hf
      refine lv_iload S.1 S.2.1 d_MD_copyName_3 (lv_at hl 5 rfl) ?_
      refine lv_iload_n S.1 S.2.1 d_MD_copyName_5 rfl (lv_at hl 2 rfl) ?_
      refine lv_icmp_ge (tgt := 31) S.1 S.2.1 d_MD_copyName_6 (by decide) (fun hc => ?_) (fun hc => ?_)
      · have hf := b_if_t hc hf
        exact hret _ _ _ _ _ _ _ d_MD_copyName_31 hf hI
      · have hf := b_if_f hc hf
        refine x_aload_n (r := p2) S d_MD_copyName_9 rfl (lv_at hl 3 rfl) ?_
        refine lv_iload S.1 S.2.1 d_MD_copyName_10 (lv_at hl 4 rfl) ?_
        refine lv_iload S.1 S.2.1 d_MD_copyName_12 (lv_at hl 5 rfl) ?_
        refine lv_iadd S.1 S.2.1 d_MD_copyName_14 ?_
        refine lv_aload_n S.1 S.2.1 d_MD_copyName_15 rfl (lv_at hl 0 rfl) ?_
        refine x_getR (ci := 1) (k := 1) S hK hI (fun w h => List.mem_cons_of_mem _ (i_MD w h)) rfl (by decide) (List.mem_cons_of_mem _ wd_509) rfl d_MD_copyName_16 hf (fun r1 hf => ?_)
        refine lv_iload_n S.1 S.2.1 d_MD_copyName_19 rfl (lv_at hl 1 rfl) ?_
        refine lv_iload S.1 S.2.1 d_MD_copyName_20 (lv_at hl 5 rfl) ?_
        refine lv_iadd S.1 S.2.1 d_MD_copyName_22 ?_
        obtain ⟨a2, ea2, hg⟩ := b_nn_inv hf
        have hI0 := hI
        have hl0 := hl
        clear hf hI hl
        subst ea2
        have hf := hg
        have hI := hI0
        have hl := hl0
        clear hg hI0 hl0
        refine x_bald (t := 6) S hK hI rfl d_MD_copyName_23 hf (fun v3 hf => ?_)
        obtain ⟨a4, ea4, hg⟩ := b_nn_inv hf
        have hI0 := hI
        have hl0 := hl
        clear hf hI hl
        subst ea4
        have hf := hg
        have hI := hI0
        have hl := hl0
        clear hg hI0 hl0
        refine x_bast (t := 6) S hK hI rfl d_MD_copyName_24 hf (fun M H locs hf hI => ?_)
        refine x_iinc (v := 1) (lv2 := [(0, .ref h0), (1, .int p0), (2, .int p1), (3, .ref a4), (4, .int p3)]) S d_MD_copyName_25 hl 5 rfl (by decide) (by decide) [0, 1, 2, 3, 4] rfl ⟨⟨(by decide : (0 : Nat) ≠ 5), fun h => absurd (show (0 : Nat) + 1 = 5 from h) (by decide)⟩, ⟨⟨(by decide : (1 : Nat) ≠ 5), fun h => absurd (show (1 : Nat) + 1 = 5 from h) (by decide)⟩, ⟨⟨(by decide : (2 : Nat) ≠ 5), fun h => absurd (show (2 : Nat) + 1 = 5 from h) (by decide)⟩, ⟨⟨(by decide : (3 : Nat) ≠ 5), fun h => absurd (show (3 : Nat) + 1 = 5 from h) (by decide)⟩, ⟨⟨(by decide : (4 : Nat) ≠ 5), fun _ => rfl⟩, trivial⟩⟩⟩⟩⟩ (fun ls hl => ?_)
        refine lv_goto (tgt := 3) S.1 S.2.1 d_MD_copyName_28 (by decide) ?_
        exact ih3 (x5 + 1) _ _ _ _ _ _ hf hI (lv_sub hl [1, 2, 3, 4, 5, 0] rfl)
  refine lv_iconst (v := 0) S.1 S.2.1 d_MD_copyName_0 (by decide) ?_
  refine x_istore (lv2 := [(0, .ref h0), (1, .int p0), (2, .int p1), (3, va_rf p2), (4, .int p3)]) S d_MD_copyName_1 hl (by decide) [0, 1, 2, 3, 4] rfl ⟨⟨(by decide : (0 : Nat) ≠ 5), fun h => absurd (show (0 : Nat) + 1 = 5 from h) (by decide)⟩, ⟨⟨(by decide : (1 : Nat) ≠ 5), fun h => absurd (show (1 : Nat) + 1 = 5 from h) (by decide)⟩, ⟨⟨(by decide : (2 : Nat) ≠ 5), fun h => absurd (show (2 : Nat) + 1 = 5 from h) (by decide)⟩, ⟨⟨(by decide : (3 : Nat) ≠ 5), fun h => absurd (show (3 : Nat) + 1 = 5 from h) (by decide)⟩, ⟨⟨(by decide : (4 : Nat) ≠ 5), fun _ => rfl⟩, trivial⟩⟩⟩⟩⟩ (fun ls hl => ?_)
  exact w3 N 0 _ _ _ _ _ _ hf hI (lv_sub hl [1, 2, 3, 4, 5, 0] rfl)
set_option maxHeartbeats 4000000 in
set_option maxRecDepth 100000 in
theorem c_MD_addRow (l : Launch) {D : va_G} {dA : Nat → ClassId} {aK aV : Nat → Nat} {z : Nat} {N : Nat} {h0 : Nat} {p0 : Int32} {p1 : Int32} {p2 : Int32} {p3 : Int32} {p4 : Int64} {p5 : Int64} {M : hM} {Z : Int32 × hM} (hf : (f_MD_addRow N h0 p0 p1 p2 p3 p4 p5).1 M = some Z) : Met l y_MD_addRow w_MD_addRow ({ frames := 1, cells := Z.2.2.1 - M.2.1, slots := Z.2.2.2 - M.2.2, locals := 25 }) (va_Pc [.ref h0, .int p0, .int p1, .int p2, .int p3, .long p4, .long p5] (hm_B D dA hCl (hTy dA) sT aK aV z M)) (hm_Q D dA hCl (hTy dA) sT aK aV z (some (.int Z.1)) Z.2) (Z.2.2.1 - M.2.1) (Z.2.2.2 - M.2.2) (fun q => z ≤ q) := by
  refine Met.ofW (cc := b_MD_addRow) (maxL := 10) (ret := (some .boolean)) (by decide) rfl ?_
  intro p e s m args below meth c s₁ B hml hv
  obtain ⟨hav, hB⟩ := hv
  have S : CallFix p m c b_MD_addRow 10 s args w_MD_addRow R_MD := ⟨B.exec, B.bytes, hml, findClass_of_methodNamed B.named, atoms_spec (ws := w_MD_addRow) B.pre⟩
  have hr : meth.sig.returnType = (some .boolean) := B.returns
  have hlocks := B.notSynchronized
  have hK := hB.2.2.1
  have hG := hB.2.2.2.2.2
  have hI := hm_I.start hB
  rw [← hB.2.1]
  generalize M.2.2 = k1 at hI ⊢
  refine W.eq (g2 := F0 m 0 ((lg_sl ([.ref h0, .int p0, .int p1, .int p2, .int p3, .long p4, .long p5]) ++ List.replicate (10 - (lg_sl ([.ref h0, .int p0, .int p1, .int p2, .int p3, .long p4, .long p5])).length) Slot.unset).toArray) []) (by rw [hav]; exact lg_entry_eq m ([.ref h0, .int p0, .int p1, .int p2, .int p3, .long p4, .long p5]) 10) ?_
  have hl := lv_entry ([.ref h0, .int p0, .int p1, .int p2, .int p3, .long p4, .long p5]) (n := 10) (Nat.le_of_ble_eq_true rfl)
  generalize (lg_sl ([.ref h0, .int p0, .int p1, .int p2, .int p3, .long p4, .long p5]) ++ List.replicate (10 - (lg_sl ([.ref h0, .int p0, .int p1, .int p2, .int p3, .long p4, .long p5])).length) Slot.unset).toArray = ls at hl ⊢
  simp only [lvA_nil, lvA_i, lvA_l, lvA_a, lvA_r, Nat.zero_add, Nat.reduceAdd] at hl
  have hret : ∀ (v : Int32) (M : hM) (H : Heap) (locs : List Loc) (cells slots : Nat) (ls : Array Slot) (pc : Nat), decode b_MD_addRow pc = .ok (.ireturn, 1) → (b_retN .boolean v).1 M = some Z → hm_I D dA hCl z k1 s M H locs cells slots → W p l e (headSpec w_MD_addRow { frames := 1, cells := Z.2.2.1 - s.heap.size, slots := Z.2.2.2 - k1, locals := 25 }).room s m args below meth c H locs cells slots (MQ below (hm_Q D dA hCl (hTy dA) sT aK aV z (some (.int Z.1)) Z.2) args s (Z.2.2.1 - s.heap.size) (Z.2.2.2 - k1) (fun q => z ≤ q)) (F0 m pc ls [.int v]) := fun v M H locs cells slots ls pc hdg hf hI => x_retn S hK hG hI hr hlocks hdg hf
  have hR : Z.2.2.1 - s.heap.size ≤ (headSpec w_MD_addRow { frames := 1, cells := Z.2.2.1 - s.heap.size, slots := Z.2.2.2 - k1, locals := 25 }).room.cells ∧ Z.2.2.2 - k1 ≤ (headSpec w_MD_addRow { frames := 1, cells := Z.2.2.1 - s.heap.size, slots := Z.2.2.2 - k1, locals := 25 }).room.slots := ⟨Nat.le_refl _, Nat.le_refl _⟩
  have hRf : 1 ≤ (headSpec w_MD_addRow { frames := 1, cells := Z.2.2.1 - s.heap.size, slots := Z.2.2.2 - k1, locals := 25 }).room.frames ∧ 25 ≤ (headSpec w_MD_addRow { frames := 1, cells := Z.2.2.1 - s.heap.size, slots := Z.2.2.2 - k1, locals := 25 }).room.locals := ⟨Nat.le_refl _, Nat.le_refl _⟩
  generalize (headSpec w_MD_addRow { frames := 1, cells := Z.2.2.1 - s.heap.size, slots := Z.2.2.2 - k1, locals := 25 }).room = R at hret hR hRf ⊢
  generalize (MQ below (hm_Q D dA hCl (hTy dA) sT aK aV z (some (.int Z.1)) Z.2) args s (Z.2.2.1 - s.heap.size) (Z.2.2.2 - k1) (fun q => z ≤ q)) = Q at hret ⊢
  rw [e_MD_addRow] at hf
  obtain ⟨J75, eJ75, hf⟩ := b_let_inv hf
  have w75 : ∀ (x9 : Int32) (y0 : Int32) (y1 : Int32) (y2 : Option Nat) (M : hM) (H : Heap) (locs : List Loc) (ls : Array Slot) (cells slots : Nat), (J75 x9 y0 y1 y2).1 M = some Z → hm_I D dA hCl z k1 s M H locs cells slots → lv_has ls 10 [(0, .ref h0), (1, .int p0), (2, .int p1), (3, .int p2), (4, .int p3), (5, .long p4), (7, .long p5), (9, .int x9)] → W p l e R s m args below meth c H locs cells slots Q (F0 m 75 ls [.int y0, .int y1, va_rf y2]) := by
    intro x9 y0 y1 y2 M H locs ls cells slots hf hI hl
    rw [eJ75] at hf
    obtain ⟨a1, ea1, hg⟩ := b_nn_inv hf
    have hI0 := hI
    have hl0 := hl
    clear hf hI hl
    subst ea1
    have hf := hg
    have hI := hI0
    have hl := hl0
    clear hg hI0 hl0
    refine x_iast (t := 2) S hK hI rfl d_MD_addRow_75 hf (fun M H locs hf hI => ?_)
    refine lv_aload_n S.1 S.2.1 d_MD_addRow_76 rfl (lv_at hl 0 rfl) ?_
    refine x_getR (ci := 1) (k := 21) S hK hI (fun w h => List.mem_cons_of_mem _ (i_MD w h)) rfl (by decide) (List.mem_cons_of_mem _ wd_541) rfl d_MD_addRow_77 hf (fun r2 hf => ?_)
    refine lv_iload S.1 S.2.1 d_MD_addRow_80 (lv_at hl 7 rfl) ?_
    refine lv_iload_n S.1 S.2.1 d_MD_addRow_82 rfl (lv_at hl 2 rfl) ?_
    obtain ⟨a3, ea3, hg⟩ := b_nn_inv hf
    have hI0 := hI
    have hl0 := hl
    clear hf hI hl
    subst ea3
    have hf := hg
    have hI := hI0
    have hl := hl0
    clear hg hI0 hl0
    refine x_iast (t := 2) S hK hI rfl d_MD_addRow_83 hf (fun M H locs hf hI => ?_)
    refine lv_aload_n S.1 S.2.1 d_MD_addRow_84 rfl (lv_at hl 0 rfl) ?_
    refine lv_iload_n S.1 S.2.1 d_MD_addRow_85 rfl (lv_at hl 1 rfl) ?_
    refine lv_iload_n S.1 S.2.1 d_MD_addRow_86 rfl (lv_at hl 2 rfl) ?_
    refine lv_aload_n S.1 S.2.1 d_MD_addRow_87 rfl (lv_at hl 0 rfl) ?_
    refine x_getR (ci := 1) (k := 23) S hK hI (fun w h => List.mem_cons_of_mem _ (i_MD w h)) rfl (by decide) (List.mem_cons_of_mem _ wd_544) rfl d_MD_addRow_88 hf (fun r4 hf => ?_)
    refine lv_bipush (v := 20) S.1 S.2.1 d_MD_addRow_91 (by decide) ?_
    refine lv_iload S.1 S.2.1 d_MD_addRow_93 (lv_at hl 7 rfl) ?_
    refine lv_imul S.1 S.2.1 d_MD_addRow_95 ?_
    obtain ⟨⟨fs8, hefs8⟩, hf⟩ := b_is_inv hf
    obtain ⟨r5, N6, hg7, hf⟩ := b_call_inv hf
    refine x_call hI (hm_mo hg7) (va_runV (As := [.int p0, .int p1, va_rf r4, .int (20 * x9)]) (rest := []) S (c_MD_copyName l hg7) (cwV 4 S.2.2.2.2 (gi_V wd_625 wd_626 wd_627 wd_564 wd_628) rfl rfl rfl (by decide +kernel) ⟨Nat.le_trans (Nat.le_of_ble_eq_true rfl) hRf.1, Nat.le_trans (Nat.le_of_ble_eq_true rfl) hRf.2⟩) ⟨hm_B.blind, va_recv hK (hI.1.one hefs8) (ci := 1) (q0 := 0) rfl rfl, fun U hU hW => ⟨rfl, hm_B.of hK hG hI hU hW⟩⟩ rfl rfl hl.1 rfl (lv_room (Nat.le_of_ble_eq_true rfl)) d_MD_addRow_96 (hx_fit hI hR (hm_mo hg7) (hm_mo hf))) (fun H locs cells slots hI => ?_)
    refine W.eq (g2 := F0 m 99 ls []) rfl ?_
    refine lv_aload_n S.1 S.2.1 d_MD_addRow_99 rfl (lv_at hl 0 rfl) ?_
    refine x_getR (ci := 1) (k := 22) S hK hI (fun w h => List.mem_cons_of_mem _ (i_MD w h)) rfl (by decide) (List.mem_cons_of_mem _ wd_542) rfl d_MD_addRow_100 hf (fun r9 hf => ?_)
    refine lv_iload S.1 S.2.1 d_MD_addRow_103 (lv_at hl 7 rfl) ?_
    refine lv_iload S.1 S.2.1 d_MD_addRow_105 (lv_at hl 4 rfl) ?_
    obtain ⟨a10, ea10, hg⟩ := b_nn_inv hf
    have hI0 := hI
    have hl0 := hl
    clear hf hI hl
    subst ea10
    have hf := hg
    have hI := hI0
    have hl := hl0
    clear hg hI0 hl0
    refine x_iast (t := 2) S hK hI rfl d_MD_addRow_107 hf (fun M H locs hf hI => ?_)
    refine lv_aload_n S.1 S.2.1 d_MD_addRow_108 rfl (lv_at hl 0 rfl) ?_
    refine lv_iload_n S.1 S.2.1 d_MD_addRow_109 rfl (lv_at hl 3 rfl) ?_
    refine lv_iload S.1 S.2.1 d_MD_addRow_110 (lv_at hl 4 rfl) ?_
    refine lv_aload_n S.1 S.2.1 d_MD_addRow_112 rfl (lv_at hl 0 rfl) ?_
    refine x_getR (ci := 1) (k := 24) S hK hI (fun w h => List.mem_cons_of_mem _ (i_MD w h)) rfl (by decide) (List.mem_cons_of_mem _ wd_545) rfl d_MD_addRow_113 hf (fun r11 hf => ?_)
    refine lv_bipush (v := 20) S.1 S.2.1 d_MD_addRow_116 (by decide) ?_
    refine lv_iload S.1 S.2.1 d_MD_addRow_118 (lv_at hl 7 rfl) ?_
    refine lv_imul S.1 S.2.1 d_MD_addRow_120 ?_
    obtain ⟨⟨fs15, hefs15⟩, hf⟩ := b_is_inv hf
    obtain ⟨r12, N13, hg14, hf⟩ := b_call_inv hf
    refine x_call hI (hm_mo hg14) (va_runV (As := [.int p2, .int p3, va_rf r11, .int (20 * x9)]) (rest := []) S (c_MD_copyName l hg14) (cwV 4 S.2.2.2.2 (gi_V wd_625 wd_626 wd_627 wd_564 wd_628) rfl rfl rfl (by decide +kernel) ⟨Nat.le_trans (Nat.le_of_ble_eq_true rfl) hRf.1, Nat.le_trans (Nat.le_of_ble_eq_true rfl) hRf.2⟩) ⟨hm_B.blind, va_recv hK (hI.1.one hefs15) (ci := 1) (q0 := 0) rfl rfl, fun U hU hW => ⟨rfl, hm_B.of hK hG hI hU hW⟩⟩ rfl rfl hl.1 rfl (lv_room (Nat.le_of_ble_eq_true rfl)) d_MD_addRow_121 (hx_fit hI hR (hm_mo hg14) (hm_mo hf))) (fun H locs cells slots hI => ?_)
    refine W.eq (g2 := F0 m 124 ls []) rfl ?_
    refine lv_aload_n S.1 S.2.1 d_MD_addRow_124 rfl (lv_at hl 0 rfl) ?_
    refine x_getR (ci := 1) (k := 25) S hK hI (fun w h => List.mem_cons_of_mem _ (i_MD w h)) rfl (by decide) (List.mem_cons_of_mem _ wd_546) rfl d_MD_addRow_125 hf (fun r16 hf => ?_)
    refine lv_iload S.1 S.2.1 d_MD_addRow_128 (lv_at hl 7 rfl) ?_
    refine lv_lload S.1 S.2.1 d_MD_addRow_130 (lv_at hl 5 rfl) ?_
    obtain ⟨a17, ea17, hg⟩ := b_nn_inv hf
    have hI0 := hI
    have hl0 := hl
    clear hf hI hl
    subst ea17
    have hf := hg
    have hI := hI0
    have hl := hl0
    clear hg hI0 hl0
    refine x_last (t := 7) S hK hI rfl d_MD_addRow_132 hf (fun M H locs hf hI => ?_)
    refine lv_aload_n S.1 S.2.1 d_MD_addRow_133 rfl (lv_at hl 0 rfl) ?_
    refine x_getR (ci := 1) (k := 26) S hK hI (fun w h => List.mem_cons_of_mem _ (i_MD w h)) rfl (by decide) (List.mem_cons_of_mem _ wd_547) rfl d_MD_addRow_134 hf (fun r18 hf => ?_)
    refine lv_iload S.1 S.2.1 d_MD_addRow_137 (lv_at hl 7 rfl) ?_
    refine lv_lload S.1 S.2.1 d_MD_addRow_139 (lv_at hl 6 rfl) ?_
    obtain ⟨a19, ea19, hg⟩ := b_nn_inv hf
    have hI0 := hI
    have hl0 := hl
    clear hf hI hl
    subst ea19
    have hf := hg
    have hI := hI0
    have hl := hl0
    clear hg hI0 hl0
    refine x_last (t := 7) S hK hI rfl d_MD_addRow_141 hf (fun M H locs hf hI => ?_)
    refine lv_aload_n S.1 S.2.1 d_MD_addRow_142 rfl (lv_at hl 0 rfl) ?_
    refine x_getR (ci := 1) (k := 27) S hK hI (fun w h => List.mem_cons_of_mem _ (i_MD w h)) rfl (by decide) (List.mem_cons_of_mem _ wd_548) rfl d_MD_addRow_143 hf (fun r20 hf => ?_)
    refine lv_iload S.1 S.2.1 d_MD_addRow_146 (lv_at hl 7 rfl) ?_
    refine lv_iconst (v := 0) S.1 S.2.1 d_MD_addRow_148 (by decide) ?_
    obtain ⟨a21, ea21, hg⟩ := b_nn_inv hf
    have hI0 := hI
    have hl0 := hl
    clear hf hI hl
    subst ea21
    have hf := hg
    have hI := hI0
    have hl := hl0
    clear hg hI0 hl0
    refine x_zast (t := 5) S hK hI rfl d_MD_addRow_149 hf (fun M H locs hf hI => ?_)
    refine lv_aload_n S.1 S.2.1 d_MD_addRow_150 rfl (lv_at hl 0 rfl) ?_
    refine lv_dup S.1 S.2.1 d_MD_addRow_151 rfl ?_
    refine x_getI (ci := 1) (k := 28) S hK hI (fun w h => List.mem_cons_of_mem _ (i_MD w h)) rfl (by decide) (List.mem_cons_of_mem _ wd_629) rfl d_MD_addRow_152 hf (fun v22 hf => ?_)
    refine lv_iconst (v := 1) S.1 S.2.1 d_MD_addRow_155 (by decide) ?_
    refine lv_iadd S.1 S.2.1 d_MD_addRow_156 ?_
    refine x_put (ci := 1) (k := 28) S hK hI (fun w h => List.mem_cons_of_mem _ (i_MD w h)) t_MD t_MD_ok n_MD rfl (by decide) (List.mem_cons_of_mem _ wd_629) rfl (Or.inl rfl) (by rfl) rfl d_MD_addRow_157 hf (fun M H locs hf hI => ?_)
    refine lv_iconst (v := 1) S.1 S.2.1 d_MD_addRow_160 (by decide) ?_
    exact hret _ _ _ _ _ _ _ _ d_MD_addRow_161 hf hI
  refine lv_aload_n S.1 S.2.1 d_MD_addRow_0 rfl (lv_at hl 0 rfl) ?_
  obtain ⟨⟨fs26, hefs26⟩, hf⟩ := b_is_inv hf
  obtain ⟨v23, N24, hg25, hf⟩ := b_call_inv hf
  refine x_call hI (hm_mo hg25) (va_runV (As := []) (rest := []) S (c_MD_isWrong l hg25) (cwV 0 S.2.2.2.2 (gi_V wd_575 wd_576 wd_577 wd_564 wd_578) rfl rfl rfl (by decide +kernel) ⟨Nat.le_trans (Nat.le_of_ble_eq_true rfl) hRf.1, Nat.le_trans (Nat.le_of_ble_eq_true rfl) hRf.2⟩) ⟨hm_B.blind, va_recv hK (hI.1.one hefs26) (ci := 1) (q0 := 0) rfl rfl, fun U hU hW => ⟨rfl, hm_B.of hK hG hI hU hW⟩⟩ rfl rfl hl.1 rfl (lv_room (Nat.le_of_ble_eq_true rfl)) d_MD_addRow_1 (hx_fit hI hR (hm_mo hg25) (hm_mo hf))) (fun H locs cells slots hI => ?_)
  refine W.eq (g2 := F0 m 4 ls [.int v23]) rfl ?_
  refine lv_if_eq (tgt := 9) S.1 S.2.1 d_MD_addRow_4 (by decide) (fun hc => ?_) (fun hc => ?_)
  · have hf := b_if_t hc hf
    refine lv_aload_n S.1 S.2.1 d_MD_addRow_9 rfl (lv_at hl 0 rfl) ?_
    refine x_getI (ci := 1) (k := 28) S hK hI (fun w h => List.mem_cons_of_mem _ (i_MD w h)) rfl (by decide) (List.mem_cons_of_mem _ wd_629) rfl d_MD_addRow_10 hf (fun v27 hf => ?_)
    refine lv_sipush (v := 200) S.1 S.2.1 d_MD_addRow_13 (by decide) ?_
    refine lv_icmp_ne (tgt := 29) S.1 S.2.1 d_MD_addRow_16 (by decide) (fun hc => ?_) (fun hc => ?_)
    · have hf := b_if_f hc hf
      refine lv_aload_n S.1 S.2.1 d_MD_addRow_29 rfl (lv_at hl 0 rfl) ?_
      obtain ⟨⟨fs31, hefs31⟩, hf⟩ := b_is_inv hf
      obtain ⟨v28, N29, hg30, hf⟩ := b_call_inv hf
      refine x_call hI (hm_mo hg30) (va_runV (As := []) (rest := []) S (c_MD_base l hg30) (cwV 0 S.2.2.2.2 (gi_V wd_630 wd_631 wd_632 wd_564 wd_633) rfl rfl rfl (by decide +kernel) ⟨Nat.le_trans (Nat.le_of_ble_eq_true rfl) hRf.1, Nat.le_trans (Nat.le_of_ble_eq_true rfl) hRf.2⟩) ⟨hm_B.blind, va_recv hK (hI.1.one hefs31) (ci := 1) (q0 := 0) rfl rfl, fun U hU hW => ⟨rfl, hm_B.of hK hG hI hU hW⟩⟩ rfl rfl hl.1 rfl (lv_room (Nat.le_of_ble_eq_true rfl)) d_MD_addRow_30 (hx_fit hI hR (hm_mo hg30) (hm_mo hf))) (fun H locs cells slots hI => ?_)
      refine W.eq (g2 := F0 m 33 ls [.int v28]) rfl ?_
      refine lv_aload_n S.1 S.2.1 d_MD_addRow_33 rfl (lv_at hl 0 rfl) ?_
      refine x_getI (ci := 1) (k := 28) S hK hI (fun w h => List.mem_cons_of_mem _ (i_MD w h)) rfl (by decide) (List.mem_cons_of_mem _ wd_629) rfl d_MD_addRow_34 hf (fun v32 hf => ?_)
      refine lv_iadd S.1 S.2.1 d_MD_addRow_37 ?_
      refine x_istore (lv2 := [(0, .ref h0), (1, .int p0), (2, .int p1), (3, .int p2), (4, .int p3), (5, .long p4), (7, .long p5)]) S d_MD_addRow_38 hl (by decide) [0, 1, 2, 3, 4, 5, 6] rfl ⟨⟨(by decide : (0 : Nat) ≠ 9), fun h => absurd (show (0 : Nat) + 1 = 9 from h) (by decide)⟩, ⟨⟨(by decide : (1 : Nat) ≠ 9), fun h => absurd (show (1 : Nat) + 1 = 9 from h) (by decide)⟩, ⟨⟨(by decide : (2 : Nat) ≠ 9), fun h => absurd (show (2 : Nat) + 1 = 9 from h) (by decide)⟩, ⟨⟨(by decide : (3 : Nat) ≠ 9), fun h => absurd (show (3 : Nat) + 1 = 9 from h) (by decide)⟩, ⟨⟨(by decide : (4 : Nat) ≠ 9), fun h => absurd (show (4 : Nat) + 1 = 9 from h) (by decide)⟩, ⟨⟨(by decide : (5 : Nat) ≠ 9), fun h => absurd (show (5 : Nat) + 1 = 9 from h) (by decide)⟩, ⟨⟨(by decide : (7 : Nat) ≠ 9), fun h => absurd (show (7 : Nat) + 1 = 9 from h) (by decide)⟩, trivial⟩⟩⟩⟩⟩⟩⟩ (fun ls hl => ?_)
      refine lv_aload_n S.1 S.2.1 d_MD_addRow_40 rfl (lv_at hl 1 rfl) ?_
      refine x_getR (ci := 1) (k := 19) S hK hI (fun w h => List.mem_cons_of_mem _ (i_MD w h)) rfl (by decide) (List.mem_cons_of_mem _ wd_539) rfl d_MD_addRow_41 hf (fun r33 hf => ?_)
      refine lv_iload S.1 S.2.1 d_MD_addRow_44 (lv_at hl 0 rfl) ?_
      refine lv_aload_n S.1 S.2.1 d_MD_addRow_46 rfl (lv_at hl 1 rfl) ?_
      refine x_getI (ci := 1) (k := 31) S hK hI (fun w h => List.mem_cons_of_mem _ (i_MD w h)) rfl (by decide) (List.mem_cons_of_mem _ wd_634) rfl d_MD_addRow_47 hf (fun v34 hf => ?_)
      refine lv_i2b S.1 S.2.1 d_MD_addRow_50 rfl ?_
      obtain ⟨a35, ea35, hg⟩ := b_nn_inv hf
      have hI0 := hI
      have hl0 := hl
      clear hf hI hl
      subst ea35
      have hf := hg
      have hI := hI0
      have hl := hl0
      clear hg hI0 hl0
      refine x_bast (t := 6) S hK hI rfl d_MD_addRow_51 hf (fun M H locs hf hI => ?_)
      refine lv_aload_n S.1 S.2.1 d_MD_addRow_52 rfl (lv_at hl 1 rfl) ?_
      refine x_getR (ci := 1) (k := 20) S hK hI (fun w h => List.mem_cons_of_mem _ (i_MD w h)) rfl (by decide) (List.mem_cons_of_mem _ wd_540) rfl d_MD_addRow_53 hf (fun r36 hf => ?_)
      refine lv_iload S.1 S.2.1 d_MD_addRow_56 (lv_at hl 0 rfl) ?_
      refine lv_aload_n S.1 S.2.1 d_MD_addRow_58 rfl (lv_at hl 1 rfl) ?_
      refine x_getI (ci := 1) (k := 31) S hK hI (fun w h => List.mem_cons_of_mem _ (i_MD w h)) rfl (by decide) (List.mem_cons_of_mem _ wd_634) rfl d_MD_addRow_59 hf (fun v37 hf => ?_)
      refine lv_bipush (v := 8) S.1 S.2.1 d_MD_addRow_62 (by decide) ?_
      refine lv_icmp_ne (tgt := 74) S.1 S.2.1 d_MD_addRow_64 (by decide) (fun hc => ?_) (fun hc => ?_)
      · have hf := b_if_f hc hf
        refine lv_iconst (v := (-1)) S.1 S.2.1 d_MD_addRow_74 (by decide) ?_
        exact w75 (v28 + v32) (-1) (v28 + v32) r36 _ _ _ _ _ _ hf hI (lv_sub hl [1, 2, 3, 4, 5, 6, 7, 0] rfl)
      · have hf := b_if_t hc hf
        refine lv_aload_n S.1 S.2.1 d_MD_addRow_67 rfl (lv_at hl 1 rfl) ?_
        refine x_getI (ci := 1) (k := 29) S hK hI (fun w h => List.mem_cons_of_mem _ (i_MD w h)) rfl (by decide) (List.mem_cons_of_mem _ wd_635) rfl d_MD_addRow_68 hf (fun v38 hf => ?_)
        refine lv_goto (tgt := 75) S.1 S.2.1 d_MD_addRow_71 (by decide) ?_
        exact w75 (v28 + v32) v38 (v28 + v32) r36 _ _ _ _ _ _ hf hI (lv_sub hl [1, 2, 3, 4, 5, 6, 7, 0] rfl)
    · have hf := b_if_t hc hf
      refine lv_aload_n S.1 S.2.1 d_MD_addRow_19 rfl (lv_at hl 0 rfl) ?_
      refine lv_aload_n S.1 S.2.1 d_MD_addRow_20 rfl (lv_at hl 0 rfl) ?_
      refine x_getI (ci := 1) (k := 30) S hK hI (fun w h => List.mem_cons_of_mem _ (i_MD w h)) rfl (by decide) (List.mem_cons_of_mem _ wd_636) rfl d_MD_addRow_21 hf (fun v39 hf => ?_)
      obtain ⟨⟨fs43, hefs43⟩, hf⟩ := b_is_inv hf
      obtain ⟨r40, N41, hg42, hf⟩ := b_call_inv hf
      refine x_call hI (hm_mo hg42) (va_runV (As := [.int v39]) (rest := []) S (c_MD_fail l hg42) (cwV 1 S.2.2.2.2 (gi_V wd_579 wd_580 wd_581 wd_564 wd_582) rfl rfl rfl (by decide +kernel) ⟨Nat.le_trans (Nat.le_of_ble_eq_true rfl) hRf.1, Nat.le_trans (Nat.le_of_ble_eq_true rfl) hRf.2⟩) ⟨hm_B.blind, va_recv hK (hI.1.one hefs43) (ci := 1) (q0 := 0) rfl rfl, fun U hU hW => ⟨rfl, hm_B.of hK hG hI hU hW⟩⟩ rfl rfl hl.1 rfl (lv_room (Nat.le_of_ble_eq_true rfl)) d_MD_addRow_24 (hx_fit hI hR (hm_mo hg42) (hm_mo hf))) (fun H locs cells slots hI => ?_)
      refine W.eq (g2 := F0 m 27 ls []) rfl ?_
      refine lv_iconst (v := 0) S.1 S.2.1 d_MD_addRow_27 (by decide) ?_
      exact hret _ _ _ _ _ _ _ _ d_MD_addRow_28 hf hI
  · have hf := b_if_f hc hf
    refine lv_iconst (v := 0) S.1 S.2.1 d_MD_addRow_7 (by decide) ?_
    exact hret _ _ _ _ _ _ _ _ d_MD_addRow_8 hf hI
set_option maxHeartbeats 4000000 in
set_option maxRecDepth 100000 in
theorem c_MD_takeName (l : Launch) {D : va_G} {dA : Nat → ClassId} {aK aV : Nat → Nat} {z : Nat} {N : Nat} {h0 : Nat} {M : hM} {Z : Int32 × hM} (hf : (f_MD_takeName N h0 ).1 M = some Z) : Met l y_MD_takeName w_MD_takeName ({ frames := 2, cells := Z.2.2.1 - M.2.1, slots := Z.2.2.2 - M.2.2, locals := 42 }) (va_Pc [.ref h0] (hm_B D dA hCl (hTy dA) sT aK aV z M)) (hm_Q D dA hCl (hTy dA) sT aK aV z (some (.int Z.1)) Z.2) (Z.2.2.1 - M.2.1) (Z.2.2.2 - M.2.2) (fun q => z ≤ q) := by
  refine Met.ofW (cc := b_MD_takeName) (maxL := 2) (ret := (some .int)) (by decide) rfl ?_
  intro p e s m args below meth c s₁ B hml hv
  obtain ⟨hav, hB⟩ := hv
  have S : CallFix p m c b_MD_takeName 2 s args w_MD_takeName R_MD := ⟨B.exec, B.bytes, hml, findClass_of_methodNamed B.named, atoms_spec (ws := w_MD_takeName) B.pre⟩
  have hr : meth.sig.returnType = (some .int) := B.returns
  have hlocks := B.notSynchronized
  have hK := hB.2.2.1
  have hG := hB.2.2.2.2.2
  have hI := hm_I.start hB
  rw [← hB.2.1]
  generalize M.2.2 = k1 at hI ⊢
  refine W.eq (g2 := F0 m 0 ((lg_sl ([.ref h0]) ++ List.replicate (2 - (lg_sl ([.ref h0])).length) Slot.unset).toArray) []) (by rw [hav]; exact lg_entry_eq m ([.ref h0]) 2) ?_
  have hl := lv_entry ([.ref h0]) (n := 2) (Nat.le_of_ble_eq_true rfl)
  generalize (lg_sl ([.ref h0]) ++ List.replicate (2 - (lg_sl ([.ref h0])).length) Slot.unset).toArray = ls at hl ⊢
  simp only [lvA_nil, lvA_i, lvA_l, lvA_a, lvA_r, Nat.zero_add, Nat.reduceAdd] at hl
  have hret : ∀ (v : Int32) (M : hM) (H : Heap) (locs : List Loc) (cells slots : Nat) (ls : Array Slot) (pc : Nat), decode b_MD_takeName pc = .ok (.ireturn, 1) → (b_ret v).1 M = some Z → hm_I D dA hCl z k1 s M H locs cells slots → W p l e (headSpec w_MD_takeName { frames := 2, cells := Z.2.2.1 - s.heap.size, slots := Z.2.2.2 - k1, locals := 42 }).room s m args below meth c H locs cells slots (MQ below (hm_Q D dA hCl (hTy dA) sT aK aV z (some (.int Z.1)) Z.2) args s (Z.2.2.1 - s.heap.size) (Z.2.2.2 - k1) (fun q => z ≤ q)) (F0 m pc ls [.int v]) := fun v M H locs cells slots ls pc hdg hf hI => x_reti S hK hG hI hr hlocks hdg hf
  have hR : Z.2.2.1 - s.heap.size ≤ (headSpec w_MD_takeName { frames := 2, cells := Z.2.2.1 - s.heap.size, slots := Z.2.2.2 - k1, locals := 42 }).room.cells ∧ Z.2.2.2 - k1 ≤ (headSpec w_MD_takeName { frames := 2, cells := Z.2.2.1 - s.heap.size, slots := Z.2.2.2 - k1, locals := 42 }).room.slots := ⟨Nat.le_refl _, Nat.le_refl _⟩
  have hRf : 2 ≤ (headSpec w_MD_takeName { frames := 2, cells := Z.2.2.1 - s.heap.size, slots := Z.2.2.2 - k1, locals := 42 }).room.frames ∧ 42 ≤ (headSpec w_MD_takeName { frames := 2, cells := Z.2.2.1 - s.heap.size, slots := Z.2.2.2 - k1, locals := 42 }).room.locals := ⟨Nat.le_refl _, Nat.le_refl _⟩
  generalize (headSpec w_MD_takeName { frames := 2, cells := Z.2.2.1 - s.heap.size, slots := Z.2.2.2 - k1, locals := 42 }).room = R at hret hR hRf ⊢
  generalize (MQ below (hm_Q D dA hCl (hTy dA) sT aK aV z (some (.int Z.1)) Z.2) args s (Z.2.2.1 - s.heap.size) (Z.2.2.2 - k1) (fun q => z ≤ q)) = Q at hret ⊢
  rw [e_MD_takeName] at hf
  refine lv_aload_n S.1 S.2.1 d_MD_takeName_0 rfl (lv_at hl 0 rfl) ?_
  refine x_getI (ci := 1) (k := 3) S hK hI (fun w h => List.mem_cons_of_mem _ (i_MD w h)) rfl (by decide) (List.mem_cons_of_mem _ wd_560) rfl d_MD_takeName_1 hf (fun v1 hf => ?_)
  refine x_istore_n (lv2 := [(0, .ref h0)]) S d_MD_takeName_4 rfl hl (by decide) [0] rfl ⟨⟨(by decide : (0 : Nat) ≠ 1), fun _ => rfl⟩, trivial⟩ (fun ls hl => ?_)
  refine lv_aload_n S.1 S.2.1 d_MD_takeName_5 rfl (lv_at hl 1 rfl) ?_
  refine lv_aload_n S.1 S.2.1 d_MD_takeName_6 rfl (lv_at hl 1 rfl) ?_
  refine x_getI (ci := 1) (k := 4) S hK hI (fun w h => List.mem_cons_of_mem _ (i_MD w h)) rfl (by decide) (List.mem_cons_of_mem _ wd_561) rfl d_MD_takeName_7 hf (fun v2 hf => ?_)
  refine lv_aload_n S.1 S.2.1 d_MD_takeName_10 rfl (lv_at hl 1 rfl) ?_
  refine x_getI (ci := 1) (k := 3) S hK hI (fun w h => List.mem_cons_of_mem _ (i_MD w h)) rfl (by decide) (List.mem_cons_of_mem _ wd_560) rfl d_MD_takeName_11 hf (fun v3 hf => ?_)
  refine lv_isub S.1 S.2.1 d_MD_takeName_14 ?_
  refine x_put (ci := 1) (k := 45) S hK hI (fun w h => List.mem_cons_of_mem _ (i_MD w h)) t_MD t_MD_ok n_MD rfl (by decide) (List.mem_cons_of_mem _ wd_637) rfl (Or.inl rfl) (by rfl) rfl d_MD_takeName_15 hf (fun M H locs hf hI => ?_)
  refine lv_aload_n S.1 S.2.1 d_MD_takeName_18 rfl (lv_at hl 1 rfl) ?_
  obtain ⟨⟨fs7, hefs7⟩, hf⟩ := b_is_inv hf
  obtain ⟨v4, N5, hg6, hf⟩ := b_call_inv hf
  refine x_call hI (hm_mo hg6) (va_runV (As := []) (rest := []) S (c_MD_isWrong l hg6) (cwV 0 S.2.2.2.2 (gi_V wd_575 wd_576 wd_577 wd_564 wd_578) rfl rfl rfl (by decide +kernel) ⟨Nat.le_trans (Nat.le_of_ble_eq_true rfl) hRf.1, Nat.le_trans (Nat.le_of_ble_eq_true rfl) hRf.2⟩) ⟨hm_B.blind, va_recv hK (hI.1.one hefs7) (ci := 1) (q0 := 0) rfl rfl, fun U hU hW => ⟨rfl, hm_B.of hK hG hI hU hW⟩⟩ rfl rfl hl.1 rfl (lv_room (Nat.le_of_ble_eq_true rfl)) d_MD_takeName_19 (hx_fit hI hR (hm_mo hg6) (hm_mo hf))) (fun H locs cells slots hI => ?_)
  refine W.eq (g2 := F0 m 22 ls [.int v4]) rfl ?_
  refine lv_if_eq (tgt := 27) S.1 S.2.1 d_MD_takeName_22 (by decide) (fun hc => ?_) (fun hc => ?_)
  · have hf := b_if_t hc hf
    refine lv_aload_n S.1 S.2.1 d_MD_takeName_27 rfl (lv_at hl 1 rfl) ?_
    obtain ⟨⟨fs11, hefs11⟩, hf⟩ := b_is_inv hf
    obtain ⟨v8, N9, hg10, hf⟩ := b_call_inv hf
    refine x_call hI (hm_mo hg10) (va_runV (As := []) (rest := []) S (c_MD_isName l hg10) (cwV 0 S.2.2.2.2 (gi_V wd_638 wd_639 wd_640 wd_564 wd_641) rfl rfl rfl (by decide +kernel) ⟨Nat.le_trans (Nat.le_of_ble_eq_true rfl) hRf.1, Nat.le_trans (Nat.le_of_ble_eq_true rfl) hRf.2⟩) ⟨hm_B.blind, va_recv hK (hI.1.one hefs11) (ci := 1) (q0 := 0) rfl rfl, fun U hU hW => ⟨rfl, hm_B.of hK hG hI hU hW⟩⟩ rfl rfl hl.1 rfl (lv_room (Nat.le_of_ble_eq_true rfl)) d_MD_takeName_28 (hx_fit hI hR (hm_mo hg10) (hm_mo hf))) (fun H locs cells slots hI => ?_)
    refine W.eq (g2 := F0 m 31 ls [.int v8]) rfl ?_
    refine lv_if_eq (tgt := 41) S.1 S.2.1 d_MD_takeName_31 (by decide) (fun hc => ?_) (fun hc => ?_)
    · have hf := b_if_t hc hf
      refine lv_aload_n S.1 S.2.1 d_MD_takeName_41 rfl (lv_at hl 1 rfl) ?_
      refine lv_aload_n S.1 S.2.1 d_MD_takeName_42 rfl (lv_at hl 1 rfl) ?_
      refine x_getI (ci := 1) (k := 3) S hK hI (fun w h => List.mem_cons_of_mem _ (i_MD w h)) rfl (by decide) (List.mem_cons_of_mem _ wd_560) rfl d_MD_takeName_43 hf (fun v12 hf => ?_)
      obtain ⟨⟨fs16, hefs16⟩, hf⟩ := b_is_inv hf
      obtain ⟨r13, N14, hg15, hf⟩ := b_call_inv hf
      refine x_call hI (hm_mo hg15) (va_runV (As := [.int v12]) (rest := []) S (c_MD_fail l hg15) (cwV 1 S.2.2.2.2 (gi_V wd_579 wd_580 wd_581 wd_564 wd_582) rfl rfl rfl (by decide +kernel) ⟨Nat.le_trans (Nat.le_of_ble_eq_true rfl) hRf.1, Nat.le_trans (Nat.le_of_ble_eq_true rfl) hRf.2⟩) ⟨hm_B.blind, va_recv hK (hI.1.one hefs16) (ci := 1) (q0 := 0) rfl rfl, fun U hU hW => ⟨rfl, hm_B.of hK hG hI hU hW⟩⟩ rfl rfl hl.1 rfl (lv_room (Nat.le_of_ble_eq_true rfl)) d_MD_takeName_46 (hx_fit hI hR (hm_mo hg15) (hm_mo hf))) (fun H locs cells slots hI => ?_)
      refine W.eq (g2 := F0 m 49 ls []) rfl ?_
      refine lv_iload_n S.1 S.2.1 d_MD_takeName_49 rfl (lv_at hl 0 rfl) ?_
      exact hret _ _ _ _ _ _ _ _ d_MD_takeName_50 hf hI
    · have hf := b_if_f hc hf
      refine lv_aload_n S.1 S.2.1 d_MD_takeName_34 rfl (lv_at hl 1 rfl) ?_
      obtain ⟨⟨fs20, hefs20⟩, hf⟩ := b_is_inv hf
      obtain ⟨r17, N18, hg19, hf⟩ := b_call_inv hf
      refine x_call hI (hm_mo hg19) (va_runV (As := []) (rest := []) S (c_MD_next l hg19) (cwV 0 S.2.2.2.2 (gi_V wd_583 wd_584 wd_585 wd_564 wd_586) rfl rfl rfl (by decide +kernel) ⟨Nat.le_trans (Nat.le_of_ble_eq_true rfl) hRf.1, Nat.le_trans (Nat.le_of_ble_eq_true rfl) hRf.2⟩) ⟨hm_B.blind, va_recv hK (hI.1.one hefs20) (ci := 1) (q0 := 0) rfl rfl, fun U hU hW => ⟨rfl, hm_B.of hK hG hI hU hW⟩⟩ rfl rfl hl.1 rfl (lv_room (Nat.le_of_ble_eq_true rfl)) d_MD_takeName_35 (hx_fit hI hR (hm_mo hg19) (hm_mo hf))) (fun H locs cells slots hI => ?_)
      refine W.eq (g2 := F0 m 38 ls []) rfl ?_
      refine lv_goto (tgt := 49) S.1 S.2.1 d_MD_takeName_38 (by decide) ?_
      refine lv_iload_n S.1 S.2.1 d_MD_takeName_49 rfl (lv_at hl 0 rfl) ?_
      exact hret _ _ _ _ _ _ _ _ d_MD_takeName_50 hf hI
  · have hf := b_if_f hc hf
    refine lv_iload_n S.1 S.2.1 d_MD_takeName_25 rfl (lv_at hl 0 rfl) ?_
    exact hret _ _ _ _ _ _ _ _ d_MD_takeName_26 hf hI
set_option maxHeartbeats 4000000 in
set_option maxRecDepth 100000 in
theorem c_MD_readRanged (l : Launch) {D : va_G} {dA : Nat → ClassId} {aK aV : Nat → Nat} {z : Nat} {N : Nat} {h0 : Nat} {M : hM} {Z : Unit × hM} (hf : (f_MD_readRanged N h0 ).1 M = some Z) : Met l y_MD_readRanged w_MD_readRanged ({ frames := 6, cells := Z.2.2.1 - M.2.1, slots := Z.2.2.2 - M.2.2, locals := 131 }) (va_Pc [.ref h0] (hm_B D dA hCl (hTy dA) sT aK aV z M)) (hm_Q D dA hCl (hTy dA) sT aK aV z none Z.2) (Z.2.2.1 - M.2.1) (Z.2.2.2 - M.2.2) (fun q => z ≤ q) := by
  refine Met.ofW (cc := b_MD_readRanged) (maxL := 3) (ret := none) (by decide) rfl ?_
  intro p e s m args below meth c s₁ B hml hv
  obtain ⟨hav, hB⟩ := hv
  have S : CallFix p m c b_MD_readRanged 3 s args w_MD_readRanged R_MD := ⟨B.exec, B.bytes, hml, findClass_of_methodNamed B.named, atoms_spec (ws := w_MD_readRanged) B.pre⟩
  have hr : meth.sig.returnType = none := B.returns
  have hlocks := B.notSynchronized
  have hK := hB.2.2.1
  have hG := hB.2.2.2.2.2
  have hI := hm_I.start hB
  rw [← hB.2.1]
  generalize M.2.2 = k1 at hI ⊢
  refine W.eq (g2 := F0 m 0 ((lg_sl ([.ref h0]) ++ List.replicate (3 - (lg_sl ([.ref h0])).length) Slot.unset).toArray) []) (by rw [hav]; exact lg_entry_eq m ([.ref h0]) 3) ?_
  have hl := lv_entry ([.ref h0]) (n := 3) (Nat.le_of_ble_eq_true rfl)
  generalize (lg_sl ([.ref h0]) ++ List.replicate (3 - (lg_sl ([.ref h0])).length) Slot.unset).toArray = ls at hl ⊢
  simp only [lvA_nil, lvA_i, lvA_l, lvA_a, lvA_r, Nat.zero_add, Nat.reduceAdd] at hl
  have hret : ∀ (M : hM) (H : Heap) (locs : List Loc) (cells slots : Nat) (ls : Array Slot) (pc : Nat), decode b_MD_readRanged pc = .ok (.return_, 1) → (b_ret ()).1 M = some Z → hm_I D dA hCl z k1 s M H locs cells slots → W p l e (headSpec w_MD_readRanged { frames := 6, cells := Z.2.2.1 - s.heap.size, slots := Z.2.2.2 - k1, locals := 131 }).room s m args below meth c H locs cells slots (MQ below (hm_Q D dA hCl (hTy dA) sT aK aV z none Z.2) args s (Z.2.2.1 - s.heap.size) (Z.2.2.2 - k1) (fun q => z ≤ q)) (F0 m pc ls []) := fun M H locs cells slots ls pc hdg hf hI => x_retv S hK hG hI hr hlocks hdg hf
  have hR : Z.2.2.1 - s.heap.size ≤ (headSpec w_MD_readRanged { frames := 6, cells := Z.2.2.1 - s.heap.size, slots := Z.2.2.2 - k1, locals := 131 }).room.cells ∧ Z.2.2.2 - k1 ≤ (headSpec w_MD_readRanged { frames := 6, cells := Z.2.2.1 - s.heap.size, slots := Z.2.2.2 - k1, locals := 131 }).room.slots := ⟨Nat.le_refl _, Nat.le_refl _⟩
  have hRf : 6 ≤ (headSpec w_MD_readRanged { frames := 6, cells := Z.2.2.1 - s.heap.size, slots := Z.2.2.2 - k1, locals := 131 }).room.frames ∧ 131 ≤ (headSpec w_MD_readRanged { frames := 6, cells := Z.2.2.1 - s.heap.size, slots := Z.2.2.2 - k1, locals := 131 }).room.locals := ⟨Nat.le_refl _, Nat.le_refl _⟩
  generalize (headSpec w_MD_readRanged { frames := 6, cells := Z.2.2.1 - s.heap.size, slots := Z.2.2.2 - k1, locals := 131 }).room = R at hret hR hRf ⊢
  generalize (MQ below (hm_Q D dA hCl (hTy dA) sT aK aV z none Z.2) args s (Z.2.2.1 - s.heap.size) (Z.2.2.2 - k1) (fun q => z ≤ q)) = Q at hret ⊢
  rw [e_MD_readRanged] at hf
  refine lv_aload_n S.1 S.2.1 d_MD_readRanged_0 rfl (lv_at hl 0 rfl) ?_
  obtain ⟨⟨fs4, hefs4⟩, hf⟩ := b_is_inv hf
  obtain ⟨v1, N2, hg3, hf⟩ := b_call_inv hf
  refine x_call hI (hm_mo hg3) (va_runV (As := []) (rest := []) S (c_MD_takeName l hg3) (cwV 0 S.2.2.2.2 (gi_V wd_642 wd_643 wd_644 wd_564 wd_645) rfl rfl rfl (by decide +kernel) ⟨Nat.le_trans (Nat.le_of_ble_eq_true rfl) hRf.1, Nat.le_trans (Nat.le_of_ble_eq_true rfl) hRf.2⟩) ⟨hm_B.blind, va_recv hK (hI.1.one hefs4) (ci := 1) (q0 := 0) rfl rfl, fun U hU hW => ⟨rfl, hm_B.of hK hG hI hU hW⟩⟩ rfl rfl hl.1 rfl (lv_room (Nat.le_of_ble_eq_true rfl)) d_MD_readRanged_1 (hx_fit hI hR (hm_mo hg3) (hm_mo hf))) (fun H locs cells slots hI => ?_)
  refine W.eq (g2 := F0 m 4 ls [.int v1]) rfl ?_
  refine x_istore_n (lv2 := [(0, .ref h0)]) S d_MD_readRanged_4 rfl hl (by decide) [0] rfl ⟨⟨(by decide : (0 : Nat) ≠ 1), fun _ => rfl⟩, trivial⟩ (fun ls hl => ?_)
  refine lv_aload_n S.1 S.2.1 d_MD_readRanged_5 rfl (lv_at hl 1 rfl) ?_
  refine x_getI (ci := 1) (k := 45) S hK hI (fun w h => List.mem_cons_of_mem _ (i_MD w h)) rfl (by decide) (List.mem_cons_of_mem _ wd_637) rfl d_MD_readRanged_6 hf (fun v5 hf => ?_)
  refine x_istore_n (lv2 := [(1, .int v1), (0, .ref h0)]) S d_MD_readRanged_9 rfl hl (by decide) [0, 1] rfl ⟨⟨(by decide : (1 : Nat) ≠ 2), fun _ => rfl⟩, ⟨⟨(by decide : (0 : Nat) ≠ 2), fun h => absurd (show (0 : Nat) + 1 = 2 from h) (by decide)⟩, trivial⟩⟩ (fun ls hl => ?_)
  refine lv_aload_n S.1 S.2.1 d_MD_readRanged_10 rfl (lv_at hl 2 rfl) ?_
  obtain ⟨⟨fs9, hefs9⟩, hf⟩ := b_is_inv hf
  obtain ⟨r6, N7, hg8, hf⟩ := b_call_inv hf
  refine x_call hI (hm_mo hg8) (va_runV (As := []) (rest := []) S (c_MD_readRange l hg8) (cwV 0 S.2.2.2.2 (gi_V wd_646 wd_647 wd_648 wd_564 wd_649) rfl rfl rfl (by decide +kernel) ⟨Nat.le_trans (Nat.le_of_ble_eq_true rfl) hRf.1, Nat.le_trans (Nat.le_of_ble_eq_true rfl) hRf.2⟩) ⟨hm_B.blind, va_recv hK (hI.1.one hefs9) (ci := 1) (q0 := 0) rfl rfl, fun U hU hW => ⟨rfl, hm_B.of hK hG hI hU hW⟩⟩ rfl rfl hl.1 rfl (lv_room (Nat.le_of_ble_eq_true rfl)) d_MD_readRanged_11 (hx_fit hI hR (hm_mo hg8) (hm_mo hf))) (fun H locs cells slots hI => ?_)
  refine W.eq (g2 := F0 m 14 ls []) rfl ?_
  refine lv_aload_n S.1 S.2.1 d_MD_readRanged_14 rfl (lv_at hl 2 rfl) ?_
  refine lv_iload_n S.1 S.2.1 d_MD_readRanged_15 rfl (lv_at hl 1 rfl) ?_
  refine lv_iload_n S.1 S.2.1 d_MD_readRanged_16 rfl (lv_at hl 0 rfl) ?_
  refine lv_iconst (v := 0) S.1 S.2.1 d_MD_readRanged_17 (by decide) ?_
  refine lv_iconst (v := 0) S.1 S.2.1 d_MD_readRanged_18 (by decide) ?_
  refine lv_aload_n S.1 S.2.1 d_MD_readRanged_19 rfl (lv_at hl 2 rfl) ?_
  refine x_getL (ci := 1) (k := 32) S hK hI (fun w h => List.mem_cons_of_mem _ (i_MD w h)) rfl (by decide) (List.mem_cons_of_mem _ wd_603) rfl d_MD_readRanged_20 hf (fun v10 hf => ?_)
  refine lv_aload_n S.1 S.2.1 d_MD_readRanged_23 rfl (lv_at hl 2 rfl) ?_
  refine x_getL (ci := 1) (k := 33) S hK hI (fun w h => List.mem_cons_of_mem _ (i_MD w h)) rfl (by decide) (List.mem_cons_of_mem _ wd_602) rfl d_MD_readRanged_24 hf (fun v11 hf => ?_)
  obtain ⟨⟨fs15, hefs15⟩, hf⟩ := b_is_inv hf
  obtain ⟨v12, N13, hg14, hf⟩ := b_call_inv hf
  refine x_call hI (hm_mo hg14) (va_runV (As := [.int v1, .int v5, .int 0, .int 0, .long v10, .long v11]) (rest := []) S (c_MD_addRow l hg14) (cwV 6 S.2.2.2.2 (gi_V wd_650 wd_651 wd_652 wd_564 wd_653) rfl rfl rfl (by decide +kernel) ⟨Nat.le_trans (Nat.le_of_ble_eq_true rfl) hRf.1, Nat.le_trans (Nat.le_of_ble_eq_true rfl) hRf.2⟩) ⟨hm_B.blind, va_recv hK (hI.1.one hefs15) (ci := 1) (q0 := 0) rfl rfl, fun U hU hW => ⟨rfl, hm_B.of hK hG hI hU hW⟩⟩ rfl rfl hl.1 rfl (lv_room (Nat.le_of_ble_eq_true rfl)) d_MD_readRanged_27 (hx_fit hI hR (hm_mo hg14) (hm_mo hf))) (fun H locs cells slots hI => ?_)
  refine W.eq (g2 := F0 m 30 ls [.int v12]) rfl ?_
  refine lv_pop S.1 S.2.1 d_MD_readRanged_30 rfl ?_
  exact hret _ _ _ _ _ _ _ d_MD_readRanged_31 hf hI
set_option maxHeartbeats 4000000 in
set_option maxRecDepth 100000 in
theorem c_MD_readNeed (l : Launch) {D : va_G} {dA : Nat → ClassId} {aK aV : Nat → Nat} {z : Nat} {N : Nat} {h0 : Nat} {M : hM} {Z : Unit × hM} (hf : (f_MD_readNeed N h0 ).1 M = some Z) : Met l y_MD_readNeed w_MD_readNeed ({ frames := 7, cells := Z.2.2.1 - M.2.1, slots := Z.2.2.2 - M.2.2, locals := 153 }) (va_Pc [.ref h0] (hm_B D dA hCl (hTy dA) sT aK aV z M)) (hm_Q D dA hCl (hTy dA) sT aK aV z none Z.2) (Z.2.2.1 - M.2.1) (Z.2.2.2 - M.2.2) (fun q => z ≤ q) := by
  refine Met.ofW (cc := b_MD_readNeed) (maxL := 4) (ret := none) (by decide) rfl ?_
  intro p e s m args below meth c s₁ B hml hv
  obtain ⟨hav, hB⟩ := hv
  have S : CallFix p m c b_MD_readNeed 4 s args w_MD_readNeed R_MD := ⟨B.exec, B.bytes, hml, findClass_of_methodNamed B.named, atoms_spec (ws := w_MD_readNeed) B.pre⟩
  have hr : meth.sig.returnType = none := B.returns
  have hlocks := B.notSynchronized
  have hK := hB.2.2.1
  have hG := hB.2.2.2.2.2
  have hI := hm_I.start hB
  rw [← hB.2.1]
  generalize M.2.2 = k1 at hI ⊢
  refine W.eq (g2 := F0 m 0 ((lg_sl ([.ref h0]) ++ List.replicate (4 - (lg_sl ([.ref h0])).length) Slot.unset).toArray) []) (by rw [hav]; exact lg_entry_eq m ([.ref h0]) 4) ?_
  have hl := lv_entry ([.ref h0]) (n := 4) (Nat.le_of_ble_eq_true rfl)
  generalize (lg_sl ([.ref h0]) ++ List.replicate (4 - (lg_sl ([.ref h0])).length) Slot.unset).toArray = ls at hl ⊢
  simp only [lvA_nil, lvA_i, lvA_l, lvA_a, lvA_r, Nat.zero_add, Nat.reduceAdd] at hl
  have hret : ∀ (M : hM) (H : Heap) (locs : List Loc) (cells slots : Nat) (ls : Array Slot) (pc : Nat), decode b_MD_readNeed pc = .ok (.return_, 1) → (b_ret ()).1 M = some Z → hm_I D dA hCl z k1 s M H locs cells slots → W p l e (headSpec w_MD_readNeed { frames := 7, cells := Z.2.2.1 - s.heap.size, slots := Z.2.2.2 - k1, locals := 153 }).room s m args below meth c H locs cells slots (MQ below (hm_Q D dA hCl (hTy dA) sT aK aV z none Z.2) args s (Z.2.2.1 - s.heap.size) (Z.2.2.2 - k1) (fun q => z ≤ q)) (F0 m pc ls []) := fun M H locs cells slots ls pc hdg hf hI => x_retv S hK hG hI hr hlocks hdg hf
  have hR : Z.2.2.1 - s.heap.size ≤ (headSpec w_MD_readNeed { frames := 7, cells := Z.2.2.1 - s.heap.size, slots := Z.2.2.2 - k1, locals := 153 }).room.cells ∧ Z.2.2.2 - k1 ≤ (headSpec w_MD_readNeed { frames := 7, cells := Z.2.2.1 - s.heap.size, slots := Z.2.2.2 - k1, locals := 153 }).room.slots := ⟨Nat.le_refl _, Nat.le_refl _⟩
  have hRf : 7 ≤ (headSpec w_MD_readNeed { frames := 7, cells := Z.2.2.1 - s.heap.size, slots := Z.2.2.2 - k1, locals := 153 }).room.frames ∧ 153 ≤ (headSpec w_MD_readNeed { frames := 7, cells := Z.2.2.1 - s.heap.size, slots := Z.2.2.2 - k1, locals := 153 }).room.locals := ⟨Nat.le_refl _, Nat.le_refl _⟩
  generalize (headSpec w_MD_readNeed { frames := 7, cells := Z.2.2.1 - s.heap.size, slots := Z.2.2.2 - k1, locals := 153 }).room = R at hret hR hRf ⊢
  generalize (MQ below (hm_Q D dA hCl (hTy dA) sT aK aV z none Z.2) args s (Z.2.2.1 - s.heap.size) (Z.2.2.2 - k1) (fun q => z ≤ q)) = Q at hret ⊢
  rw [e_MD_readNeed] at hf
  have w7 : ∀ (n : Nat) (x1 : Int32) (x2 : Int64) (M : hM) (H : Heap) (locs : List Loc) (ls : Array Slot) (cells slots : Nat), (f_MD_readNeed_7 N h0  n x1 x2).1 M = some Z → hm_I D dA hCl z k1 s M H locs cells slots → lv_has ls 4 [(0, .ref h0), (1, .int x1), (2, .long x2)] → W p l e R s m args below meth c H locs cells slots Q (F0 m 7 ls []) := by
    intro n
    induction n with
    | zero => intro x1 x2 M H locs ls cells slots hf hI hl; cases hf
    | succ n7 ih7 =>
      intro x1 x2 M H locs ls cells slots hf hI hl
      rw [e_MD_readNeed_7] at hf
      obtain ⟨J29, eJ29, hf⟩ := b_let_inv hf
      have w29 : ∀ (x1 : Int32) (M : hM) (H : Heap) (locs : List Loc) (ls : Array Slot) (cells slots : Nat), (J29 x1).1 M = some Z → hm_I D dA hCl z k1 s M H locs cells slots → lv_has ls 4 [(0, .ref h0), (1, .int x1)] → W p l e R s m args below meth c H locs cells slots Q (F0 m 29 ls []) := by
        intro x1 M H locs ls cells slots hf hI hl
        rw [eJ29] at hf
        refine lv_iload_n S.1 S.2.1 d_MD_readNeed_29 rfl (lv_at hl 1 rfl) ?_
        refine lv_iconst (v := 5) S.1 S.2.1 d_MD_readNeed_30 (by decide) ?_
        refine lv_icmp_ne (tgt := 43) S.1 S.2.1 d_MD_readNeed_31 (by decide) (fun hc => ?_) (fun hc => ?_)
        · have hf := b_if_f hc hf
          refine lv_aload_n S.1 S.2.1 d_MD_readNeed_43 rfl (lv_at hl 0 rfl) ?_
          refine lv_iload_n S.1 S.2.1 d_MD_readNeed_44 rfl (lv_at hl 1 rfl) ?_
          refine x_put (ci := 1) (k := 31) S hK hI (fun w h => List.mem_cons_of_mem _ (i_MD w h)) t_MD t_MD_ok n_MD rfl (by decide) (List.mem_cons_of_mem _ wd_634) rfl (Or.inl rfl) (by rfl) rfl d_MD_readNeed_45 hf (fun M H locs hf hI => ?_)
          refine lv_aload_n S.1 S.2.1 d_MD_readNeed_48 rfl (lv_at hl 0 rfl) ?_
          obtain ⟨⟨fs4, hefs4⟩, hf⟩ := b_is_inv hf
          obtain ⟨r1, N2, hg3, hf⟩ := b_call_inv hf
          refine x_call hI (hm_mo hg3) (va_runV (As := []) (rest := []) S (c_MD_next l hg3) (cwV 0 S.2.2.2.2 (gi_V wd_583 wd_584 wd_585 wd_564 wd_586) rfl rfl rfl (by decide +kernel) ⟨Nat.le_trans (Nat.le_of_ble_eq_true rfl) hRf.1, Nat.le_trans (Nat.le_of_ble_eq_true rfl) hRf.2⟩) ⟨hm_B.blind, va_recv hK (hI.1.one hefs4) (ci := 1) (q0 := 0) rfl rfl, fun U hU hW => ⟨rfl, hm_B.of hK hG hI hU hW⟩⟩ rfl rfl hl.1 rfl (lv_room (Nat.le_of_ble_eq_true rfl)) d_MD_readNeed_49 (hx_fit hI hR (hm_mo hg3) (hm_mo hf))) (fun H locs cells slots hI => ?_)
          refine W.eq (g2 := F0 m 52 ls []) rfl ?_
          refine lv_aload_n S.1 S.2.1 d_MD_readNeed_52 rfl (lv_at hl 0 rfl) ?_
          obtain ⟨⟨fs8, hefs8⟩, hf⟩ := b_is_inv hf
          obtain ⟨r5, N6, hg7, hf⟩ := b_call_inv hf
          refine x_call hI (hm_mo hg7) (va_runV (As := []) (rest := []) S (c_MD_readRanged l hg7) (cwV 0 S.2.2.2.2 (gi_V wd_654 wd_655 wd_656 wd_564 wd_657) rfl rfl rfl (by decide +kernel) ⟨Nat.le_trans (Nat.le_of_ble_eq_true rfl) hRf.1, Nat.le_trans (Nat.le_of_ble_eq_true rfl) hRf.2⟩) ⟨hm_B.blind, va_recv hK (hI.1.one hefs8) (ci := 1) (q0 := 0) rfl rfl, fun U hU hW => ⟨rfl, hm_B.of hK hG hI hU hW⟩⟩ rfl rfl hl.1 rfl (lv_room (Nat.le_of_ble_eq_true rfl)) d_MD_readNeed_53 (hx_fit hI hR (hm_mo hg7) (hm_mo hf))) (fun H locs cells slots hI => ?_)
          refine W.eq (g2 := F0 m 56 ls []) rfl ?_
          exact hret _ _ _ _ _ _ _ d_MD_readNeed_56 hf hI
        · have hf := b_if_t hc hf
          refine lv_aload_n S.1 S.2.1 d_MD_readNeed_34 rfl (lv_at hl 0 rfl) ?_
          refine lv_aload_n S.1 S.2.1 d_MD_readNeed_35 rfl (lv_at hl 0 rfl) ?_
          refine x_getI (ci := 1) (k := 3) S hK hI (fun w h => List.mem_cons_of_mem _ (i_MD w h)) rfl (by decide) (List.mem_cons_of_mem _ wd_560) rfl d_MD_readNeed_36 hf (fun v9 hf => ?_)
          obtain ⟨⟨fs13, hefs13⟩, hf⟩ := b_is_inv hf
          obtain ⟨r10, N11, hg12, hf⟩ := b_call_inv hf
          refine x_call hI (hm_mo hg12) (va_runV (As := [.int v9]) (rest := []) S (c_MD_fail l hg12) (cwV 1 S.2.2.2.2 (gi_V wd_579 wd_580 wd_581 wd_564 wd_582) rfl rfl rfl (by decide +kernel) ⟨Nat.le_trans (Nat.le_of_ble_eq_true rfl) hRf.1, Nat.le_trans (Nat.le_of_ble_eq_true rfl) hRf.2⟩) ⟨hm_B.blind, va_recv hK (hI.1.one hefs13) (ci := 1) (q0 := 0) rfl rfl, fun U hU hW => ⟨rfl, hm_B.of hK hG hI hU hW⟩⟩ rfl rfl hl.1 rfl (lv_room (Nat.le_of_ble_eq_true rfl)) d_MD_readNeed_39 (hx_fit hI hR (hm_mo hg12) (hm_mo hf))) (fun H locs cells slots hI => ?_)
          refine W.eq (g2 := F0 m 42 ls []) rfl ?_
          exact hret _ _ _ _ _ _ _ d_MD_readNeed_42 hf hI
      refine lv_iload_n S.1 S.2.1 d_MD_readNeed_7 rfl (lv_at hl 1 rfl) ?_
      refine lv_iconst (v := 5) S.1 S.2.1 d_MD_readNeed_8 (by decide) ?_
      refine lv_icmp_ge (tgt := 29) S.1 S.2.1 d_MD_readNeed_9 (by decide) (fun hc => ?_) (fun hc => ?_)
      · have hf := b_if_t hc hf
        exact w29 x1 _ _ _ _ _ _ hf hI (lv_sub hl [0, 1] rfl)
      · have hf := b_if_f hc hf
        refine lv_aload_n S.1 S.2.1 d_MD_readNeed_12 rfl (lv_at hl 0 rfl) ?_
        refine x_getR (ci := 1) (k := 8) S hK hI (fun w h => List.mem_cons_of_mem _ (i_MD w h)) rfl (by decide) (List.mem_cons_of_mem _ wd_516) rfl d_MD_readNeed_13 hf (fun r14 hf => ?_)
        refine lv_iload_n S.1 S.2.1 d_MD_readNeed_16 rfl (lv_at hl 1 rfl) ?_
        obtain ⟨a15, ea15, hg⟩ := b_nn_inv hf
        have hI0 := hI
        have hl0 := hl
        clear hf hI hl
        subst ea15
        have hf := hg
        have hI := hI0
        have hl := hl0
        clear hg hI0 hl0
        refine x_lald (t := 7) S hK hI rfl d_MD_readNeed_17 hf (fun v16 hf => ?_)
        refine lv_lload_n S.1 S.2.1 d_MD_readNeed_18 rfl (lv_at hl 2 rfl) ?_
        refine W.lcmp S.1 S.2.1 d_MD_readNeed_19 ?_
        refine lv_if_eq (tgt := 29) S.1 S.2.1 d_MD_readNeed_20 (by decide) (fun hc => ?_) (fun hc => ?_)
        · have hf := b_if_t hc hf
          exact w29 x1 _ _ _ _ _ _ hf hI (lv_sub hl [0, 1] rfl)
        · have hf := b_if_f hc hf
          refine x_iinc (v := 1) (lv2 := [(0, .ref h0), (2, .long x2)]) S d_MD_readNeed_23 hl 1 rfl (by decide) (by decide) [0, 2] rfl ⟨⟨(by decide : (0 : Nat) ≠ 1), fun _ => rfl⟩, ⟨⟨(by decide : (2 : Nat) ≠ 1), fun h => absurd (show (2 : Nat) + 1 = 1 from h) (by decide)⟩, trivial⟩⟩ (fun ls hl => ?_)
          refine lv_goto (tgt := 7) S.1 S.2.1 d_MD_readNeed_26 (by decide) ?_
          exact ih7 (x1 + 1) x2 _ _ _ _ _ _ hf hI (lv_sub hl [1, 0, 2] rfl)
  refine lv_iconst (v := 0) S.1 S.2.1 d_MD_readNeed_0 (by decide) ?_
  refine x_istore_n (lv2 := [(0, .ref h0)]) S d_MD_readNeed_1 rfl hl (by decide) [0] rfl ⟨⟨(by decide : (0 : Nat) ≠ 1), fun _ => rfl⟩, trivial⟩ (fun ls hl => ?_)
  refine lv_aload_n S.1 S.2.1 d_MD_readNeed_2 rfl (lv_at hl 1 rfl) ?_
  obtain ⟨⟨fs20, hefs20⟩, hf⟩ := b_is_inv hf
  obtain ⟨v17, N18, hg19, hf⟩ := b_call_inv hf
  refine x_call hI (hm_mo hg19) (va_runV (As := []) (rest := []) S (c_MD_key l hg19) (cwV 0 S.2.2.2.2 (gi_V wd_658 wd_659 wd_660 wd_564 wd_661) rfl rfl rfl (by decide +kernel) ⟨Nat.le_trans (Nat.le_of_ble_eq_true rfl) hRf.1, Nat.le_trans (Nat.le_of_ble_eq_true rfl) hRf.2⟩) ⟨hm_B.blind, va_recv hK (hI.1.one hefs20) (ci := 1) (q0 := 0) rfl rfl, fun U hU hW => ⟨rfl, hm_B.of hK hG hI hU hW⟩⟩ rfl rfl hl.1 rfl (lv_room (Nat.le_of_ble_eq_true rfl)) d_MD_readNeed_3 (hx_fit hI hR (hm_mo hg19) (hm_mo hf))) (fun H locs cells slots hI => ?_)
  refine W.eq (g2 := F0 m 6 ls [.long v17]) rfl ?_
  refine x_lstore_n (lv2 := [(1, .int 0), (0, .ref h0)]) S d_MD_readNeed_6 rfl hl (by decide) [0, 1] rfl ⟨⟨(by decide : (1 : Nat) ≠ 2), (by decide : (1 : Nat) ≠ 2 + 1), fun _ => rfl⟩, ⟨⟨(by decide : (0 : Nat) ≠ 2), (by decide : (0 : Nat) ≠ 2 + 1), fun h => absurd (show (0 : Nat) + 1 = 2 from h) (by decide)⟩, trivial⟩⟩ (fun ls hl => ?_)
  exact w7 N 0 v17 _ _ _ _ _ _ hf hI (lv_sub hl [2, 1, 0] rfl)
set_option maxHeartbeats 4000000 in
set_option maxRecDepth 100000 in
theorem c_MD_readAny (l : Launch) {D : va_G} {dA : Nat → ClassId} {aK aV : Nat → Nat} {z : Nat} {N : Nat} {h0 : Nat} {M : hM} {Z : Unit × hM} (hf : (f_MD_readAny N h0 ).1 M = some Z) : Met l y_MD_readAny w_MD_readAny ({ frames := 7, cells := Z.2.2.1 - M.2.1, slots := Z.2.2.2 - M.2.2, locals := 153 }) (va_Pc [.ref h0] (hm_B D dA hCl (hTy dA) sT aK aV z M)) (hm_Q D dA hCl (hTy dA) sT aK aV z none Z.2) (Z.2.2.1 - M.2.1) (Z.2.2.2 - M.2.2) (fun q => z ≤ q) := by
  refine Met.ofW (cc := b_MD_readAny) (maxL := 1) (ret := none) (by decide) rfl ?_
  intro p e s m args below meth c s₁ B hml hv
  obtain ⟨hav, hB⟩ := hv
  have S : CallFix p m c b_MD_readAny 1 s args w_MD_readAny R_MD := ⟨B.exec, B.bytes, hml, findClass_of_methodNamed B.named, atoms_spec (ws := w_MD_readAny) B.pre⟩
  have hr : meth.sig.returnType = none := B.returns
  have hlocks := B.notSynchronized
  have hK := hB.2.2.1
  have hG := hB.2.2.2.2.2
  have hI := hm_I.start hB
  rw [← hB.2.1]
  generalize M.2.2 = k1 at hI ⊢
  refine W.eq (g2 := F0 m 0 ((lg_sl ([.ref h0]) ++ List.replicate (1 - (lg_sl ([.ref h0])).length) Slot.unset).toArray) []) (by rw [hav]; exact lg_entry_eq m ([.ref h0]) 1) ?_
  have hl := lv_entry ([.ref h0]) (n := 1) (Nat.le_of_ble_eq_true rfl)
  generalize (lg_sl ([.ref h0]) ++ List.replicate (1 - (lg_sl ([.ref h0])).length) Slot.unset).toArray = ls at hl ⊢
  simp only [lvA_nil, lvA_i, lvA_l, lvA_a, lvA_r, Nat.zero_add, Nat.reduceAdd] at hl
  have hret : ∀ (M : hM) (H : Heap) (locs : List Loc) (cells slots : Nat) (ls : Array Slot) (pc : Nat), decode b_MD_readAny pc = .ok (.return_, 1) → (b_ret ()).1 M = some Z → hm_I D dA hCl z k1 s M H locs cells slots → W p l e (headSpec w_MD_readAny { frames := 7, cells := Z.2.2.1 - s.heap.size, slots := Z.2.2.2 - k1, locals := 153 }).room s m args below meth c H locs cells slots (MQ below (hm_Q D dA hCl (hTy dA) sT aK aV z none Z.2) args s (Z.2.2.1 - s.heap.size) (Z.2.2.2 - k1) (fun q => z ≤ q)) (F0 m pc ls []) := fun M H locs cells slots ls pc hdg hf hI => x_retv S hK hG hI hr hlocks hdg hf
  have hR : Z.2.2.1 - s.heap.size ≤ (headSpec w_MD_readAny { frames := 7, cells := Z.2.2.1 - s.heap.size, slots := Z.2.2.2 - k1, locals := 153 }).room.cells ∧ Z.2.2.2 - k1 ≤ (headSpec w_MD_readAny { frames := 7, cells := Z.2.2.1 - s.heap.size, slots := Z.2.2.2 - k1, locals := 153 }).room.slots := ⟨Nat.le_refl _, Nat.le_refl _⟩
  have hRf : 7 ≤ (headSpec w_MD_readAny { frames := 7, cells := Z.2.2.1 - s.heap.size, slots := Z.2.2.2 - k1, locals := 153 }).room.frames ∧ 153 ≤ (headSpec w_MD_readAny { frames := 7, cells := Z.2.2.1 - s.heap.size, slots := Z.2.2.2 - k1, locals := 153 }).room.locals := ⟨Nat.le_refl _, Nat.le_refl _⟩
  generalize (headSpec w_MD_readAny { frames := 7, cells := Z.2.2.1 - s.heap.size, slots := Z.2.2.2 - k1, locals := 153 }).room = R at hret hR hRf ⊢
  generalize (MQ below (hm_Q D dA hCl (hTy dA) sT aK aV z none Z.2) args s (Z.2.2.1 - s.heap.size) (Z.2.2.2 - k1) (fun q => z ≤ q)) = Q at hret ⊢
  rw [e_MD_readAny] at hf
  have w14 : ∀ (n : Nat)  (M : hM) (H : Heap) (locs : List Loc) (ls : Array Slot) (cells slots : Nat), (f_MD_readAny_14 N h0  n).1 M = some Z → hm_I D dA hCl z k1 s M H locs cells slots → lv_has ls 1 [(0, .ref h0)] → W p l e R s m args below meth c H locs cells slots Q (F0 m 14 ls []) := by
    intro n
    induction n with
    | zero => intro M H locs ls cells slots hf hI hl; cases hf
    | succ n14 ih14 =>
      intro M H locs ls cells slots hf hI hl
      rw [e_MD_readAny_14] at hf
      obtain ⟨J41, eJ41, hf⟩ := b_let_inv hf
      have w41 : ∀  (M : hM) (H : Heap) (locs : List Loc) (ls : Array Slot) (cells slots : Nat), (J41).1 M = some Z → hm_I D dA hCl z k1 s M H locs cells slots → lv_has ls 1 [(0, .ref h0)] → W p l e R s m args below meth c H locs cells slots Q (F0 m 41 ls []) := by
        intro M H locs ls cells slots hf hI hl
        rw [eJ41] at hf
        refine lv_aload_n S.1 S.2.1 d_MD_readAny_41 rfl (lv_at hl 0 rfl) ?_
        refine lv_dup S.1 S.2.1 d_MD_readAny_42 rfl ?_
        refine x_getI (ci := 1) (k := 29) S hK hI (fun w h => List.mem_cons_of_mem _ (i_MD w h)) rfl (by decide) (List.mem_cons_of_mem _ wd_635) rfl d_MD_readAny_43 hf (fun v1 hf => ?_)
        refine lv_iconst (v := 1) S.1 S.2.1 d_MD_readAny_46 (by decide) ?_
        refine lv_iadd S.1 S.2.1 d_MD_readAny_47 ?_
        refine x_put (ci := 1) (k := 29) S hK hI (fun w h => List.mem_cons_of_mem _ (i_MD w h)) t_MD t_MD_ok n_MD rfl (by decide) (List.mem_cons_of_mem _ wd_635) rfl (Or.inl rfl) (by rfl) rfl d_MD_readAny_48 hf (fun M H locs hf hI => ?_)
        exact hret _ _ _ _ _ _ _ d_MD_readAny_51 hf hI
      refine lv_aload_n S.1 S.2.1 d_MD_readAny_14 rfl (lv_at hl 0 rfl) ?_
      obtain ⟨⟨fs5, hefs5⟩, hf⟩ := b_is_inv hf
      obtain ⟨v2, N3, hg4, hf⟩ := b_call_inv hf
      refine x_call hI (hm_mo hg4) (va_runV (As := []) (rest := []) S (c_MD_isWrong l hg4) (cwV 0 S.2.2.2.2 (gi_V wd_575 wd_576 wd_577 wd_564 wd_578) rfl rfl rfl (by decide +kernel) ⟨Nat.le_trans (Nat.le_of_ble_eq_true rfl) hRf.1, Nat.le_trans (Nat.le_of_ble_eq_true rfl) hRf.2⟩) ⟨hm_B.blind, va_recv hK (hI.1.one hefs5) (ci := 1) (q0 := 0) rfl rfl, fun U hU hW => ⟨rfl, hm_B.of hK hG hI hU hW⟩⟩ rfl rfl hl.1 rfl (lv_room (Nat.le_of_ble_eq_true rfl)) d_MD_readAny_15 (hx_fit hI hR (hm_mo hg4) (hm_mo hf))) (fun H locs cells slots hI => ?_)
      refine W.eq (g2 := F0 m 18 ls [.int v2]) rfl ?_
      refine lv_if_ne (tgt := 41) S.1 S.2.1 d_MD_readAny_18 (by decide) (fun hc => ?_) (fun hc => ?_)
      · have hf := b_if_f hc hf
        exact w41  _ _ _ _ _ _ hf hI (lv_sub hl [0] rfl)
      · have hf := b_if_t hc hf
        refine lv_aload_n S.1 S.2.1 d_MD_readAny_21 rfl (lv_at hl 0 rfl) ?_
        refine x_getI (ci := 1) (k := 5) S hK hI (fun w h => List.mem_cons_of_mem _ (i_MD w h)) rfl (by decide) (List.mem_cons_of_mem _ wd_572) rfl d_MD_readAny_22 hf (fun v6 hf => ?_)
        refine lv_bipush (v := 124) S.1 S.2.1 d_MD_readAny_25 (by decide) ?_
        refine lv_icmp_ne (tgt := 41) S.1 S.2.1 d_MD_readAny_27 (by decide) (fun hc => ?_) (fun hc => ?_)
        · have hf := b_if_f hc hf
          exact w41  _ _ _ _ _ _ hf hI (lv_sub hl [0] rfl)
        · have hf := b_if_t hc hf
          refine lv_aload_n S.1 S.2.1 d_MD_readAny_30 rfl (lv_at hl 0 rfl) ?_
          obtain ⟨⟨fs10, hefs10⟩, hf⟩ := b_is_inv hf
          obtain ⟨r7, N8, hg9, hf⟩ := b_call_inv hf
          refine x_call hI (hm_mo hg9) (va_runV (As := []) (rest := []) S (c_MD_next l hg9) (cwV 0 S.2.2.2.2 (gi_V wd_583 wd_584 wd_585 wd_564 wd_586) rfl rfl rfl (by decide +kernel) ⟨Nat.le_trans (Nat.le_of_ble_eq_true rfl) hRf.1, Nat.le_trans (Nat.le_of_ble_eq_true rfl) hRf.2⟩) ⟨hm_B.blind, va_recv hK (hI.1.one hefs10) (ci := 1) (q0 := 0) rfl rfl, fun U hU hW => ⟨rfl, hm_B.of hK hG hI hU hW⟩⟩ rfl rfl hl.1 rfl (lv_room (Nat.le_of_ble_eq_true rfl)) d_MD_readAny_31 (hx_fit hI hR (hm_mo hg9) (hm_mo hf))) (fun H locs cells slots hI => ?_)
          refine W.eq (g2 := F0 m 34 ls []) rfl ?_
          refine lv_aload_n S.1 S.2.1 d_MD_readAny_34 rfl (lv_at hl 0 rfl) ?_
          obtain ⟨⟨fs14, hefs14⟩, hf⟩ := b_is_inv hf
          obtain ⟨r11, N12, hg13, hf⟩ := b_call_inv hf
          refine x_call hI (hm_mo hg13) (va_runV (As := []) (rest := []) S (c_MD_readRanged l hg13) (cwV 0 S.2.2.2.2 (gi_V wd_654 wd_655 wd_656 wd_564 wd_657) rfl rfl rfl (by decide +kernel) ⟨Nat.le_trans (Nat.le_of_ble_eq_true rfl) hRf.1, Nat.le_trans (Nat.le_of_ble_eq_true rfl) hRf.2⟩) ⟨hm_B.blind, va_recv hK (hI.1.one hefs14) (ci := 1) (q0 := 0) rfl rfl, fun U hU hW => ⟨rfl, hm_B.of hK hG hI hU hW⟩⟩ rfl rfl hl.1 rfl (lv_room (Nat.le_of_ble_eq_true rfl)) d_MD_readAny_35 (hx_fit hI hR (hm_mo hg13) (hm_mo hf))) (fun H locs cells slots hI => ?_)
          refine W.eq (g2 := F0 m 38 ls []) rfl ?_
          refine lv_goto (tgt := 14) S.1 S.2.1 d_MD_readAny_38 (by decide) ?_
          exact ih14  _ _ _ _ _ _ hf hI (lv_sub hl [0] rfl)
  refine lv_aload_n S.1 S.2.1 d_MD_readAny_0 rfl (lv_at hl 0 rfl) ?_
  obtain ⟨⟨fs18, hefs18⟩, hf⟩ := b_is_inv hf
  obtain ⟨r15, N16, hg17, hf⟩ := b_call_inv hf
  refine x_call hI (hm_mo hg17) (va_runV (As := []) (rest := []) S (c_MD_readRanged l hg17) (cwV 0 S.2.2.2.2 (gi_V wd_654 wd_655 wd_656 wd_564 wd_657) rfl rfl rfl (by decide +kernel) ⟨Nat.le_trans (Nat.le_of_ble_eq_true rfl) hRf.1, Nat.le_trans (Nat.le_of_ble_eq_true rfl) hRf.2⟩) ⟨hm_B.blind, va_recv hK (hI.1.one hefs18) (ci := 1) (q0 := 0) rfl rfl, fun U hU hW => ⟨rfl, hm_B.of hK hG hI hU hW⟩⟩ rfl rfl hl.1 rfl (lv_room (Nat.le_of_ble_eq_true rfl)) d_MD_readAny_1 (hx_fit hI hR (hm_mo hg17) (hm_mo hf))) (fun H locs cells slots hI => ?_)
  refine W.eq (g2 := F0 m 4 ls []) rfl ?_
  refine lv_aload_n S.1 S.2.1 d_MD_readAny_4 rfl (lv_at hl 0 rfl) ?_
  refine lv_bipush (v := 124) S.1 S.2.1 d_MD_readAny_5 (by decide) ?_
  obtain ⟨⟨fs22, hefs22⟩, hf⟩ := b_is_inv hf
  obtain ⟨r19, N20, hg21, hf⟩ := b_call_inv hf
  refine x_call hI (hm_mo hg21) (va_runV (As := [.int 124]) (rest := []) S (c_MD_sign l hg21) (cwV 1 S.2.2.2.2 (gi_V wd_598 wd_599 wd_600 wd_564 wd_601) rfl rfl rfl (by decide +kernel) ⟨Nat.le_trans (Nat.le_of_ble_eq_true rfl) hRf.1, Nat.le_trans (Nat.le_of_ble_eq_true rfl) hRf.2⟩) ⟨hm_B.blind, va_recv hK (hI.1.one hefs22) (ci := 1) (q0 := 0) rfl rfl, fun U hU hW => ⟨rfl, hm_B.of hK hG hI hU hW⟩⟩ rfl rfl hl.1 rfl (lv_room (Nat.le_of_ble_eq_true rfl)) d_MD_readAny_7 (hx_fit hI hR (hm_mo hg21) (hm_mo hf))) (fun H locs cells slots hI => ?_)
  refine W.eq (g2 := F0 m 10 ls []) rfl ?_
  refine lv_aload_n S.1 S.2.1 d_MD_readAny_10 rfl (lv_at hl 0 rfl) ?_
  obtain ⟨⟨fs26, hefs26⟩, hf⟩ := b_is_inv hf
  obtain ⟨r23, N24, hg25, hf⟩ := b_call_inv hf
  refine x_call hI (hm_mo hg25) (va_runV (As := []) (rest := []) S (c_MD_readRanged l hg25) (cwV 0 S.2.2.2.2 (gi_V wd_654 wd_655 wd_656 wd_564 wd_657) rfl rfl rfl (by decide +kernel) ⟨Nat.le_trans (Nat.le_of_ble_eq_true rfl) hRf.1, Nat.le_trans (Nat.le_of_ble_eq_true rfl) hRf.2⟩) ⟨hm_B.blind, va_recv hK (hI.1.one hefs26) (ci := 1) (q0 := 0) rfl rfl, fun U hU hW => ⟨rfl, hm_B.of hK hG hI hU hW⟩⟩ rfl rfl hl.1 rfl (lv_room (Nat.le_of_ble_eq_true rfl)) d_MD_readAny_11 (hx_fit hI hR (hm_mo hg25) (hm_mo hf))) (fun H locs cells slots hI => ?_)
  refine W.eq (g2 := F0 m 14 ls []) rfl ?_
  exact w14 N  _ _ _ _ _ _ hf hI (lv_sub hl [0] rfl)
set_option maxHeartbeats 4000000 in
set_option maxRecDepth 100000 in
theorem c_MD_readNames (l : Launch) {D : va_G} {dA : Nat → ClassId} {aK aV : Nat → Nat} {z : Nat} {N : Nat} {h0 : Nat} {p0 : Int32} {p1 : Int32} {M : hM} {Z : Unit × hM} (hf : (f_MD_readNames N h0 p0 p1).1 M = some Z) : Met l y_MD_readNames w_MD_readNames ({ frames := 3, cells := Z.2.2.1 - M.2.1, slots := Z.2.2.2 - M.2.2, locals := 63 }) (va_Pc [.ref h0, .int p0, .int p1] (hm_B D dA hCl (hTy dA) sT aK aV z M)) (hm_Q D dA hCl (hTy dA) sT aK aV z none Z.2) (Z.2.2.1 - M.2.1) (Z.2.2.2 - M.2.2) (fun q => z ≤ q) := by
  refine Met.ofW (cc := b_MD_readNames) (maxL := 7) (ret := none) (by decide) rfl ?_
  intro p e s m args below meth c s₁ B hml hv
  obtain ⟨hav, hB⟩ := hv
  have S : CallFix p m c b_MD_readNames 7 s args w_MD_readNames R_MD := ⟨B.exec, B.bytes, hml, findClass_of_methodNamed B.named, atoms_spec (ws := w_MD_readNames) B.pre⟩
  have hr : meth.sig.returnType = none := B.returns
  have hlocks := B.notSynchronized
  have hK := hB.2.2.1
  have hG := hB.2.2.2.2.2
  have hI := hm_I.start hB
  rw [← hB.2.1]
  generalize M.2.2 = k1 at hI ⊢
  refine W.eq (g2 := F0 m 0 ((lg_sl ([.ref h0, .int p0, .int p1]) ++ List.replicate (7 - (lg_sl ([.ref h0, .int p0, .int p1])).length) Slot.unset).toArray) []) (by rw [hav]; exact lg_entry_eq m ([.ref h0, .int p0, .int p1]) 7) ?_
  have hl := lv_entry ([.ref h0, .int p0, .int p1]) (n := 7) (Nat.le_of_ble_eq_true rfl)
  generalize (lg_sl ([.ref h0, .int p0, .int p1]) ++ List.replicate (7 - (lg_sl ([.ref h0, .int p0, .int p1])).length) Slot.unset).toArray = ls at hl ⊢
  simp only [lvA_nil, lvA_i, lvA_l, lvA_a, lvA_r, Nat.zero_add, Nat.reduceAdd] at hl
  have hret : ∀ (M : hM) (H : Heap) (locs : List Loc) (cells slots : Nat) (ls : Array Slot) (pc : Nat), decode b_MD_readNames pc = .ok (.return_, 1) → (b_ret ()).1 M = some Z → hm_I D dA hCl z k1 s M H locs cells slots → W p l e (headSpec w_MD_readNames { frames := 3, cells := Z.2.2.1 - s.heap.size, slots := Z.2.2.2 - k1, locals := 63 }).room s m args below meth c H locs cells slots (MQ below (hm_Q D dA hCl (hTy dA) sT aK aV z none Z.2) args s (Z.2.2.1 - s.heap.size) (Z.2.2.2 - k1) (fun q => z ≤ q)) (F0 m pc ls []) := fun M H locs cells slots ls pc hdg hf hI => x_retv S hK hG hI hr hlocks hdg hf
  have hR : Z.2.2.1 - s.heap.size ≤ (headSpec w_MD_readNames { frames := 3, cells := Z.2.2.1 - s.heap.size, slots := Z.2.2.2 - k1, locals := 63 }).room.cells ∧ Z.2.2.2 - k1 ≤ (headSpec w_MD_readNames { frames := 3, cells := Z.2.2.1 - s.heap.size, slots := Z.2.2.2 - k1, locals := 63 }).room.slots := ⟨Nat.le_refl _, Nat.le_refl _⟩
  have hRf : 3 ≤ (headSpec w_MD_readNames { frames := 3, cells := Z.2.2.1 - s.heap.size, slots := Z.2.2.2 - k1, locals := 63 }).room.frames ∧ 63 ≤ (headSpec w_MD_readNames { frames := 3, cells := Z.2.2.1 - s.heap.size, slots := Z.2.2.2 - k1, locals := 63 }).room.locals := ⟨Nat.le_refl _, Nat.le_refl _⟩
  generalize (headSpec w_MD_readNames { frames := 3, cells := Z.2.2.1 - s.heap.size, slots := Z.2.2.2 - k1, locals := 63 }).room = R at hret hR hRf ⊢
  generalize (MQ below (hm_Q D dA hCl (hTy dA) sT aK aV z none Z.2) args s (Z.2.2.1 - s.heap.size) (Z.2.2.2 - k1) (fun q => z ≤ q)) = Q at hret ⊢
  rw [e_MD_readNames] at hf
  have w2 : ∀ (n : Nat) (x3 : Int32) (M : hM) (H : Heap) (locs : List Loc) (ls : Array Slot) (cells slots : Nat), (f_MD_readNames_2 N h0 p0 p1  n x3).1 M = some Z → hm_I D dA hCl z k1 s M H locs cells slots → lv_has ls 7 [(0, .ref h0), (1, .int p0), (2, .int p1), (3, .int x3)] → W p l e R s m args below meth c H locs cells slots Q (F0 m 2 ls []) := by
    intro n
    induction n with
    | zero => intro x3 M H locs ls cells slots hf hI hl; cases hf
    | succ n2 ih2 =>
      intro x3 M H locs ls cells slots hf hI hl
      rw [e_MD_readNames_2] at hf
      obtain ⟨J89, eJ89, hf⟩ := b_let_inv hf
      have w89 : ∀  (M : hM) (H : Heap) (locs : List Loc) (ls : Array Slot) (cells slots : Nat), (J89).1 M = some Z → hm_I D dA hCl z k1 s M H locs cells slots → lv_has ls 7 [(0, .ref h0), (1, .int p0), (2, .int p1)] → W p l e R s m args below meth c H locs cells slots Q (F0 m 89 ls []) := by
        intro M H locs ls cells slots hf hI hl
        rw [eJ89] at hf
        obtain ⟨J110, eJ110, hf⟩ := b_let_inv hf
        have w110 : ∀ (y0 : Int32) (M : hM) (H : Heap) (locs : List Loc) (ls : Array Slot) (cells slots : Nat), (J110 y0).1 M = some Z → hm_I D dA hCl z k1 s M H locs cells slots → lv_has ls 7 [(0, .ref h0), (1, .int p0), (2, .int p1)] → W p l e R s m args below meth c H locs cells slots Q (F0 m 110 ls [.int y0]) := by
          intro y0 M H locs ls cells slots hf hI hl
          rw [eJ110] at hf
          obtain ⟨J119, eJ119, hf⟩ := b_let_inv hf
          have w119 : ∀ (x3 : Int32) (M : hM) (H : Heap) (locs : List Loc) (ls : Array Slot) (cells slots : Nat), (J119 x3).1 M = some Z → hm_I D dA hCl z k1 s M H locs cells slots → lv_has ls 7 [(0, .ref h0), (1, .int p0), (2, .int p1), (3, .int x3)] → W p l e R s m args below meth c H locs cells slots Q (F0 m 119 ls []) := by
            intro x3 M H locs ls cells slots hf hI hl
            rw [eJ119] at hf
            refine lv_goto (tgt := 2) S.1 S.2.1 d_MD_readNames_119 (by decide) ?_
            exact ih2 x3 _ _ _ _ _ _ hf hI (lv_sub hl [0, 1, 2, 3] rfl)
          refine x_istore_n (lv2 := [(0, .ref h0), (1, .int p0), (2, .int p1)]) S d_MD_readNames_110 rfl hl (by decide) [0, 1, 2] rfl ⟨⟨(by decide : (0 : Nat) ≠ 3), fun h => absurd (show (0 : Nat) + 1 = 3 from h) (by decide)⟩, ⟨⟨(by decide : (1 : Nat) ≠ 3), fun h => absurd (show (1 : Nat) + 1 = 3 from h) (by decide)⟩, ⟨⟨(by decide : (2 : Nat) ≠ 3), fun _ => rfl⟩, trivial⟩⟩⟩ (fun ls hl => ?_)
          refine lv_iload_n S.1 S.2.1 d_MD_readNames_111 rfl (lv_at hl 0 rfl) ?_
          refine lv_if_eq (tgt := 119) S.1 S.2.1 d_MD_readNames_112 (by decide) (fun hc => ?_) (fun hc => ?_)
          · have hf := b_if_t hc hf
            exact w119 y0 _ _ _ _ _ _ hf hI (lv_sub hl [1, 2, 3, 0] rfl)
          · have hf := b_if_f hc hf
            refine lv_aload_n S.1 S.2.1 d_MD_readNames_115 rfl (lv_at hl 1 rfl) ?_
            obtain ⟨⟨fs4, hefs4⟩, hf⟩ := b_is_inv hf
            obtain ⟨r1, N2, hg3, hf⟩ := b_call_inv hf
            refine x_call hI (hm_mo hg3) (va_runV (As := []) (rest := []) S (c_MD_next l hg3) (cwV 0 S.2.2.2.2 (gi_V wd_583 wd_584 wd_585 wd_564 wd_586) rfl rfl rfl (by decide +kernel) ⟨Nat.le_trans (Nat.le_of_ble_eq_true rfl) hRf.1, Nat.le_trans (Nat.le_of_ble_eq_true rfl) hRf.2⟩) ⟨hm_B.blind, va_recv hK (hI.1.one hefs4) (ci := 1) (q0 := 0) rfl rfl, fun U hU hW => ⟨rfl, hm_B.of hK hG hI hU hW⟩⟩ rfl rfl hl.1 rfl (lv_room (Nat.le_of_ble_eq_true rfl)) d_MD_readNames_116 (hx_fit hI hR (hm_mo hg3) (hm_mo hf))) (fun H locs cells slots hI => ?_)
            refine W.eq (g2 := F0 m 119 ls []) rfl ?_
            exact w119 y0 _ _ _ _ _ _ hf hI (lv_sub hl [1, 2, 3, 0] rfl)
        obtain ⟨J109, eJ109, hf⟩ := b_let_inv hf
        have w109 : ∀  (M : hM) (H : Heap) (locs : List Loc) (ls : Array Slot) (cells slots : Nat), (J109).1 M = some Z → hm_I D dA hCl z k1 s M H locs cells slots → lv_has ls 7 [(0, .ref h0), (1, .int p0), (2, .int p1)] → W p l e R s m args below meth c H locs cells slots Q (F0 m 109 ls []) := by
          intro M H locs ls cells slots hf hI hl
          rw [eJ109] at hf
          refine lv_iconst (v := 0) S.1 S.2.1 d_MD_readNames_109 (by decide) ?_
          exact w110 0 _ _ _ _ _ _ hf hI (lv_sub hl [0, 1, 2] rfl)
        refine lv_aload_n S.1 S.2.1 d_MD_readNames_89 rfl (lv_at hl 0 rfl) ?_
        obtain ⟨⟨fs8, hefs8⟩, hf⟩ := b_is_inv hf
        obtain ⟨v5, N6, hg7, hf⟩ := b_call_inv hf
        refine x_call hI (hm_mo hg7) (va_runV (As := []) (rest := []) S (c_MD_isWrong l hg7) (cwV 0 S.2.2.2.2 (gi_V wd_575 wd_576 wd_577 wd_564 wd_578) rfl rfl rfl (by decide +kernel) ⟨Nat.le_trans (Nat.le_of_ble_eq_true rfl) hRf.1, Nat.le_trans (Nat.le_of_ble_eq_true rfl) hRf.2⟩) ⟨hm_B.blind, va_recv hK (hI.1.one hefs8) (ci := 1) (q0 := 0) rfl rfl, fun U hU hW => ⟨rfl, hm_B.of hK hG hI hU hW⟩⟩ rfl rfl hl.1 rfl (lv_room (Nat.le_of_ble_eq_true rfl)) d_MD_readNames_90 (hx_fit hI hR (hm_mo hg7) (hm_mo hf))) (fun H locs cells slots hI => ?_)
        refine W.eq (g2 := F0 m 93 ls [.int v5]) rfl ?_
        refine lv_if_ne (tgt := 109) S.1 S.2.1 d_MD_readNames_93 (by decide) (fun hc => ?_) (fun hc => ?_)
        · have hf := b_if_f hc hf
          exact w109  _ _ _ _ _ _ hf hI (lv_sub hl [0, 1, 2] rfl)
        · have hf := b_if_t hc hf
          refine lv_aload_n S.1 S.2.1 d_MD_readNames_96 rfl (lv_at hl 0 rfl) ?_
          refine x_getI (ci := 1) (k := 5) S hK hI (fun w h => List.mem_cons_of_mem _ (i_MD w h)) rfl (by decide) (List.mem_cons_of_mem _ wd_572) rfl d_MD_readNames_97 hf (fun v9 hf => ?_)
          refine lv_bipush (v := 44) S.1 S.2.1 d_MD_readNames_100 (by decide) ?_
          refine lv_icmp_ne (tgt := 109) S.1 S.2.1 d_MD_readNames_102 (by decide) (fun hc => ?_) (fun hc => ?_)
          · have hf := b_if_f hc hf
            exact w109  _ _ _ _ _ _ hf hI (lv_sub hl [0, 1, 2] rfl)
          · have hf := b_if_t hc hf
            refine lv_iconst (v := 1) S.1 S.2.1 d_MD_readNames_105 (by decide) ?_
            refine lv_goto (tgt := 110) S.1 S.2.1 d_MD_readNames_106 (by decide) ?_
            exact w110 1 _ _ _ _ _ _ hf hI (lv_sub hl [0, 1, 2] rfl)
      refine lv_iload_n S.1 S.2.1 d_MD_readNames_2 rfl (lv_at hl 3 rfl) ?_
      refine lv_if_eq (tgt := 122) S.1 S.2.1 d_MD_readNames_3 (by decide) (fun hc => ?_) (fun hc => ?_)
      · have hf := b_if_t hc hf
        exact hret _ _ _ _ _ _ _ d_MD_readNames_122 hf hI
      · have hf := b_if_f hc hf
        refine lv_aload_n S.1 S.2.1 d_MD_readNames_6 rfl (lv_at hl 0 rfl) ?_
        obtain ⟨⟨fs13, hefs13⟩, hf⟩ := b_is_inv hf
        obtain ⟨v10, N11, hg12, hf⟩ := b_call_inv hf
        refine x_call hI (hm_mo hg12) (va_runV (As := []) (rest := []) S (c_MD_isWrong l hg12) (cwV 0 S.2.2.2.2 (gi_V wd_575 wd_576 wd_577 wd_564 wd_578) rfl rfl rfl (by decide +kernel) ⟨Nat.le_trans (Nat.le_of_ble_eq_true rfl) hRf.1, Nat.le_trans (Nat.le_of_ble_eq_true rfl) hRf.2⟩) ⟨hm_B.blind, va_recv hK (hI.1.one hefs13) (ci := 1) (q0 := 0) rfl rfl, fun U hU hW => ⟨rfl, hm_B.of hK hG hI hU hW⟩⟩ rfl rfl hl.1 rfl (lv_room (Nat.le_of_ble_eq_true rfl)) d_MD_readNames_7 (hx_fit hI hR (hm_mo hg12) (hm_mo hf))) (fun H locs cells slots hI => ?_)
        refine W.eq (g2 := F0 m 10 ls [.int v10]) rfl ?_
        refine lv_if_ne (tgt := 122) S.1 S.2.1 d_MD_readNames_10 (by decide) (fun hc => ?_) (fun hc => ?_)
        · have hf := b_if_f hc hf
          exact hret _ _ _ _ _ _ _ d_MD_readNames_122 hf hI
        · have hf := b_if_t hc hf
          refine lv_aload_n S.1 S.2.1 d_MD_readNames_13 rfl (lv_at hl 0 rfl) ?_
          obtain ⟨⟨fs17, hefs17⟩, hf⟩ := b_is_inv hf
          obtain ⟨v14, N15, hg16, hf⟩ := b_call_inv hf
          refine x_call hI (hm_mo hg16) (va_runV (As := []) (rest := []) S (c_MD_takeName l hg16) (cwV 0 S.2.2.2.2 (gi_V wd_642 wd_643 wd_644 wd_564 wd_645) rfl rfl rfl (by decide +kernel) ⟨Nat.le_trans (Nat.le_of_ble_eq_true rfl) hRf.1, Nat.le_trans (Nat.le_of_ble_eq_true rfl) hRf.2⟩) ⟨hm_B.blind, va_recv hK (hI.1.one hefs17) (ci := 1) (q0 := 0) rfl rfl, fun U hU hW => ⟨rfl, hm_B.of hK hG hI hU hW⟩⟩ rfl rfl hl.1 rfl (lv_room (Nat.le_of_ble_eq_true rfl)) d_MD_readNames_14 (hx_fit hI hR (hm_mo hg16) (hm_mo hf))) (fun H locs cells slots hI => ?_)
          refine W.eq (g2 := F0 m 17 ls [.int v14]) rfl ?_
          refine x_istore (lv2 := [(0, .ref h0), (1, .int p0), (2, .int p1), (3, .int x3)]) S d_MD_readNames_17 hl (by decide) [0, 1, 2, 3] rfl ⟨⟨(by decide : (0 : Nat) ≠ 4), fun h => absurd (show (0 : Nat) + 1 = 4 from h) (by decide)⟩, ⟨⟨(by decide : (1 : Nat) ≠ 4), fun h => absurd (show (1 : Nat) + 1 = 4 from h) (by decide)⟩, ⟨⟨(by decide : (2 : Nat) ≠ 4), fun h => absurd (show (2 : Nat) + 1 = 4 from h) (by decide)⟩, ⟨⟨(by decide : (3 : Nat) ≠ 4), fun _ => rfl⟩, trivial⟩⟩⟩⟩ (fun ls hl => ?_)
          refine lv_aload_n S.1 S.2.1 d_MD_readNames_19 rfl (lv_at hl 1 rfl) ?_
          refine x_getI (ci := 1) (k := 45) S hK hI (fun w h => List.mem_cons_of_mem _ (i_MD w h)) rfl (by decide) (List.mem_cons_of_mem _ wd_637) rfl d_MD_readNames_20 hf (fun v18 hf => ?_)
          refine x_istore (lv2 := [(4, .int v14), (0, .ref h0), (1, .int p0), (2, .int p1), (3, .int x3)]) S d_MD_readNames_23 hl (by decide) [0, 1, 2, 3, 4] rfl ⟨⟨(by decide : (4 : Nat) ≠ 5), fun _ => rfl⟩, ⟨⟨(by decide : (0 : Nat) ≠ 5), fun h => absurd (show (0 : Nat) + 1 = 5 from h) (by decide)⟩, ⟨⟨(by decide : (1 : Nat) ≠ 5), fun h => absurd (show (1 : Nat) + 1 = 5 from h) (by decide)⟩, ⟨⟨(by decide : (2 : Nat) ≠ 5), fun h => absurd (show (2 : Nat) + 1 = 5 from h) (by decide)⟩, ⟨⟨(by decide : (3 : Nat) ≠ 5), fun h => absurd (show (3 : Nat) + 1 = 5 from h) (by decide)⟩, trivial⟩⟩⟩⟩⟩ (fun ls hl => ?_)
          refine lv_aload_n S.1 S.2.1 d_MD_readNames_25 rfl (lv_at hl 2 rfl) ?_
          refine lv_iload S.1 S.2.1 d_MD_readNames_26 (lv_at hl 1 rfl) ?_
          refine lv_iload S.1 S.2.1 d_MD_readNames_28 (lv_at hl 0 rfl) ?_
          refine lv_iload_n S.1 S.2.1 d_MD_readNames_30 rfl (lv_at hl 3 rfl) ?_
          refine lv_iload_n S.1 S.2.1 d_MD_readNames_31 rfl (lv_at hl 4 rfl) ?_
          refine lv_ldc2 (v := (-1)) S.1 S.2.1 S.2.2.2.1 (S.2.2.2.2 _ (List.mem_cons_of_mem _ wd_662)) d_MD_readNames_32 ?_
          refine lv_ldc2 (v := (-1)) S.1 S.2.1 S.2.2.2.1 (S.2.2.2.2 _ (List.mem_cons_of_mem _ wd_662)) d_MD_readNames_35 ?_
          obtain ⟨⟨fs22, hefs22⟩, hf⟩ := b_is_inv hf
          obtain ⟨v19, N20, hg21, hf⟩ := b_call_inv hf
          refine x_call hI (hm_mo hg21) (va_runV (As := [.int v14, .int v18, .int p0, .int p1, .long (-1), .long (-1)]) (rest := []) S (c_MD_addRow l hg21) (cwV 6 S.2.2.2.2 (gi_V wd_650 wd_651 wd_652 wd_564 wd_653) rfl rfl rfl (by decide +kernel) ⟨Nat.le_trans (Nat.le_of_ble_eq_true rfl) hRf.1, Nat.le_trans (Nat.le_of_ble_eq_true rfl) hRf.2⟩) ⟨hm_B.blind, va_recv hK (hI.1.one hefs22) (ci := 1) (q0 := 0) rfl rfl, fun U hU hW => ⟨rfl, hm_B.of hK hG hI hU hW⟩⟩ rfl rfl hl.1 rfl (lv_room (Nat.le_of_ble_eq_true rfl)) d_MD_readNames_38 (hx_fit hI hR (hm_mo hg21) (hm_mo hf))) (fun H locs cells slots hI => ?_)
          refine W.eq (g2 := F0 m 41 ls [.int v19]) rfl ?_
          refine x_istore (lv2 := [(5, .int v18), (4, .int v14), (0, .ref h0), (1, .int p0), (2, .int p1), (3, .int x3)]) S d_MD_readNames_41 hl (by decide) [0, 1, 2, 3, 4, 5] rfl ⟨⟨(by decide : (5 : Nat) ≠ 6), fun _ => rfl⟩, ⟨⟨(by decide : (4 : Nat) ≠ 6), fun h => absurd (show (4 : Nat) + 1 = 6 from h) (by decide)⟩, ⟨⟨(by decide : (0 : Nat) ≠ 6), fun h => absurd (show (0 : Nat) + 1 = 6 from h) (by decide)⟩, ⟨⟨(by decide : (1 : Nat) ≠ 6), fun h => absurd (show (1 : Nat) + 1 = 6 from h) (by decide)⟩, ⟨⟨(by decide : (2 : Nat) ≠ 6), fun h => absurd (show (2 : Nat) + 1 = 6 from h) (by decide)⟩, ⟨⟨(by decide : (3 : Nat) ≠ 6), fun h => absurd (show (3 : Nat) + 1 = 6 from h) (by decide)⟩, trivial⟩⟩⟩⟩⟩⟩ (fun ls hl => ?_)
          refine lv_iload S.1 S.2.1 d_MD_readNames_43 (lv_at hl 0 rfl) ?_
          refine lv_if_eq (tgt := 89) S.1 S.2.1 d_MD_readNames_45 (by decide) (fun hc => ?_) (fun hc => ?_)
          · have hf := b_if_t hc hf
            exact w89  _ _ _ _ _ _ hf hI (lv_sub hl [3, 4, 5] rfl)
          · have hf := b_if_f hc hf
            refine lv_aload_n S.1 S.2.1 d_MD_readNames_48 rfl (lv_at hl 3 rfl) ?_
            refine x_getI (ci := 1) (k := 31) S hK hI (fun w h => List.mem_cons_of_mem _ (i_MD w h)) rfl (by decide) (List.mem_cons_of_mem _ wd_634) rfl d_MD_readNames_49 hf (fun v23 hf => ?_)
            refine lv_bipush (v := 10) S.1 S.2.1 d_MD_readNames_52 (by decide) ?_
            refine lv_icmp_ne (tgt := 89) S.1 S.2.1 d_MD_readNames_54 (by decide) (fun hc => ?_) (fun hc => ?_)
            · have hf := b_if_f hc hf
              exact w89  _ _ _ _ _ _ hf hI (lv_sub hl [3, 4, 5] rfl)
            · have hf := b_if_t hc hf
              refine lv_aload_n S.1 S.2.1 d_MD_readNames_57 rfl (lv_at hl 3 rfl) ?_
              refine x_getR (ci := 1) (k := 35) S hK hI (fun w h => List.mem_cons_of_mem _ (i_MD w h)) rfl (by decide) (List.mem_cons_of_mem _ wd_549) rfl d_MD_readNames_58 hf (fun r24 hf => ?_)
              refine lv_aload_n S.1 S.2.1 d_MD_readNames_61 rfl (lv_at hl 3 rfl) ?_
              refine x_getI (ci := 1) (k := 34) S hK hI (fun w h => List.mem_cons_of_mem _ (i_MD w h)) rfl (by decide) (List.mem_cons_of_mem _ wd_663) rfl d_MD_readNames_62 hf (fun v25 hf => ?_)
              refine lv_iload S.1 S.2.1 d_MD_readNames_65 (lv_at hl 2 rfl) ?_
              obtain ⟨a26, ea26, hg⟩ := b_nn_inv hf
              have hI0 := hI
              have hl0 := hl
              clear hf hI hl
              subst ea26
              have hf := hg
              have hI := hI0
              have hl := hl0
              clear hg hI0 hl0
              refine x_iast (t := 2) S hK hI rfl d_MD_readNames_67 hf (fun M H locs hf hI => ?_)
              refine lv_aload_n S.1 S.2.1 d_MD_readNames_68 rfl (lv_at hl 3 rfl) ?_
              refine x_getR (ci := 1) (k := 36) S hK hI (fun w h => List.mem_cons_of_mem _ (i_MD w h)) rfl (by decide) (List.mem_cons_of_mem _ wd_550) rfl d_MD_readNames_69 hf (fun r27 hf => ?_)
              refine lv_aload_n S.1 S.2.1 d_MD_readNames_72 rfl (lv_at hl 3 rfl) ?_
              refine x_getI (ci := 1) (k := 34) S hK hI (fun w h => List.mem_cons_of_mem _ (i_MD w h)) rfl (by decide) (List.mem_cons_of_mem _ wd_663) rfl d_MD_readNames_73 hf (fun v28 hf => ?_)
              refine lv_iload S.1 S.2.1 d_MD_readNames_76 (lv_at hl 1 rfl) ?_
              obtain ⟨a29, ea29, hg⟩ := b_nn_inv hf
              have hI0 := hI
              have hl0 := hl
              clear hf hI hl
              subst ea29
              have hf := hg
              have hI := hI0
              have hl := hl0
              clear hg hI0 hl0
              refine x_iast (t := 2) S hK hI rfl d_MD_readNames_78 hf (fun M H locs hf hI => ?_)
              refine lv_aload_n S.1 S.2.1 d_MD_readNames_79 rfl (lv_at hl 3 rfl) ?_
              refine lv_dup S.1 S.2.1 d_MD_readNames_80 rfl ?_
              refine x_getI (ci := 1) (k := 34) S hK hI (fun w h => List.mem_cons_of_mem _ (i_MD w h)) rfl (by decide) (List.mem_cons_of_mem _ wd_663) rfl d_MD_readNames_81 hf (fun v30 hf => ?_)
              refine lv_iconst (v := 1) S.1 S.2.1 d_MD_readNames_84 (by decide) ?_
              refine lv_iadd S.1 S.2.1 d_MD_readNames_85 ?_
              refine x_put (ci := 1) (k := 34) S hK hI (fun w h => List.mem_cons_of_mem _ (i_MD w h)) t_MD t_MD_ok n_MD rfl (by decide) (List.mem_cons_of_mem _ wd_663) rfl (Or.inl rfl) (by rfl) rfl d_MD_readNames_86 hf (fun M H locs hf hI => ?_)
              exact w89  _ _ _ _ _ _ hf hI (lv_sub hl [3, 4, 5] rfl)
  refine lv_iconst (v := 1) S.1 S.2.1 d_MD_readNames_0 (by decide) ?_
  refine x_istore_n (lv2 := [(0, .ref h0), (1, .int p0), (2, .int p1)]) S d_MD_readNames_1 rfl hl (by decide) [0, 1, 2] rfl ⟨⟨(by decide : (0 : Nat) ≠ 3), fun h => absurd (show (0 : Nat) + 1 = 3 from h) (by decide)⟩, ⟨⟨(by decide : (1 : Nat) ≠ 3), fun h => absurd (show (1 : Nat) + 1 = 3 from h) (by decide)⟩, ⟨⟨(by decide : (2 : Nat) ≠ 3), fun _ => rfl⟩, trivial⟩⟩⟩ (fun ls hl => ?_)
  exact w2 N 1 _ _ _ _ _ _ hf hI (lv_sub hl [1, 2, 3, 0] rfl)
set_option maxHeartbeats 4000000 in
set_option maxRecDepth 100000 in
theorem c_MD_readFeature (l : Launch) {D : va_G} {dA : Nat → ClassId} {aK aV : Nat → Nat} {z : Nat} {N : Nat} {h0 : Nat} {M : hM} {Z : Unit × hM} (hf : (f_MD_readFeature N h0 ).1 M = some Z) : Met l y_MD_readFeature w_MD_readFeature ({ frames := 4, cells := Z.2.2.1 - M.2.1, slots := Z.2.2.2 - M.2.2, locals := 89 }) (va_Pc [.ref h0] (hm_B D dA hCl (hTy dA) sT aK aV z M)) (hm_Q D dA hCl (hTy dA) sT aK aV z none Z.2) (Z.2.2.1 - M.2.1) (Z.2.2.2 - M.2.2) (fun q => z ≤ q) := by
  refine Met.ofW (cc := b_MD_readFeature) (maxL := 4) (ret := none) (by decide) rfl ?_
  intro p e s m args below meth c s₁ B hml hv
  obtain ⟨hav, hB⟩ := hv
  have S : CallFix p m c b_MD_readFeature 4 s args w_MD_readFeature R_MD := ⟨B.exec, B.bytes, hml, findClass_of_methodNamed B.named, atoms_spec (ws := w_MD_readFeature) B.pre⟩
  have hr : meth.sig.returnType = none := B.returns
  have hlocks := B.notSynchronized
  have hK := hB.2.2.1
  have hG := hB.2.2.2.2.2
  have hI := hm_I.start hB
  rw [← hB.2.1]
  generalize M.2.2 = k1 at hI ⊢
  refine W.eq (g2 := F0 m 0 ((lg_sl ([.ref h0]) ++ List.replicate (4 - (lg_sl ([.ref h0])).length) Slot.unset).toArray) []) (by rw [hav]; exact lg_entry_eq m ([.ref h0]) 4) ?_
  have hl := lv_entry ([.ref h0]) (n := 4) (Nat.le_of_ble_eq_true rfl)
  generalize (lg_sl ([.ref h0]) ++ List.replicate (4 - (lg_sl ([.ref h0])).length) Slot.unset).toArray = ls at hl ⊢
  simp only [lvA_nil, lvA_i, lvA_l, lvA_a, lvA_r, Nat.zero_add, Nat.reduceAdd] at hl
  have hret : ∀ (M : hM) (H : Heap) (locs : List Loc) (cells slots : Nat) (ls : Array Slot) (pc : Nat), decode b_MD_readFeature pc = .ok (.return_, 1) → (b_ret ()).1 M = some Z → hm_I D dA hCl z k1 s M H locs cells slots → W p l e (headSpec w_MD_readFeature { frames := 4, cells := Z.2.2.1 - s.heap.size, slots := Z.2.2.2 - k1, locals := 89 }).room s m args below meth c H locs cells slots (MQ below (hm_Q D dA hCl (hTy dA) sT aK aV z none Z.2) args s (Z.2.2.1 - s.heap.size) (Z.2.2.2 - k1) (fun q => z ≤ q)) (F0 m pc ls []) := fun M H locs cells slots ls pc hdg hf hI => x_retv S hK hG hI hr hlocks hdg hf
  have hR : Z.2.2.1 - s.heap.size ≤ (headSpec w_MD_readFeature { frames := 4, cells := Z.2.2.1 - s.heap.size, slots := Z.2.2.2 - k1, locals := 89 }).room.cells ∧ Z.2.2.2 - k1 ≤ (headSpec w_MD_readFeature { frames := 4, cells := Z.2.2.1 - s.heap.size, slots := Z.2.2.2 - k1, locals := 89 }).room.slots := ⟨Nat.le_refl _, Nat.le_refl _⟩
  have hRf : 4 ≤ (headSpec w_MD_readFeature { frames := 4, cells := Z.2.2.1 - s.heap.size, slots := Z.2.2.2 - k1, locals := 89 }).room.frames ∧ 89 ≤ (headSpec w_MD_readFeature { frames := 4, cells := Z.2.2.1 - s.heap.size, slots := Z.2.2.2 - k1, locals := 89 }).room.locals := ⟨Nat.le_refl _, Nat.le_refl _⟩
  generalize (headSpec w_MD_readFeature { frames := 4, cells := Z.2.2.1 - s.heap.size, slots := Z.2.2.2 - k1, locals := 89 }).room = R at hret hR hRf ⊢
  generalize (MQ below (hm_Q D dA hCl (hTy dA) sT aK aV z none Z.2) args s (Z.2.2.1 - s.heap.size) (Z.2.2.2 - k1) (fun q => z ≤ q)) = Q at hret ⊢
  rw [e_MD_readFeature] at hf
  refine lv_aload_n S.1 S.2.1 d_MD_readFeature_0 rfl (lv_at hl 0 rfl) ?_
  obtain ⟨⟨fs4, hefs4⟩, hf⟩ := b_is_inv hf
  obtain ⟨v1, N2, hg3, hf⟩ := b_call_inv hf
  refine x_call hI (hm_mo hg3) (va_runV (As := []) (rest := []) S (c_MD_takeName l hg3) (cwV 0 S.2.2.2.2 (gi_V wd_642 wd_643 wd_644 wd_564 wd_645) rfl rfl rfl (by decide +kernel) ⟨Nat.le_trans (Nat.le_of_ble_eq_true rfl) hRf.1, Nat.le_trans (Nat.le_of_ble_eq_true rfl) hRf.2⟩) ⟨hm_B.blind, va_recv hK (hI.1.one hefs4) (ci := 1) (q0 := 0) rfl rfl, fun U hU hW => ⟨rfl, hm_B.of hK hG hI hU hW⟩⟩ rfl rfl hl.1 rfl (lv_room (Nat.le_of_ble_eq_true rfl)) d_MD_readFeature_1 (hx_fit hI hR (hm_mo hg3) (hm_mo hf))) (fun H locs cells slots hI => ?_)
  refine W.eq (g2 := F0 m 4 ls [.int v1]) rfl ?_
  refine x_istore_n (lv2 := [(0, .ref h0)]) S d_MD_readFeature_4 rfl hl (by decide) [0] rfl ⟨⟨(by decide : (0 : Nat) ≠ 1), fun _ => rfl⟩, trivial⟩ (fun ls hl => ?_)
  refine lv_aload_n S.1 S.2.1 d_MD_readFeature_5 rfl (lv_at hl 1 rfl) ?_
  refine x_getI (ci := 1) (k := 45) S hK hI (fun w h => List.mem_cons_of_mem _ (i_MD w h)) rfl (by decide) (List.mem_cons_of_mem _ wd_637) rfl d_MD_readFeature_6 hf (fun v5 hf => ?_)
  refine x_istore_n (lv2 := [(1, .int v1), (0, .ref h0)]) S d_MD_readFeature_9 rfl hl (by decide) [0, 1] rfl ⟨⟨(by decide : (1 : Nat) ≠ 2), fun _ => rfl⟩, ⟨⟨(by decide : (0 : Nat) ≠ 2), fun h => absurd (show (0 : Nat) + 1 = 2 from h) (by decide)⟩, trivial⟩⟩ (fun ls hl => ?_)
  refine lv_aload_n S.1 S.2.1 d_MD_readFeature_10 rfl (lv_at hl 2 rfl) ?_
  refine lv_bipush (v := 58) S.1 S.2.1 d_MD_readFeature_11 (by decide) ?_
  obtain ⟨⟨fs9, hefs9⟩, hf⟩ := b_is_inv hf
  obtain ⟨r6, N7, hg8, hf⟩ := b_call_inv hf
  refine x_call hI (hm_mo hg8) (va_runV (As := [.int 58]) (rest := []) S (c_MD_sign l hg8) (cwV 1 S.2.2.2.2 (gi_V wd_598 wd_599 wd_600 wd_564 wd_601) rfl rfl rfl (by decide +kernel) ⟨Nat.le_trans (Nat.le_of_ble_eq_true rfl) hRf.1, Nat.le_trans (Nat.le_of_ble_eq_true rfl) hRf.2⟩) ⟨hm_B.blind, va_recv hK (hI.1.one hefs9) (ci := 1) (q0 := 0) rfl rfl, fun U hU hW => ⟨rfl, hm_B.of hK hG hI hU hW⟩⟩ rfl rfl hl.1 rfl (lv_room (Nat.le_of_ble_eq_true rfl)) d_MD_readFeature_13 (hx_fit hI hR (hm_mo hg8) (hm_mo hf))) (fun H locs cells slots hI => ?_)
  refine W.eq (g2 := F0 m 16 ls []) rfl ?_
  refine lv_aload_n S.1 S.2.1 d_MD_readFeature_16 rfl (lv_at hl 2 rfl) ?_
  obtain ⟨⟨fs13, hefs13⟩, hf⟩ := b_is_inv hf
  obtain ⟨v10, N11, hg12, hf⟩ := b_call_inv hf
  refine x_call hI (hm_mo hg12) (va_runV (As := []) (rest := []) S (c_MD_isWrong l hg12) (cwV 0 S.2.2.2.2 (gi_V wd_575 wd_576 wd_577 wd_564 wd_578) rfl rfl rfl (by decide +kernel) ⟨Nat.le_trans (Nat.le_of_ble_eq_true rfl) hRf.1, Nat.le_trans (Nat.le_of_ble_eq_true rfl) hRf.2⟩) ⟨hm_B.blind, va_recv hK (hI.1.one hefs13) (ci := 1) (q0 := 0) rfl rfl, fun U hU hW => ⟨rfl, hm_B.of hK hG hI hU hW⟩⟩ rfl rfl hl.1 rfl (lv_room (Nat.le_of_ble_eq_true rfl)) d_MD_readFeature_17 (hx_fit hI hR (hm_mo hg12) (hm_mo hf))) (fun H locs cells slots hI => ?_)
  refine W.eq (g2 := F0 m 20 ls [.int v10]) rfl ?_
  refine lv_if_eq (tgt := 24) S.1 S.2.1 d_MD_readFeature_20 (by decide) (fun hc => ?_) (fun hc => ?_)
  · have hf := b_if_t hc hf
    refine lv_sipush (v := 250) S.1 S.2.1 d_MD_readFeature_24 (by decide) ?_
    refine lv_aload_n S.1 S.2.1 d_MD_readFeature_27 rfl (lv_at hl 2 rfl) ?_
    refine x_getI (ci := 1) (k := 11) S hK hI (fun w h => List.mem_cons_of_mem _ (i_MD w h)) rfl (by decide) (List.mem_cons_of_mem _ wd_624) rfl d_MD_readFeature_28 hf (fun v14 hf => ?_)
    refine lv_imul S.1 S.2.1 d_MD_readFeature_31 ?_
    refine lv_aload_n S.1 S.2.1 d_MD_readFeature_32 rfl (lv_at hl 2 rfl) ?_
    refine x_getR (ci := 1) (k := 14) S hK hI (fun w h => List.mem_cons_of_mem _ (i_MD w h)) rfl (by decide) (List.mem_cons_of_mem _ wd_533) rfl d_MD_readFeature_33 hf (fun r15 hf => ?_)
    refine lv_aload_n S.1 S.2.1 d_MD_readFeature_36 rfl (lv_at hl 2 rfl) ?_
    refine x_getI (ci := 1) (k := 11) S hK hI (fun w h => List.mem_cons_of_mem _ (i_MD w h)) rfl (by decide) (List.mem_cons_of_mem _ wd_624) rfl d_MD_readFeature_37 hf (fun v16 hf => ?_)
    obtain ⟨a17, ea17, hg⟩ := b_nn_inv hf
    have hI0 := hI
    have hl0 := hl
    clear hf hI hl
    subst ea17
    have hf := hg
    have hI := hI0
    have hl := hl0
    clear hg hI0 hl0
    refine x_iald (t := 2) S hK hI rfl d_MD_readFeature_40 hf (fun v18 hf => ?_)
    refine lv_iadd S.1 S.2.1 d_MD_readFeature_41 ?_
    refine x_istore_n (lv2 := [(2, .int v5), (1, .int v1), (0, .ref h0)]) S d_MD_readFeature_42 rfl hl (by decide) [0, 1, 2] rfl ⟨⟨(by decide : (2 : Nat) ≠ 3), fun _ => rfl⟩, ⟨⟨(by decide : (1 : Nat) ≠ 3), fun h => absurd (show (1 : Nat) + 1 = 3 from h) (by decide)⟩, ⟨⟨(by decide : (0 : Nat) ≠ 3), fun h => absurd (show (0 : Nat) + 1 = 3 from h) (by decide)⟩, trivial⟩⟩⟩ (fun ls hl => ?_)
    refine lv_aload_n S.1 S.2.1 d_MD_readFeature_43 rfl (lv_at hl 3 rfl) ?_
    refine x_getR (ci := 1) (k := 18) S hK hI (fun w h => List.mem_cons_of_mem _ (i_MD w h)) rfl (by decide) (List.mem_cons_of_mem _ wd_538) rfl d_MD_readFeature_44 hf (fun r19 hf => ?_)
    refine lv_iload_n S.1 S.2.1 d_MD_readFeature_47 rfl (lv_at hl 0 rfl) ?_
    refine lv_iload_n S.1 S.2.1 d_MD_readFeature_48 rfl (lv_at hl 1 rfl) ?_
    obtain ⟨a20, ea20, hg⟩ := b_nn_inv hf
    have hI0 := hI
    have hl0 := hl
    clear hf hI hl
    subst ea20
    have hf := hg
    have hI := hI0
    have hl := hl0
    clear hg hI0 hl0
    refine x_iast (t := 2) S hK hI rfl d_MD_readFeature_49 hf (fun M H locs hf hI => ?_)
    refine lv_aload_n S.1 S.2.1 d_MD_readFeature_50 rfl (lv_at hl 3 rfl) ?_
    refine lv_iload_n S.1 S.2.1 d_MD_readFeature_51 rfl (lv_at hl 2 rfl) ?_
    refine lv_iload_n S.1 S.2.1 d_MD_readFeature_52 rfl (lv_at hl 1 rfl) ?_
    refine lv_aload_n S.1 S.2.1 d_MD_readFeature_53 rfl (lv_at hl 3 rfl) ?_
    refine x_getR (ci := 1) (k := 17) S hK hI (fun w h => List.mem_cons_of_mem _ (i_MD w h)) rfl (by decide) (List.mem_cons_of_mem _ wd_537) rfl d_MD_readFeature_54 hf (fun r21 hf => ?_)
    refine lv_bipush (v := 20) S.1 S.2.1 d_MD_readFeature_57 (by decide) ?_
    refine lv_iload_n S.1 S.2.1 d_MD_readFeature_59 rfl (lv_at hl 0 rfl) ?_
    refine lv_imul S.1 S.2.1 d_MD_readFeature_60 ?_
    obtain ⟨⟨fs25, hefs25⟩, hf⟩ := b_is_inv hf
    obtain ⟨r22, N23, hg24, hf⟩ := b_call_inv hf
    refine x_call hI (hm_mo hg24) (va_runV (As := [.int v1, .int v5, va_rf r21, .int (20 * ((250 * v14) + v18))]) (rest := []) S (c_MD_copyName l hg24) (cwV 4 S.2.2.2.2 (gi_V wd_625 wd_626 wd_627 wd_564 wd_628) rfl rfl rfl (by decide +kernel) ⟨Nat.le_trans (Nat.le_of_ble_eq_true rfl) hRf.1, Nat.le_trans (Nat.le_of_ble_eq_true rfl) hRf.2⟩) ⟨hm_B.blind, va_recv hK (hI.1.one hefs25) (ci := 1) (q0 := 0) rfl rfl, fun U hU hW => ⟨rfl, hm_B.of hK hG hI hU hW⟩⟩ rfl rfl hl.1 rfl (lv_room (Nat.le_of_ble_eq_true rfl)) d_MD_readFeature_61 (hx_fit hI hR (hm_mo hg24) (hm_mo hf))) (fun H locs cells slots hI => ?_)
    refine W.eq (g2 := F0 m 64 ls []) rfl ?_
    refine lv_aload_n S.1 S.2.1 d_MD_readFeature_64 rfl (lv_at hl 3 rfl) ?_
    refine x_getR (ci := 1) (k := 14) S hK hI (fun w h => List.mem_cons_of_mem _ (i_MD w h)) rfl (by decide) (List.mem_cons_of_mem _ wd_533) rfl d_MD_readFeature_65 hf (fun r26 hf => ?_)
    refine lv_aload_n S.1 S.2.1 d_MD_readFeature_68 rfl (lv_at hl 3 rfl) ?_
    refine x_getI (ci := 1) (k := 11) S hK hI (fun w h => List.mem_cons_of_mem _ (i_MD w h)) rfl (by decide) (List.mem_cons_of_mem _ wd_624) rfl d_MD_readFeature_69 hf (fun v27 hf => ?_)
    refine lv_dup2_11 S.1 S.2.1 d_MD_readFeature_72 rfl (rf_cat _) ?_
    obtain ⟨a28, ea28, hg⟩ := b_nn_inv hf
    have hI0 := hI
    have hl0 := hl
    clear hf hI hl
    subst ea28
    have hf := hg
    have hI := hI0
    have hl := hl0
    clear hg hI0 hl0
    refine x_iald (t := 2) S hK hI rfl d_MD_readFeature_73 hf (fun v29 hf => ?_)
    refine lv_iconst (v := 1) S.1 S.2.1 d_MD_readFeature_74 (by decide) ?_
    refine lv_iadd S.1 S.2.1 d_MD_readFeature_75 ?_
    refine x_iast (t := 2) S hK hI rfl d_MD_readFeature_76 hf (fun M H locs hf hI => ?_)
    refine lv_aload_n S.1 S.2.1 d_MD_readFeature_77 rfl (lv_at hl 3 rfl) ?_
    refine x_getI (ci := 1) (k := 5) S hK hI (fun w h => List.mem_cons_of_mem _ (i_MD w h)) rfl (by decide) (List.mem_cons_of_mem _ wd_572) rfl d_MD_readFeature_78 hf (fun v30 hf => ?_)
    refine lv_bipush (v := 59) S.1 S.2.1 d_MD_readFeature_81 (by decide) ?_
    refine lv_icmp_eq (tgt := 92) S.1 S.2.1 d_MD_readFeature_83 (by decide) (fun hc => ?_) (fun hc => ?_)
    · have hf := b_if_t hc hf
      exact hret _ _ _ _ _ _ _ d_MD_readFeature_92 hf hI
    · have hf := b_if_f hc hf
      refine lv_aload_n S.1 S.2.1 d_MD_readFeature_86 rfl (lv_at hl 3 rfl) ?_
      refine lv_iload_n S.1 S.2.1 d_MD_readFeature_87 rfl (lv_at hl 2 rfl) ?_
      refine lv_iload_n S.1 S.2.1 d_MD_readFeature_88 rfl (lv_at hl 1 rfl) ?_
      obtain ⟨⟨fs34, hefs34⟩, hf⟩ := b_is_inv hf
      obtain ⟨r31, N32, hg33, hf⟩ := b_call_inv hf
      refine x_call hI (hm_mo hg33) (va_runV (As := [.int v1, .int v5]) (rest := []) S (c_MD_readNames l hg33) (cwV 2 S.2.2.2.2 (gi_V wd_664 wd_665 wd_666 wd_564 wd_667) rfl rfl rfl (by decide +kernel) ⟨Nat.le_trans (Nat.le_of_ble_eq_true rfl) hRf.1, Nat.le_trans (Nat.le_of_ble_eq_true rfl) hRf.2⟩) ⟨hm_B.blind, va_recv hK (hI.1.one hefs34) (ci := 1) (q0 := 0) rfl rfl, fun U hU hW => ⟨rfl, hm_B.of hK hG hI hU hW⟩⟩ rfl rfl hl.1 rfl (lv_room (Nat.le_of_ble_eq_true rfl)) d_MD_readFeature_89 (hx_fit hI hR (hm_mo hg33) (hm_mo hf))) (fun H locs cells slots hI => ?_)
      refine W.eq (g2 := F0 m 92 ls []) rfl ?_
      exact hret _ _ _ _ _ _ _ d_MD_readFeature_92 hf hI
  · have hf := b_if_f hc hf
    exact hret _ _ _ _ _ _ _ d_MD_readFeature_23 hf hI
