set_option maxHeartbeats 4000000 in
set_option maxRecDepth 100000 in
theorem c_Pairing_countAlone (l : Launch) {D : va_G} {dA : Nat → ClassId} {aK aV : Nat → Nat} {z : Nat} {N : Nat} {h0 : Nat} {p0 : Option Nat} {p1 : Option Nat} {M : hM} {Z : Int32 × hM} (hf : (f_Pairing_countAlone N h0 p0 p1).1 M = some Z) : Met l y_Pairing_countAlone w_Pairing_countAlone ({ frames := 5, cells := Z.2.2.1 - M.2.1, slots := Z.2.2.2 - M.2.2, locals := 113 }) (va_Pc [.ref h0, va_rf p0, va_rf p1] (hm_B D dA hCl (hTy dA) sT aK aV z M)) (hm_Q D dA hCl (hTy dA) sT aK aV z (some (.int Z.1)) Z.2) (Z.2.2.1 - M.2.1) (Z.2.2.2 - M.2.2) (fun q => z ≤ q) := by
  refine Met.ofW (cc := b_Pairing_countAlone) (maxL := 7) (ret := (some .int)) (by decide) rfl ?_
  intro p e s m args below meth c s₁ B hml hv
  obtain ⟨hav, hB⟩ := hv
  have S : CallFix p m c b_Pairing_countAlone 7 s args w_Pairing_countAlone R_Pairing := ⟨B.exec, B.bytes, hml, findClass_of_methodNamed B.named, atoms_spec (ws := w_Pairing_countAlone) B.pre⟩
  have hr : meth.sig.returnType = (some .int) := B.returns
  have hlocks := B.notSynchronized
  have hK := hB.2.2.1
  have hG := hB.2.2.2.2.2
  have hI := hm_I.start hB
  rw [← hB.2.1]
  generalize M.2.2 = k1 at hI ⊢
  refine W.eq (g2 := F0 m 0 ((lg_sl ([.ref h0, va_rf p0, va_rf p1]) ++ List.replicate (7 - (lg_sl ([.ref h0, va_rf p0, va_rf p1])).length) Slot.unset).toArray) []) (by rw [hav]; exact lg_entry_eq m ([.ref h0, va_rf p0, va_rf p1]) 7) ?_
  have hl := lv_entry ([.ref h0, va_rf p0, va_rf p1]) (n := 7) (by cases p0 <;> cases p1 <;> exact Nat.le_of_ble_eq_true rfl)
  generalize (lg_sl ([.ref h0, va_rf p0, va_rf p1]) ++ List.replicate (7 - (lg_sl ([.ref h0, va_rf p0, va_rf p1])).length) Slot.unset).toArray = ls at hl ⊢
  simp only [lvA_nil, lvA_i, lvA_l, lvA_a, lvA_r, Nat.zero_add, Nat.reduceAdd] at hl
  have hret : ∀ (v : Int32) (M : hM) (H : Heap) (locs : List Loc) (cells slots : Nat) (ls : Array Slot) (pc : Nat), decode b_Pairing_countAlone pc = .ok (.ireturn, 1) → (b_ret v).1 M = some Z → hm_I D dA hCl z k1 s M H locs cells slots → W p l e (headSpec w_Pairing_countAlone { frames := 5, cells := Z.2.2.1 - s.heap.size, slots := Z.2.2.2 - k1, locals := 113 }).room s m args below meth c H locs cells slots (MQ below (hm_Q D dA hCl (hTy dA) sT aK aV z (some (.int Z.1)) Z.2) args s (Z.2.2.1 - s.heap.size) (Z.2.2.2 - k1) (fun q => z ≤ q)) (F0 m pc ls [.int v]) := fun v M H locs cells slots ls pc hdg hf hI => x_reti S hK hG hI hr hlocks hdg hf
  have hR : Z.2.2.1 - s.heap.size ≤ (headSpec w_Pairing_countAlone { frames := 5, cells := Z.2.2.1 - s.heap.size, slots := Z.2.2.2 - k1, locals := 113 }).room.cells ∧ Z.2.2.2 - k1 ≤ (headSpec w_Pairing_countAlone { frames := 5, cells := Z.2.2.1 - s.heap.size, slots := Z.2.2.2 - k1, locals := 113 }).room.slots := ⟨Nat.le_refl _, Nat.le_refl _⟩
  have hRf : 5 ≤ (headSpec w_Pairing_countAlone { frames := 5, cells := Z.2.2.1 - s.heap.size, slots := Z.2.2.2 - k1, locals := 113 }).room.frames ∧ 113 ≤ (headSpec w_Pairing_countAlone { frames := 5, cells := Z.2.2.1 - s.heap.size, slots := Z.2.2.2 - k1, locals := 113 }).room.locals := ⟨Nat.le_refl _, Nat.le_refl _⟩
  generalize (headSpec w_Pairing_countAlone { frames := 5, cells := Z.2.2.1 - s.heap.size, slots := Z.2.2.2 - k1, locals := 113 }).room = R at hret hR hRf ⊢
  generalize (MQ below (hm_Q D dA hCl (hTy dA) sT aK aV z (some (.int Z.1)) Z.2) args s (Z.2.2.1 - s.heap.size) (Z.2.2.2 - k1) (fun q => z ≤ q)) = Q at hret ⊢
  rw [e_Pairing_countAlone] at hf
  have w22 : ∀ (n : Nat) (x3 : Int32) (x4 : Int32) (x5 : Int32) (M : hM) (H : Heap) (locs : List Loc) (ls : Array Slot) (cells slots : Nat), (f_Pairing_countAlone_22 N h0 p0 p1  n x3 x4 x5).1 M = some Z → hm_I D dA hCl z k1 s M H locs cells slots → lv_has ls 7 [(0, .ref h0), (1, va_rf p0), (2, va_rf p1), (3, .int x3), (4, .int x4), (5, .int x5)] → W p l e R s m args below meth c H locs cells slots Q (F0 m 22 ls []) := by
    intro n
    induction n with
    | zero => intro x3 x4 x5 M H locs ls cells slots hf hI hl; cases hf
    | succ n22 ih22 =>
      intro x3 x4 x5 M H locs ls cells slots hf hI hl
      rw [e_Pairing_countAlone_22] at hf
      have w51 : ∀ (n : Nat) (x3 : Int32) (x4 : Int32) (x5 : Int32) (x6 : Option Nat) (M : hM) (H : Heap) (locs : List Loc) (ls : Array Slot) (cells slots : Nat), (f_Pairing_countAlone_51 N h0 p0 p1  ((f_Pairing_countAlone_22 N h0 p0 p1 n22)) n x3 x4 x5 x6).1 M = some Z → hm_I D dA hCl z k1 s M H locs cells slots → lv_has ls 7 [(0, .ref h0), (1, va_rf p0), (2, va_rf p1), (3, .int x3), (4, .int x4), (5, .int x5), (6, va_rf x6)] → W p l e R s m args below meth c H locs cells slots Q (F0 m 51 ls []) := by
        intro n
        induction n with
        | zero => intro x3 x4 x5 x6 M H locs ls cells slots hf hI hl; cases hf
        | succ n51 ih51 =>
          intro x3 x4 x5 x6 M H locs ls cells slots hf hI hl
          rw [e_Pairing_countAlone_51] at hf
          obtain ⟨J82, eJ82, hf⟩ := b_let_inv hf
          have w82 : ∀ (x3 : Int32) (x4 : Int32) (x5 : Int32) (x6 : Option Nat) (M : hM) (H : Heap) (locs : List Loc) (ls : Array Slot) (cells slots : Nat), (J82 x3 x4 x5 x6).1 M = some Z → hm_I D dA hCl z k1 s M H locs cells slots → lv_has ls 7 [(0, .ref h0), (1, va_rf p0), (2, va_rf p1), (3, .int x3), (4, .int x4), (5, .int x5), (6, va_rf x6)] → W p l e R s m args below meth c H locs cells slots Q (F0 m 82 ls []) := by
            intro x3 x4 x5 x6 M H locs ls cells slots hf hI hl
            rw [eJ82] at hf
            obtain ⟨J108, eJ108, hf⟩ := b_let_inv hf
            have w108 : ∀ (x3 : Int32) (x4 : Int32) (x5 : Int32) (M : hM) (H : Heap) (locs : List Loc) (ls : Array Slot) (cells slots : Nat), (J108 x3 x4 x5).1 M = some Z → hm_I D dA hCl z k1 s M H locs cells slots → lv_has ls 7 [(0, .ref h0), (1, va_rf p0), (2, va_rf p1), (3, .int x3), (4, .int x4), (5, .int x5)] → W p l e R s m args below meth c H locs cells slots Q (F0 m 108 ls []) := by
              intro x3 x4 x5 M H locs ls cells slots hf hI hl
              rw [eJ108] at hf
              refine x_iinc (v := 1) (lv2 := [(0, .ref h0), (1, va_rf p0), (2, va_rf p1), (3, .int x3), (4, .int x4)]) S d_Pairing_countAlone_108 hl 5 rfl (by decide) (by decide) [0, 1, 2, 3, 4] rfl ⟨⟨(by decide : (0 : Nat) ≠ 5), fun h => absurd (show (0 : Nat) + 1 = 5 from h) (by decide)⟩, ⟨⟨(by decide : (1 : Nat) ≠ 5), fun h => absurd (show (1 : Nat) + 1 = 5 from h) (by decide)⟩, ⟨⟨(by decide : (2 : Nat) ≠ 5), fun h => absurd (show (2 : Nat) + 1 = 5 from h) (by decide)⟩, ⟨⟨(by decide : (3 : Nat) ≠ 5), fun h => absurd (show (3 : Nat) + 1 = 5 from h) (by decide)⟩, ⟨⟨(by decide : (4 : Nat) ≠ 5), fun _ => rfl⟩, trivial⟩⟩⟩⟩⟩ (fun ls hl => ?_)
              refine lv_goto (tgt := 22) S.1 S.2.1 d_Pairing_countAlone_111 (by decide) ?_
              exact ih22 x3 x4 (x5 + 1) _ _ _ _ _ _ hf hI (lv_sub hl [1, 2, 3, 4, 5, 0] rfl)
            refine lv_aload_n S.1 S.2.1 d_Pairing_countAlone_82 rfl (lv_at hl 0 rfl) ?_
            refine lv_iload S.1 S.2.1 d_Pairing_countAlone_83 (lv_at hl 4 rfl) ?_
            refine x_aload (r := x6) S d_Pairing_countAlone_85 (lv_at hl 6 rfl) ?_
            refine x_aload_n (r := p1) S d_Pairing_countAlone_87 rfl (lv_at hl 2 rfl) ?_
            obtain ⟨a1, ea1, hg⟩ := b_nn_inv hf
            have hI0 := hI
            have hl0 := hl
            clear hf hI hl
            subst ea1
            have hf := hg
            have hI := hI0
            have hl := hl0
            clear hg hI0 hl0
            refine x_getR (ci := 3) (k := 3) S hK hI (fun w h => List.mem_cons_of_mem _ (i_Pack w h)) rfl (by decide) (List.mem_cons_of_mem _ wd_391) rfl d_Pairing_countAlone_88 hf (fun r2 hf => ?_)
            obtain ⟨⟨fs6, hefs6⟩, hf⟩ := b_is_inv hf
            obtain ⟨v3, N4, hg5, hf⟩ := b_call_inv hf
            refine x_call hI (hm_mo hg5) (va_runV (As := [.int x4, va_rf x6, va_rf r2]) (rest := []) S (c_Pairing_pairFrom l hg5) (cwV 3 S.2.2.2.2 (gi_V wd_398 wd_399 wd_400 wd_39 wd_401) rfl rfl rfl (by decide +kernel) ⟨Nat.le_trans (Nat.le_of_ble_eq_true rfl) hRf.1, Nat.le_trans (Nat.le_of_ble_eq_true rfl) hRf.2⟩) ⟨hm_B.blind, va_recv hK (hI.1.one hefs6) (ci := 4) (q0 := 0) rfl rfl, fun U hU hW => ⟨rfl, hm_B.of hK hG hI hU hW⟩⟩ rfl rfl hl.1 rfl (lv_room (Nat.le_of_ble_eq_true rfl)) d_Pairing_countAlone_91 (hx_fit hI hR (hm_mo hg5) (hm_mo hf))) (fun H locs cells slots hI => ?_)
            refine W.eq (g2 := F0 m 94 ls [.int v3]) rfl ?_
            refine lv_if_eq (tgt := 108) S.1 S.2.1 d_Pairing_countAlone_94 (by decide) (fun hc => ?_) (fun hc => ?_)
            · have hf := b_if_t hc hf
              exact w108 x3 x4 x5 _ _ _ _ _ _ hf hI (lv_sub hl [0, 1, 2, 3, 4, 5] rfl)
            · have hf := b_if_f hc hf
              refine lv_aload_n S.1 S.2.1 d_Pairing_countAlone_97 rfl (lv_at hl 0 rfl) ?_
              refine x_getR (ci := 4) (k := 0) S hK hI (fun w h => List.mem_cons_of_mem _ (i_Pairing w h)) rfl (by decide) (List.mem_cons_of_mem _ wd_42) rfl d_Pairing_countAlone_98 hf (fun r7 hf => ?_)
              refine lv_iload S.1 S.2.1 d_Pairing_countAlone_101 (lv_at hl 5 rfl) ?_
              refine lv_iconst (v := 1) S.1 S.2.1 d_Pairing_countAlone_103 (by decide) ?_
              obtain ⟨a8, ea8, hg⟩ := b_nn_inv hf
              have hI0 := hI
              have hl0 := hl
              clear hf hI hl
              subst ea8
              have hf := hg
              have hI := hI0
              have hl := hl0
              clear hg hI0 hl0
              refine x_zast (t := 5) S hK hI rfl d_Pairing_countAlone_104 hf (fun M H locs hf hI => ?_)
              refine x_iinc (v := 1) (lv2 := [(0, .ref h0), (1, va_rf p0), (2, .ref a1), (4, .int x4), (5, .int x5), (6, va_rf x6)]) S d_Pairing_countAlone_105 hl 3 rfl (by decide) (by decide) [0, 1, 2, 4, 5, 6] rfl ⟨⟨(by decide : (0 : Nat) ≠ 3), fun h => absurd (show (0 : Nat) + 1 = 3 from h) (by decide)⟩, ⟨⟨(by decide : (1 : Nat) ≠ 3), fun h => absurd (show (1 : Nat) + 1 = 3 from h) (by decide)⟩, ⟨⟨(by decide : (2 : Nat) ≠ 3), fun _ => rfl⟩, ⟨⟨(by decide : (4 : Nat) ≠ 3), fun h => absurd (show (4 : Nat) + 1 = 3 from h) (by decide)⟩, ⟨⟨(by decide : (5 : Nat) ≠ 3), fun h => absurd (show (5 : Nat) + 1 = 3 from h) (by decide)⟩, ⟨⟨(by decide : (6 : Nat) ≠ 3), fun h => absurd (show (6 : Nat) + 1 = 3 from h) (by decide)⟩, trivial⟩⟩⟩⟩⟩⟩ (fun ls hl => ?_)
              exact w108 (x3 + 1) x4 x5 _ _ _ _ _ _ hf hI (lv_sub hl [1, 2, 3, 0, 4, 5] rfl)
          refine lv_iload S.1 S.2.1 d_Pairing_countAlone_51 (lv_at hl 4 rfl) ?_
          refine x_aload_n (r := p1) S d_Pairing_countAlone_53 rfl (lv_at hl 2 rfl) ?_
          obtain ⟨a9, ea9, hg⟩ := b_nn_inv hf
          have hI0 := hI
          have hl0 := hl
          clear hf hI hl
          subst ea9
          have hf := hg
          have hI := hI0
          have hl := hl0
          clear hg hI0 hl0
          refine x_getR (ci := 3) (k := 3) S hK hI (fun w h => List.mem_cons_of_mem _ (i_Pack w h)) rfl (by decide) (List.mem_cons_of_mem _ wd_391) rfl d_Pairing_countAlone_54 hf (fun r10 hf => ?_)
          obtain ⟨a11, ea11, hg⟩ := b_nn_inv hf
          have hI0 := hI
          have hl0 := hl
          clear hf hI hl
          subst ea11
          have hf := hg
          have hI := hI0
          have hl := hl0
          clear hg hI0 hl0
          refine x_len (t := 1) S hK hI rfl d_Pairing_countAlone_57 hf (fun v12 hf => ?_)
          refine lv_icmp_ge (tgt := 82) S.1 S.2.1 d_Pairing_countAlone_58 (by decide) (fun hc => ?_) (fun hc => ?_)
          · have hf := b_if_t hc hf
            exact w82 x3 x4 x5 x6 _ _ _ _ _ _ hf hI (lv_sub hl [0, 1, 2, 3, 4, 5, 6] rfl)
          · have hf := b_if_f hc hf
            refine lv_aload_n S.1 S.2.1 d_Pairing_countAlone_61 rfl (lv_at hl 2 rfl) ?_
            refine x_getR (ci := 3) (k := 3) S hK hI (fun w h => List.mem_cons_of_mem _ (i_Pack w h)) rfl (by decide) (List.mem_cons_of_mem _ wd_391) rfl d_Pairing_countAlone_62 hf (fun r13 hf => ?_)
            refine lv_iload S.1 S.2.1 d_Pairing_countAlone_65 (lv_at hl 4 rfl) ?_
            obtain ⟨a14, ea14, hg⟩ := b_nn_inv hf
            have hI0 := hI
            have hl0 := hl
            clear hf hI hl
            subst ea14
            have hf := hg
            have hI := hI0
            have hl := hl0
            clear hg hI0 hl0
            refine x_aald (t := 1) S hK hI rfl d_Pairing_countAlone_67 hf (fun r15 hf => ?_)
            refine x_aload (r := x6) S d_Pairing_countAlone_68 (lv_at hl 6 rfl) ?_
            obtain ⟨a16, ea16, hg⟩ := b_nn_inv hf
            have hI0 := hI
            have hl0 := hl
            clear hf hI hl
            subst ea16
            have hf := hg
            have hI := hI0
            have hl := hl0
            clear hg hI0 hl0
            obtain ⟨⟨fs20, hefs20⟩, hf⟩ := b_is_inv hf
            obtain ⟨v17, N18, hg19, hf⟩ := b_call_inv hf
            refine x_call hI (hm_mo hg19) (va_runV (As := [va_rf x6]) (rest := []) S (c_Row_order l hg19) (cwV 1 S.2.2.2.2 (gi_V wd_392 wd_319 wd_320 wd_157 wd_321) rfl rfl rfl (by decide +kernel) ⟨Nat.le_trans (Nat.le_of_ble_eq_true rfl) hRf.1, Nat.le_trans (Nat.le_of_ble_eq_true rfl) hRf.2⟩) ⟨hm_B.blind, va_recv hK (hI.1.one hefs20) (ci := 7) (q0 := 0) rfl rfl, fun U hU hW => ⟨rfl, hm_B.of hK hG hI hU hW⟩⟩ rfl rfl hl.1 rfl (lv_room (Nat.le_of_ble_eq_true rfl)) d_Pairing_countAlone_70 (hx_fit hI hR (hm_mo hg19) (hm_mo hf))) (fun H locs cells slots hI => ?_)
            refine W.eq (g2 := F0 m 73 ls [.int v17]) rfl ?_
            refine lv_if_ge (tgt := 82) S.1 S.2.1 d_Pairing_countAlone_73 (by decide) (fun hc => ?_) (fun hc => ?_)
            · have hf := b_if_t hc hf
              exact w82 x3 x4 x5 x6 _ _ _ _ _ _ hf hI (lv_sub hl [0, 1, 2, 3, 4, 5, 6] rfl)
            · have hf := b_if_f hc hf
              refine x_iinc (v := 1) (lv2 := [(0, .ref h0), (1, va_rf p0), (2, .ref a9), (3, .int x3), (5, .int x5), (6, va_rf x6)]) S d_Pairing_countAlone_76 hl 4 rfl (by decide) (by decide) [0, 1, 2, 3, 5, 6] rfl ⟨⟨(by decide : (0 : Nat) ≠ 4), fun h => absurd (show (0 : Nat) + 1 = 4 from h) (by decide)⟩, ⟨⟨(by decide : (1 : Nat) ≠ 4), fun h => absurd (show (1 : Nat) + 1 = 4 from h) (by decide)⟩, ⟨⟨(by decide : (2 : Nat) ≠ 4), fun h => absurd (show (2 : Nat) + 1 = 4 from h) (by decide)⟩, ⟨⟨(by decide : (3 : Nat) ≠ 4), fun _ => rfl⟩, ⟨⟨(by decide : (5 : Nat) ≠ 4), fun h => absurd (show (5 : Nat) + 1 = 4 from h) (by decide)⟩, ⟨⟨(by decide : (6 : Nat) ≠ 4), fun h => absurd (show (6 : Nat) + 1 = 4 from h) (by decide)⟩, trivial⟩⟩⟩⟩⟩⟩ (fun ls hl => ?_)
              refine lv_goto (tgt := 51) S.1 S.2.1 d_Pairing_countAlone_79 (by decide) ?_
              exact ih51 x3 (x4 + 1) x5 x6 _ _ _ _ _ _ hf hI (lv_sub hl [1, 2, 3, 4, 0, 5, 6] rfl)
      obtain ⟨J114, eJ114, hf⟩ := b_let_inv hf
      have w114 : ∀ (x3 : Int32) (M : hM) (H : Heap) (locs : List Loc) (ls : Array Slot) (cells slots : Nat), (J114 x3).1 M = some Z → hm_I D dA hCl z k1 s M H locs cells slots → lv_has ls 7 [(1, va_rf p0), (2, va_rf p1), (3, .int x3)] → W p l e R s m args below meth c H locs cells slots Q (F0 m 114 ls []) := by
        intro x3 M H locs ls cells slots hf hI hl
        rw [eJ114] at hf
        refine x_aload_n (r := p0) S d_Pairing_countAlone_114 rfl (lv_at hl 0 rfl) ?_
        obtain ⟨a21, ea21, hg⟩ := b_nn_inv hf
        have hI0 := hI
        have hl0 := hl
        clear hf hI hl
        subst ea21
        have hf := hg
        have hI := hI0
        have hl := hl0
        clear hg hI0 hl0
        refine x_getR (ci := 3) (k := 3) S hK hI (fun w h => List.mem_cons_of_mem _ (i_Pack w h)) rfl (by decide) (List.mem_cons_of_mem _ wd_391) rfl d_Pairing_countAlone_115 hf (fun r22 hf => ?_)
        obtain ⟨a23, ea23, hg⟩ := b_nn_inv hf
        have hI0 := hI
        have hl0 := hl
        clear hf hI hl
        subst ea23
        have hf := hg
        have hI := hI0
        have hl := hl0
        clear hg hI0 hl0
        refine x_len (t := 1) S hK hI rfl d_Pairing_countAlone_118 hf (fun v24 hf => ?_)
        refine x_aload_n (r := p1) S d_Pairing_countAlone_119 rfl (lv_at hl 1 rfl) ?_
        obtain ⟨a25, ea25, hg⟩ := b_nn_inv hf
        have hI0 := hI
        have hl0 := hl
        clear hf hI hl
        subst ea25
        have hf := hg
        have hI := hI0
        have hl := hl0
        clear hg hI0 hl0
        refine x_getR (ci := 3) (k := 3) S hK hI (fun w h => List.mem_cons_of_mem _ (i_Pack w h)) rfl (by decide) (List.mem_cons_of_mem _ wd_391) rfl d_Pairing_countAlone_120 hf (fun r26 hf => ?_)
        obtain ⟨a27, ea27, hg⟩ := b_nn_inv hf
        have hI0 := hI
        have hl0 := hl
        clear hf hI hl
        subst ea27
        have hf := hg
        have hI := hI0
        have hl := hl0
        clear hg hI0 hl0
        refine x_len (t := 1) S hK hI rfl d_Pairing_countAlone_123 hf (fun v28 hf => ?_)
        refine lv_iadd S.1 S.2.1 d_Pairing_countAlone_124 ?_
        refine lv_iconst (v := 2) S.1 S.2.1 d_Pairing_countAlone_125 (by decide) ?_
        refine lv_iload_n S.1 S.2.1 d_Pairing_countAlone_126 rfl (lv_at hl 2 rfl) ?_
        refine lv_imul S.1 S.2.1 d_Pairing_countAlone_127 ?_
        refine lv_isub S.1 S.2.1 d_Pairing_countAlone_128 ?_
        exact hret _ _ _ _ _ _ _ _ d_Pairing_countAlone_129 hf hI
      refine lv_iload S.1 S.2.1 d_Pairing_countAlone_22 (lv_at hl 5 rfl) ?_
      refine x_aload_n (r := p0) S d_Pairing_countAlone_24 rfl (lv_at hl 1 rfl) ?_
      obtain ⟨a29, ea29, hg⟩ := b_nn_inv hf
      have hI0 := hI
      have hl0 := hl
      clear hf hI hl
      subst ea29
      have hf := hg
      have hI := hI0
      have hl := hl0
      clear hg hI0 hl0
      refine x_getR (ci := 3) (k := 3) S hK hI (fun w h => List.mem_cons_of_mem _ (i_Pack w h)) rfl (by decide) (List.mem_cons_of_mem _ wd_391) rfl d_Pairing_countAlone_25 hf (fun r30 hf => ?_)
      obtain ⟨a31, ea31, hg⟩ := b_nn_inv hf
      have hI0 := hI
      have hl0 := hl
      clear hf hI hl
      subst ea31
      have hf := hg
      have hI := hI0
      have hl := hl0
      clear hg hI0 hl0
      refine x_len (t := 1) S hK hI rfl d_Pairing_countAlone_28 hf (fun v32 hf => ?_)
      refine lv_icmp_ge (tgt := 114) S.1 S.2.1 d_Pairing_countAlone_29 (by decide) (fun hc => ?_) (fun hc => ?_)
      · have hf := b_if_t hc hf
        exact w114 x3 _ _ _ _ _ _ hf hI (lv_sub hl [1, 2, 3] rfl)
      · have hf := b_if_f hc hf
        refine lv_iload S.1 S.2.1 d_Pairing_countAlone_32 (lv_at hl 5 rfl) ?_
        refine lv_aload_n S.1 S.2.1 d_Pairing_countAlone_34 rfl (lv_at hl 0 rfl) ?_
        refine x_getR (ci := 4) (k := 0) S hK hI (fun w h => List.mem_cons_of_mem _ (i_Pairing w h)) rfl (by decide) (List.mem_cons_of_mem _ wd_42) rfl d_Pairing_countAlone_35 hf (fun r33 hf => ?_)
        obtain ⟨a34, ea34, hg⟩ := b_nn_inv hf
        have hI0 := hI
        have hl0 := hl
        clear hf hI hl
        subst ea34
        have hf := hg
        have hI := hI0
        have hl := hl0
        clear hg hI0 hl0
        refine x_len (t := 5) S hK hI rfl d_Pairing_countAlone_38 hf (fun v35 hf => ?_)
        refine lv_icmp_ge (tgt := 114) S.1 S.2.1 d_Pairing_countAlone_39 (by decide) (fun hc => ?_) (fun hc => ?_)
        · have hf := b_if_t hc hf
          exact w114 x3 _ _ _ _ _ _ hf hI (lv_sub hl [1, 2, 3] rfl)
        · have hf := b_if_f hc hf
          refine lv_aload_n S.1 S.2.1 d_Pairing_countAlone_42 rfl (lv_at hl 1 rfl) ?_
          refine x_getR (ci := 3) (k := 3) S hK hI (fun w h => List.mem_cons_of_mem _ (i_Pack w h)) rfl (by decide) (List.mem_cons_of_mem _ wd_391) rfl d_Pairing_countAlone_43 hf (fun r36 hf => ?_)
          refine lv_iload S.1 S.2.1 d_Pairing_countAlone_46 (lv_at hl 5 rfl) ?_
          obtain ⟨a37, ea37, hg⟩ := b_nn_inv hf
          have hI0 := hI
          have hl0 := hl
          clear hf hI hl
          subst ea37
          have hf := hg
          have hI := hI0
          have hl := hl0
          clear hg hI0 hl0
          refine x_aald (t := 1) S hK hI rfl d_Pairing_countAlone_48 hf (fun r38 hf => ?_)
          refine x_astore (r := r38) (lv2 := [(0, .ref h0), (1, .ref a29), (2, va_rf p1), (3, .int x3), (4, .int x4), (5, .int x5)]) S d_Pairing_countAlone_49 hl (by decide) [0, 1, 2, 3, 4, 5] rfl ⟨⟨(by decide : (0 : Nat) ≠ 6), fun h => absurd (show (0 : Nat) + 1 = 6 from h) (by decide)⟩, ⟨⟨(by decide : (1 : Nat) ≠ 6), fun h => absurd (show (1 : Nat) + 1 = 6 from h) (by decide)⟩, ⟨⟨(by decide : (2 : Nat) ≠ 6), fun h => absurd (show (2 : Nat) + 1 = 6 from h) (by decide)⟩, ⟨⟨(by decide : (3 : Nat) ≠ 6), fun h => absurd (show (3 : Nat) + 1 = 6 from h) (by decide)⟩, ⟨⟨(by decide : (4 : Nat) ≠ 6), fun h => absurd (show (4 : Nat) + 1 = 6 from h) (by decide)⟩, ⟨⟨(by decide : (5 : Nat) ≠ 6), fun _ => rfl⟩, trivial⟩⟩⟩⟩⟩⟩ (fun ls hl => ?_)
          exact w51 N x3 x4 x5 r38 _ _ _ _ _ _ hf hI (lv_sub hl [1, 2, 3, 4, 5, 6, 0] rfl)
  refine lv_aload_n S.1 S.2.1 d_Pairing_countAlone_0 rfl (lv_at hl 0 rfl) ?_
  refine x_getR (ci := 4) (k := 0) S hK hI (fun w h => List.mem_cons_of_mem _ (i_Pairing w h)) rfl (by decide) (List.mem_cons_of_mem _ wd_42) rfl d_Pairing_countAlone_1 hf (fun r39 hf => ?_)
  obtain ⟨r40, N41, hg42, hf⟩ := b_call_inv hf
  refine x_call hI (hm_mo hg42) (va_runS (As := [va_rf r39]) (rest := []) S (c_Pairing_clear l hg42) (va_cwS 1 S.2.2.2.2 (gi_S wd_402 wd_403 wd_39 wd_404) rfl rfl rfl (by decide +kernel) ⟨Nat.le_trans (Nat.le_of_ble_eq_true rfl) hRf.1, Nat.le_trans (Nat.le_of_ble_eq_true rfl) hRf.2⟩) ⟨hm_B.blind, fun U hU hW => ⟨rfl, hm_B.of hK hG hI hU hW⟩⟩ rfl rfl hl.1 rfl (lv_room (Nat.le_of_ble_eq_true rfl)) d_Pairing_countAlone_4 (hx_fit hI hR (hm_mo hg42) (hm_mo hf))) (fun H locs cells slots hI => ?_)
  refine W.eq (g2 := F0 m 7 ls []) rfl ?_
  refine lv_aload_n S.1 S.2.1 d_Pairing_countAlone_7 rfl (lv_at hl 0 rfl) ?_
  refine x_getR (ci := 4) (k := 1) S hK hI (fun w h => List.mem_cons_of_mem _ (i_Pairing w h)) rfl (by decide) (List.mem_cons_of_mem _ wd_43) rfl d_Pairing_countAlone_8 hf (fun r43 hf => ?_)
  obtain ⟨r44, N45, hg46, hf⟩ := b_call_inv hf
  refine x_call hI (hm_mo hg46) (va_runS (As := [va_rf r43]) (rest := []) S (c_Pairing_clear l hg46) (va_cwS 1 S.2.2.2.2 (gi_S wd_402 wd_403 wd_39 wd_404) rfl rfl rfl (by decide +kernel) ⟨Nat.le_trans (Nat.le_of_ble_eq_true rfl) hRf.1, Nat.le_trans (Nat.le_of_ble_eq_true rfl) hRf.2⟩) ⟨hm_B.blind, fun U hU hW => ⟨rfl, hm_B.of hK hG hI hU hW⟩⟩ rfl rfl hl.1 rfl (lv_room (Nat.le_of_ble_eq_true rfl)) d_Pairing_countAlone_11 (hx_fit hI hR (hm_mo hg46) (hm_mo hf))) (fun H locs cells slots hI => ?_)
  refine W.eq (g2 := F0 m 14 ls []) rfl ?_
  refine lv_iconst (v := 0) S.1 S.2.1 d_Pairing_countAlone_14 (by decide) ?_
  refine x_istore_n (lv2 := [(0, .ref h0), (1, va_rf p0), (2, va_rf p1)]) S d_Pairing_countAlone_15 rfl hl (by decide) [0, 1, 2] rfl ⟨⟨(by decide : (0 : Nat) ≠ 3), fun h => absurd (show (0 : Nat) + 1 = 3 from h) (by decide)⟩, ⟨⟨(by decide : (1 : Nat) ≠ 3), fun h => absurd (show (1 : Nat) + 1 = 3 from h) (by decide)⟩, ⟨⟨(by decide : (2 : Nat) ≠ 3), fun _ => rf_cat _⟩, trivial⟩⟩⟩ (fun ls hl => ?_)
  refine lv_iconst (v := 0) S.1 S.2.1 d_Pairing_countAlone_16 (by decide) ?_
  refine x_istore (lv2 := [(3, .int 0), (0, .ref h0), (1, va_rf p0), (2, va_rf p1)]) S d_Pairing_countAlone_17 hl (by decide) [0, 1, 2, 3] rfl ⟨⟨(by decide : (3 : Nat) ≠ 4), fun _ => rfl⟩, ⟨⟨(by decide : (0 : Nat) ≠ 4), fun h => absurd (show (0 : Nat) + 1 = 4 from h) (by decide)⟩, ⟨⟨(by decide : (1 : Nat) ≠ 4), fun h => absurd (show (1 : Nat) + 1 = 4 from h) (by decide)⟩, ⟨⟨(by decide : (2 : Nat) ≠ 4), fun h => absurd (show (2 : Nat) + 1 = 4 from h) (by decide)⟩, trivial⟩⟩⟩⟩ (fun ls hl => ?_)
  refine lv_iconst (v := 0) S.1 S.2.1 d_Pairing_countAlone_19 (by decide) ?_
  refine x_istore (lv2 := [(4, .int 0), (3, .int 0), (0, .ref h0), (1, va_rf p0), (2, va_rf p1)]) S d_Pairing_countAlone_20 hl (by decide) [0, 1, 2, 3, 4] rfl ⟨⟨(by decide : (4 : Nat) ≠ 5), fun _ => rfl⟩, ⟨⟨(by decide : (3 : Nat) ≠ 5), fun h => absurd (show (3 : Nat) + 1 = 5 from h) (by decide)⟩, ⟨⟨(by decide : (0 : Nat) ≠ 5), fun h => absurd (show (0 : Nat) + 1 = 5 from h) (by decide)⟩, ⟨⟨(by decide : (1 : Nat) ≠ 5), fun h => absurd (show (1 : Nat) + 1 = 5 from h) (by decide)⟩, ⟨⟨(by decide : (2 : Nat) ≠ 5), fun h => absurd (show (2 : Nat) + 1 = 5 from h) (by decide)⟩, trivial⟩⟩⟩⟩⟩ (fun ls hl => ?_)
  exact w22 N 0 0 0 _ _ _ _ _ _ hf hI (lv_sub hl [3, 4, 5, 2, 1, 0] rfl)
set_option maxHeartbeats 4000000 in
set_option maxRecDepth 100000 in
theorem c_PR_same (l : Launch) {D : va_G} {dA : Nat → ClassId} {aK aV : Nat → Nat} {z : Nat} {N : Nat} {h0 : Nat} {p0 : Int32} {p1 : Int32} {M : hM} {Z : Int32 × hM} (hf : (f_PR_same N h0 p0 p1).1 M = some Z) : Met l y_PR_same w_PR_same ({ frames := 6, cells := Z.2.2.1 - M.2.1, slots := Z.2.2.2 - M.2.2, locals := 139 }) (va_Pc [.ref h0, .int p0, .int p1] (hm_B D dA hCl (hTy dA) sT aK aV z M)) (hm_Q D dA hCl (hTy dA) sT aK aV z (some (.int Z.1)) Z.2) (Z.2.2.1 - M.2.1) (Z.2.2.2 - M.2.2) (fun q => z ≤ q) := by
  refine Met.ofW (cc := b_PR_same) (maxL := 5) (ret := (some .boolean)) (by decide) rfl ?_
  intro p e s m args below meth c s₁ B hml hv
  obtain ⟨hav, hB⟩ := hv
  have S : CallFix p m c b_PR_same 5 s args w_PR_same R_PR := ⟨B.exec, B.bytes, hml, findClass_of_methodNamed B.named, atoms_spec (ws := w_PR_same) B.pre⟩
  have hr : meth.sig.returnType = (some .boolean) := B.returns
  have hlocks := B.notSynchronized
  have hK := hB.2.2.1
  have hG := hB.2.2.2.2.2
  have hI := hm_I.start hB
  rw [← hB.2.1]
  generalize M.2.2 = k1 at hI ⊢
  refine W.eq (g2 := F0 m 0 ((lg_sl ([.ref h0, .int p0, .int p1]) ++ List.replicate (5 - (lg_sl ([.ref h0, .int p0, .int p1])).length) Slot.unset).toArray) []) (by rw [hav]; exact lg_entry_eq m ([.ref h0, .int p0, .int p1]) 5) ?_
  have hl := lv_entry ([.ref h0, .int p0, .int p1]) (n := 5) (Nat.le_of_ble_eq_true rfl)
  generalize (lg_sl ([.ref h0, .int p0, .int p1]) ++ List.replicate (5 - (lg_sl ([.ref h0, .int p0, .int p1])).length) Slot.unset).toArray = ls at hl ⊢
  simp only [lvA_nil, lvA_i, lvA_l, lvA_a, lvA_r, Nat.zero_add, Nat.reduceAdd] at hl
  have hret : ∀ (v : Int32) (M : hM) (H : Heap) (locs : List Loc) (cells slots : Nat) (ls : Array Slot) (pc : Nat), decode b_PR_same pc = .ok (.ireturn, 1) → (b_retN .boolean v).1 M = some Z → hm_I D dA hCl z k1 s M H locs cells slots → W p l e (headSpec w_PR_same { frames := 6, cells := Z.2.2.1 - s.heap.size, slots := Z.2.2.2 - k1, locals := 139 }).room s m args below meth c H locs cells slots (MQ below (hm_Q D dA hCl (hTy dA) sT aK aV z (some (.int Z.1)) Z.2) args s (Z.2.2.1 - s.heap.size) (Z.2.2.2 - k1) (fun q => z ≤ q)) (F0 m pc ls [.int v]) := fun v M H locs cells slots ls pc hdg hf hI => x_retn S hK hG hI hr hlocks hdg hf
  have hR : Z.2.2.1 - s.heap.size ≤ (headSpec w_PR_same { frames := 6, cells := Z.2.2.1 - s.heap.size, slots := Z.2.2.2 - k1, locals := 139 }).room.cells ∧ Z.2.2.2 - k1 ≤ (headSpec w_PR_same { frames := 6, cells := Z.2.2.1 - s.heap.size, slots := Z.2.2.2 - k1, locals := 139 }).room.slots := ⟨Nat.le_refl _, Nat.le_refl _⟩
  have hRf : 6 ≤ (headSpec w_PR_same { frames := 6, cells := Z.2.2.1 - s.heap.size, slots := Z.2.2.2 - k1, locals := 139 }).room.frames ∧ 139 ≤ (headSpec w_PR_same { frames := 6, cells := Z.2.2.1 - s.heap.size, slots := Z.2.2.2 - k1, locals := 139 }).room.locals := ⟨Nat.le_refl _, Nat.le_refl _⟩
  generalize (headSpec w_PR_same { frames := 6, cells := Z.2.2.1 - s.heap.size, slots := Z.2.2.2 - k1, locals := 139 }).room = R at hret hR hRf ⊢
  generalize (MQ below (hm_Q D dA hCl (hTy dA) sT aK aV z (some (.int Z.1)) Z.2) args s (Z.2.2.1 - s.heap.size) (Z.2.2.2 - k1) (fun q => z ≤ q)) = Q at hret ⊢
  rw [e_PR_same] at hf
  obtain ⟨J51, eJ51, hf⟩ := b_let_inv hf
  have w51 : ∀ (y0 : Int32) (M : hM) (H : Heap) (locs : List Loc) (ls : Array Slot) (cells slots : Nat), (J51 y0).1 M = some Z → hm_I D dA hCl z k1 s M H locs cells slots → lv_has ls 5 [] → W p l e R s m args below meth c H locs cells slots Q (F0 m 51 ls [.int y0]) := by
    intro y0 M H locs ls cells slots hf hI hl
    rw [eJ51] at hf
    exact hret _ _ _ _ _ _ _ _ d_PR_same_51 hf hI
  refine lv_aload_n S.1 S.2.1 d_PR_same_0 rfl (lv_at hl 0 rfl) ?_
  refine lv_iload_n S.1 S.2.1 d_PR_same_1 rfl (lv_at hl 1 rfl) ?_
  obtain ⟨⟨fs4, hefs4⟩, hf⟩ := b_is_inv hf
  obtain ⟨r1, N2, hg3, hf⟩ := b_call_inv hf
  refine x_call hI (hm_mo hg3) (va_runV (As := [.int p0]) (rest := []) S (c_PR_packOf l hg3) (cwV 1 S.2.2.2.2 (gi_V wd_359 wd_360 wd_361 wd_362 wd_363) rfl rfl rfl (by decide +kernel) ⟨Nat.le_trans (Nat.le_of_ble_eq_true rfl) hRf.1, Nat.le_trans (Nat.le_of_ble_eq_true rfl) hRf.2⟩) ⟨hm_B.blind, va_recv hK (hI.1.one hefs4) (ci := 0) (q0 := 0) rfl rfl, fun U hU hW => ⟨rfl, hm_B.of hK hG hI hU hW⟩⟩ rfl rfl hl.1 rfl (lv_room (Nat.le_of_ble_eq_true rfl)) d_PR_same_2 (hx_fit hI hR (hm_mo hg3) (hm_mo hf))) (fun H locs cells slots hI => ?_)
  refine W.eq (g2 := F0 m 5 ls [va_rf r1]) rfl ?_
  refine x_astore_n (r := r1) (lv2 := [(0, .ref h0), (1, .int p0), (2, .int p1)]) S d_PR_same_5 rfl hl (by decide) [0, 1, 2] rfl ⟨⟨(by decide : (0 : Nat) ≠ 3), fun h => absurd (show (0 : Nat) + 1 = 3 from h) (by decide)⟩, ⟨⟨(by decide : (1 : Nat) ≠ 3), fun h => absurd (show (1 : Nat) + 1 = 3 from h) (by decide)⟩, ⟨⟨(by decide : (2 : Nat) ≠ 3), fun _ => rfl⟩, trivial⟩⟩⟩ (fun ls hl => ?_)
  refine lv_aload_n S.1 S.2.1 d_PR_same_6 rfl (lv_at hl 1 rfl) ?_
  refine lv_iload_n S.1 S.2.1 d_PR_same_7 rfl (lv_at hl 3 rfl) ?_
  obtain ⟨⟨fs8, hefs8⟩, hf⟩ := b_is_inv hf
  obtain ⟨r5, N6, hg7, hf⟩ := b_call_inv hf
  refine x_call hI (hm_mo hg7) (va_runV (As := [.int p1]) (rest := []) S (c_PR_packOf l hg7) (cwV 1 S.2.2.2.2 (gi_V wd_359 wd_360 wd_361 wd_362 wd_363) rfl rfl rfl (by decide +kernel) ⟨Nat.le_trans (Nat.le_of_ble_eq_true rfl) hRf.1, Nat.le_trans (Nat.le_of_ble_eq_true rfl) hRf.2⟩) ⟨hm_B.blind, va_recv hK (hI.1.one hefs8) (ci := 0) (q0 := 0) rfl rfl, fun U hU hW => ⟨rfl, hm_B.of hK hG hI hU hW⟩⟩ rfl rfl hl.1 rfl (lv_room (Nat.le_of_ble_eq_true rfl)) d_PR_same_8 (hx_fit hI hR (hm_mo hg7) (hm_mo hf))) (fun H locs cells slots hI => ?_)
  refine W.eq (g2 := F0 m 11 ls [va_rf r5]) rfl ?_
  refine x_astore (r := r5) (lv2 := [(3, va_rf r1), (0, .ref h0), (1, .int p0), (2, .int p1)]) S d_PR_same_11 hl (by decide) [0, 1, 2, 3] rfl ⟨⟨(by decide : (3 : Nat) ≠ 4), fun _ => rf_cat _⟩, ⟨⟨(by decide : (0 : Nat) ≠ 4), fun h => absurd (show (0 : Nat) + 1 = 4 from h) (by decide)⟩, ⟨⟨(by decide : (1 : Nat) ≠ 4), fun h => absurd (show (1 : Nat) + 1 = 4 from h) (by decide)⟩, ⟨⟨(by decide : (2 : Nat) ≠ 4), fun h => absurd (show (2 : Nat) + 1 = 4 from h) (by decide)⟩, trivial⟩⟩⟩⟩ (fun ls hl => ?_)
  refine x_aload_n (r := r1) S d_PR_same_13 rfl (lv_at hl 1 rfl) ?_
  refine x_ifnull (r := r1) (tgt := 31) S d_PR_same_14 (by decide) (fun hc => ?_) (fun hc => ?_)
  · have hf := b_if_t hc hf
    refine lv_iconst (v := 0) S.1 S.2.1 d_PR_same_31 (by decide) ?_
    exact hret _ _ _ _ _ _ _ _ d_PR_same_32 hf hI
  · have hf := b_if_f hc hf
    refine x_aload (r := r5) S d_PR_same_17 (lv_at hl 0 rfl) ?_
    refine x_ifnull (r := r5) (tgt := 31) S d_PR_same_19 (by decide) (fun hc => ?_) (fun hc => ?_)
    · have hf := b_if_t hc hf
      refine lv_iconst (v := 0) S.1 S.2.1 d_PR_same_31 (by decide) ?_
      exact hret _ _ _ _ _ _ _ _ d_PR_same_32 hf hI
    · have hf := b_if_f hc hf
      refine x_aload_n (r := r1) S d_PR_same_22 rfl (lv_at hl 1 rfl) ?_
      refine x_aload (r := r5) S d_PR_same_23 (lv_at hl 0 rfl) ?_
      obtain ⟨a9, ea9, hg⟩ := b_nn_inv hf
      have hI0 := hI
      have hl0 := hl
      clear hf hI hl
      subst ea9
      have hf := hg
      have hI := hI0
      have hl := hl0
      clear hg hI0 hl0
      obtain ⟨⟨fs13, hefs13⟩, hf⟩ := b_is_inv hf
      obtain ⟨v10, N11, hg12, hf⟩ := b_call_inv hf
      refine x_call hI (hm_mo hg12) (va_runV (As := [va_rf r5]) (rest := []) S (c_Pack_headsAlike l hg12) (cwV 1 S.2.2.2.2 (gi_V wd_387 wd_388 wd_389 wd_273 wd_390) rfl rfl rfl (by decide +kernel) ⟨Nat.le_trans (Nat.le_of_ble_eq_true rfl) hRf.1, Nat.le_trans (Nat.le_of_ble_eq_true rfl) hRf.2⟩) ⟨hm_B.blind, va_recv hK (hI.1.one hefs13) (ci := 3) (q0 := 0) rfl rfl, fun U hU hW => ⟨rfl, hm_B.of hK hG hI hU hW⟩⟩ rfl rfl hl.1 rfl (lv_room (Nat.le_of_ble_eq_true rfl)) d_PR_same_25 (hx_fit hI hR (hm_mo hg12) (hm_mo hf))) (fun H locs cells slots hI => ?_)
      refine W.eq (g2 := F0 m 28 ls [.int v10]) rfl ?_
      refine lv_if_ne (tgt := 33) S.1 S.2.1 d_PR_same_28 (by decide) (fun hc => ?_) (fun hc => ?_)
      · have hf := b_if_f hc hf
        refine lv_aload_n S.1 S.2.1 d_PR_same_33 rfl (lv_at hl 2 rfl) ?_
        refine x_getR (ci := 0) (k := 5) S hK hI (fun w h => List.mem_cons_of_mem _ (i_PR w h)) rfl (by decide) (List.mem_cons_of_mem _ wd_46) rfl d_PR_same_34 hf (fun r14 hf => ?_)
        refine lv_aload_n S.1 S.2.1 d_PR_same_37 rfl (lv_at hl 1 rfl) ?_
        refine x_aload (r := r5) S d_PR_same_38 (lv_at hl 0 rfl) ?_
        obtain ⟨a15, ea15, hg⟩ := b_nn_inv hf
        have hI0 := hI
        have hl0 := hl
        clear hf hI hl
        subst ea15
        have hf := hg
        have hI := hI0
        have hl := hl0
        clear hg hI0 hl0
        obtain ⟨⟨fs19, hefs19⟩, hf⟩ := b_is_inv hf
        obtain ⟨v16, N17, hg18, hf⟩ := b_call_inv hf
        refine x_call hI (hm_mo hg18) (va_runV (As := [.ref a9, va_rf r5]) (rest := []) S (c_Pairing_countAlone l hg18) (cwV 2 S.2.2.2.2 (gi_V wd_405 wd_406 wd_407 wd_39 wd_408) rfl rfl rfl (by decide +kernel) ⟨Nat.le_trans (Nat.le_of_ble_eq_true rfl) hRf.1, Nat.le_trans (Nat.le_of_ble_eq_true rfl) hRf.2⟩) ⟨hm_B.blind, va_recv hK (hI.1.one hefs19) (ci := 4) (q0 := 0) rfl rfl, fun U hU hW => ⟨rfl, hm_B.of hK hG hI hU hW⟩⟩ rfl rfl hl.1 rfl (lv_room (Nat.le_of_ble_eq_true rfl)) d_PR_same_40 (hx_fit hI hR (hm_mo hg18) (hm_mo hf))) (fun H locs cells slots hI => ?_)
        refine W.eq (g2 := F0 m 43 ls [.int v16]) rfl ?_
        refine lv_if_ne (tgt := 50) S.1 S.2.1 d_PR_same_43 (by decide) (fun hc => ?_) (fun hc => ?_)
        · have hf := b_if_f hc hf
          refine lv_iconst (v := 0) S.1 S.2.1 d_PR_same_50 (by decide) ?_
          exact w51 0 _ _ _ _ _ _ hf hI (lv_sub hl [] rfl)
        · have hf := b_if_t hc hf
          refine lv_iconst (v := 1) S.1 S.2.1 d_PR_same_46 (by decide) ?_
          refine lv_goto (tgt := 51) S.1 S.2.1 d_PR_same_47 (by decide) ?_
          exact w51 1 _ _ _ _ _ _ hf hI (lv_sub hl [] rfl)
      · have hf := b_if_t hc hf
        refine lv_iconst (v := 0) S.1 S.2.1 d_PR_same_31 (by decide) ?_
        exact hret _ _ _ _ _ _ _ _ d_PR_same_32 hf hI
set_option maxHeartbeats 4000000 in
set_option maxRecDepth 100000 in
theorem c_PR_tellAlone (l : Launch) {D : va_G} {dA : Nat → ClassId} {aK aV : Nat → Nat} {z : Nat} {N : Nat} {h0 : Nat} {p0 : Option Nat} {p1 : Int32} {M : hM} {Z : Unit × hM} (hf : (f_PR_tellAlone N h0 p0 p1).1 M = some Z) : Met l y_PR_tellAlone w_PR_tellAlone ({ frames := 0, cells := Z.2.2.1 - M.2.1, slots := Z.2.2.2 - M.2.2, locals := 0 }) (va_Pc [.ref h0, va_rf p0, .int p1] (hm_B D dA hCl (hTy dA) sT aK aV z M)) (hm_Q D dA hCl (hTy dA) sT aK aV z none Z.2) (Z.2.2.1 - M.2.1) (Z.2.2.2 - M.2.2) (fun q => z ≤ q) := by
  refine Met.ofW (cc := b_PR_tellAlone) (maxL := 4) (ret := none) (by decide) rfl ?_
  intro p e s m args below meth c s₁ B hml hv
  obtain ⟨hav, hB⟩ := hv
  have S : CallFix p m c b_PR_tellAlone 4 s args w_PR_tellAlone R_PR := ⟨B.exec, B.bytes, hml, findClass_of_methodNamed B.named, atoms_spec (ws := w_PR_tellAlone) B.pre⟩
  have hr : meth.sig.returnType = none := B.returns
  have hlocks := B.notSynchronized
  have hK := hB.2.2.1
  have hG := hB.2.2.2.2.2
  have hI := hm_I.start hB
  rw [← hB.2.1]
  generalize M.2.2 = k1 at hI ⊢
  refine W.eq (g2 := F0 m 0 ((lg_sl ([.ref h0, va_rf p0, .int p1]) ++ List.replicate (4 - (lg_sl ([.ref h0, va_rf p0, .int p1])).length) Slot.unset).toArray) []) (by rw [hav]; exact lg_entry_eq m ([.ref h0, va_rf p0, .int p1]) 4) ?_
  have hl := lv_entry ([.ref h0, va_rf p0, .int p1]) (n := 4) (by cases p0 <;> exact Nat.le_of_ble_eq_true rfl)
  generalize (lg_sl ([.ref h0, va_rf p0, .int p1]) ++ List.replicate (4 - (lg_sl ([.ref h0, va_rf p0, .int p1])).length) Slot.unset).toArray = ls at hl ⊢
  simp only [lvA_nil, lvA_i, lvA_l, lvA_a, lvA_r, Nat.zero_add, Nat.reduceAdd] at hl
  have hret : ∀ (M : hM) (H : Heap) (locs : List Loc) (cells slots : Nat) (ls : Array Slot) (pc : Nat), decode b_PR_tellAlone pc = .ok (.return_, 1) → (b_ret ()).1 M = some Z → hm_I D dA hCl z k1 s M H locs cells slots → W p l e (headSpec w_PR_tellAlone { frames := 0, cells := Z.2.2.1 - s.heap.size, slots := Z.2.2.2 - k1, locals := 0 }).room s m args below meth c H locs cells slots (MQ below (hm_Q D dA hCl (hTy dA) sT aK aV z none Z.2) args s (Z.2.2.1 - s.heap.size) (Z.2.2.2 - k1) (fun q => z ≤ q)) (F0 m pc ls []) := fun M H locs cells slots ls pc hdg hf hI => x_retv S hK hG hI hr hlocks hdg hf
  have hR : Z.2.2.1 - s.heap.size ≤ (headSpec w_PR_tellAlone { frames := 0, cells := Z.2.2.1 - s.heap.size, slots := Z.2.2.2 - k1, locals := 0 }).room.cells ∧ Z.2.2.2 - k1 ≤ (headSpec w_PR_tellAlone { frames := 0, cells := Z.2.2.1 - s.heap.size, slots := Z.2.2.2 - k1, locals := 0 }).room.slots := ⟨Nat.le_refl _, Nat.le_refl _⟩
  have hRf : 0 ≤ (headSpec w_PR_tellAlone { frames := 0, cells := Z.2.2.1 - s.heap.size, slots := Z.2.2.2 - k1, locals := 0 }).room.frames ∧ 0 ≤ (headSpec w_PR_tellAlone { frames := 0, cells := Z.2.2.1 - s.heap.size, slots := Z.2.2.2 - k1, locals := 0 }).room.locals := ⟨Nat.le_refl _, Nat.le_refl _⟩
  generalize (headSpec w_PR_tellAlone { frames := 0, cells := Z.2.2.1 - s.heap.size, slots := Z.2.2.2 - k1, locals := 0 }).room = R at hret hR hRf ⊢
  generalize (MQ below (hm_Q D dA hCl (hTy dA) sT aK aV z none Z.2) args s (Z.2.2.1 - s.heap.size) (Z.2.2.2 - k1) (fun q => z ≤ q)) = Q at hret ⊢
  rw [e_PR_tellAlone] at hf
  have w2 : ∀ (n : Nat) (x3 : Int32) (M : hM) (H : Heap) (locs : List Loc) (ls : Array Slot) (cells slots : Nat), (f_PR_tellAlone_2 N h0 p0 p1  n x3).1 M = some Z → hm_I D dA hCl z k1 s M H locs cells slots → lv_has ls 4 [(0, .ref h0), (1, va_rf p0), (2, .int p1), (3, .int x3)] → W p l e R s m args below meth c H locs cells slots Q (F0 m 2 ls []) := by
    intro n
    induction n with
    | zero => intro x3 M H locs ls cells slots hf hI hl; cases hf
    | succ n2 ih2 =>
      intro x3 M H locs ls cells slots hf hI hl
      rw [e_PR_tellAlone_2] at hf
      obtain ⟨J51, eJ51, hf⟩ := b_let_inv hf
      have w51 : ∀ (x3 : Int32) (M : hM) (H : Heap) (locs : List Loc) (ls : Array Slot) (cells slots : Nat), (J51 x3).1 M = some Z → hm_I D dA hCl z k1 s M H locs cells slots → lv_has ls 4 [(0, .ref h0), (1, va_rf p0), (2, .int p1), (3, .int x3)] → W p l e R s m args below meth c H locs cells slots Q (F0 m 51 ls []) := by
        intro x3 M H locs ls cells slots hf hI hl
        rw [eJ51] at hf
        refine x_iinc (v := 1) (lv2 := [(0, .ref h0), (1, va_rf p0), (2, .int p1)]) S d_PR_tellAlone_51 hl 3 rfl (by decide) (by decide) [0, 1, 2] rfl ⟨⟨(by decide : (0 : Nat) ≠ 3), fun h => absurd (show (0 : Nat) + 1 = 3 from h) (by decide)⟩, ⟨⟨(by decide : (1 : Nat) ≠ 3), fun h => absurd (show (1 : Nat) + 1 = 3 from h) (by decide)⟩, ⟨⟨(by decide : (2 : Nat) ≠ 3), fun _ => rfl⟩, trivial⟩⟩⟩ (fun ls hl => ?_)
        refine lv_goto (tgt := 2) S.1 S.2.1 d_PR_tellAlone_54 (by decide) ?_
        exact ih2 (x3 + 1) _ _ _ _ _ _ hf hI (lv_sub hl [1, 2, 3, 0] rfl)
      refine lv_iload_n S.1 S.2.1 d_PR_tellAlone_2 rfl (lv_at hl 3 rfl) ?_
      refine lv_iload_n S.1 S.2.1 d_PR_tellAlone_3 rfl (lv_at hl 2 rfl) ?_
      refine lv_icmp_ge (tgt := 57) S.1 S.2.1 d_PR_tellAlone_4 (by decide) (fun hc => ?_) (fun hc => ?_)
      · have hf := b_if_t hc hf
        exact hret _ _ _ _ _ _ _ d_PR_tellAlone_57 hf hI
      · have hf := b_if_f hc hf
        refine lv_iload_n S.1 S.2.1 d_PR_tellAlone_7 rfl (lv_at hl 3 rfl) ?_
        refine x_aload_n (r := p0) S d_PR_tellAlone_8 rfl (lv_at hl 1 rfl) ?_
        obtain ⟨a1, ea1, hg⟩ := b_nn_inv hf
        have hI0 := hI
        have hl0 := hl
        clear hf hI hl
        subst ea1
        have hf := hg
        have hI := hI0
        have hl := hl0
        clear hg hI0 hl0
        refine x_len (t := 5) S hK hI rfl d_PR_tellAlone_9 hf (fun v2 hf => ?_)
        refine lv_icmp_ge (tgt := 57) S.1 S.2.1 d_PR_tellAlone_10 (by decide) (fun hc => ?_) (fun hc => ?_)
        · have hf := b_if_t hc hf
          exact hret _ _ _ _ _ _ _ d_PR_tellAlone_57 hf hI
        · have hf := b_if_f hc hf
          refine lv_aload_n S.1 S.2.1 d_PR_tellAlone_13 rfl (lv_at hl 0 rfl) ?_
          refine x_getI (ci := 0) (k := 8) S hK hI (fun w h => List.mem_cons_of_mem _ (i_PR w h)) rfl (by decide) (List.mem_cons_of_mem _ wd_409) rfl d_PR_tellAlone_14 hf (fun v3 hf => ?_)
          refine lv_aload_n S.1 S.2.1 d_PR_tellAlone_17 rfl (lv_at hl 0 rfl) ?_
          refine x_getR (ci := 0) (k := 6) S hK hI (fun w h => List.mem_cons_of_mem _ (i_PR w h)) rfl (by decide) (List.mem_cons_of_mem _ wd_47) rfl d_PR_tellAlone_18 hf (fun r4 hf => ?_)
          obtain ⟨a5, ea5, hg⟩ := b_nn_inv hf
          have hI0 := hI
          have hl0 := hl
          clear hf hI hl
          subst ea5
          have hf := hg
          have hI := hI0
          have hl := hl0
          clear hg hI0 hl0
          refine x_len (t := 2) S hK hI rfl d_PR_tellAlone_21 hf (fun v6 hf => ?_)
          refine lv_icmp_ge (tgt := 57) S.1 S.2.1 d_PR_tellAlone_22 (by decide) (fun hc => ?_) (fun hc => ?_)
          · have hf := b_if_t hc hf
            exact hret _ _ _ _ _ _ _ d_PR_tellAlone_57 hf hI
          · have hf := b_if_f hc hf
            refine lv_aload_n S.1 S.2.1 d_PR_tellAlone_25 rfl (lv_at hl 1 rfl) ?_
            refine lv_iload_n S.1 S.2.1 d_PR_tellAlone_26 rfl (lv_at hl 3 rfl) ?_
            refine x_zald (t := 5) S hK hI rfl d_PR_tellAlone_27 hf (fun v7 hf => ?_)
            refine lv_if_ne (tgt := 51) S.1 S.2.1 d_PR_tellAlone_28 (by decide) (fun hc => ?_) (fun hc => ?_)
            · have hf := b_if_f hc hf
              exact w51 x3 _ _ _ _ _ _ hf hI (lv_sub hl [0, 1, 2, 3] rfl)
            · have hf := b_if_t hc hf
              refine lv_aload_n S.1 S.2.1 d_PR_tellAlone_31 rfl (lv_at hl 0 rfl) ?_
              refine x_getR (ci := 0) (k := 6) S hK hI (fun w h => List.mem_cons_of_mem _ (i_PR w h)) rfl (by decide) (List.mem_cons_of_mem _ wd_47) rfl d_PR_tellAlone_32 hf (fun r8 hf => ?_)
              refine lv_aload_n S.1 S.2.1 d_PR_tellAlone_35 rfl (lv_at hl 0 rfl) ?_
              refine x_getI (ci := 0) (k := 8) S hK hI (fun w h => List.mem_cons_of_mem _ (i_PR w h)) rfl (by decide) (List.mem_cons_of_mem _ wd_409) rfl d_PR_tellAlone_36 hf (fun v9 hf => ?_)
              refine lv_iload_n S.1 S.2.1 d_PR_tellAlone_39 rfl (lv_at hl 3 rfl) ?_
              obtain ⟨a10, ea10, hg⟩ := b_nn_inv hf
              have hI0 := hI
              have hl0 := hl
              clear hf hI hl
              subst ea10
              have hf := hg
              have hI := hI0
              have hl := hl0
              clear hg hI0 hl0
              refine x_iast (t := 2) S hK hI rfl d_PR_tellAlone_40 hf (fun M H locs hf hI => ?_)
              refine lv_aload_n S.1 S.2.1 d_PR_tellAlone_41 rfl (lv_at hl 0 rfl) ?_
              refine lv_dup S.1 S.2.1 d_PR_tellAlone_42 rfl ?_
              refine x_getI (ci := 0) (k := 8) S hK hI (fun w h => List.mem_cons_of_mem _ (i_PR w h)) rfl (by decide) (List.mem_cons_of_mem _ wd_409) rfl d_PR_tellAlone_43 hf (fun v11 hf => ?_)
              refine lv_iconst (v := 1) S.1 S.2.1 d_PR_tellAlone_46 (by decide) ?_
              refine lv_iadd S.1 S.2.1 d_PR_tellAlone_47 ?_
              refine x_put (ci := 0) (k := 8) S hK hI (fun w h => List.mem_cons_of_mem _ (i_PR w h)) t_PR t_PR_ok n_PR rfl (by decide) (List.mem_cons_of_mem _ wd_409) rfl (Or.inl rfl) (by rfl) rfl d_PR_tellAlone_48 hf (fun M H locs hf hI => ?_)
              exact w51 x3 _ _ _ _ _ _ hf hI (lv_sub hl [0, 1, 2, 3] rfl)
  refine lv_iconst (v := 0) S.1 S.2.1 d_PR_tellAlone_0 (by decide) ?_
  refine x_istore_n (lv2 := [(0, .ref h0), (1, va_rf p0), (2, .int p1)]) S d_PR_tellAlone_1 rfl hl (by decide) [0, 1, 2] rfl ⟨⟨(by decide : (0 : Nat) ≠ 3), fun h => absurd (show (0 : Nat) + 1 = 3 from h) (by decide)⟩, ⟨⟨(by decide : (1 : Nat) ≠ 3), fun h => absurd (show (1 : Nat) + 1 = 3 from h) (by decide)⟩, ⟨⟨(by decide : (2 : Nat) ≠ 3), fun _ => rfl⟩, trivial⟩⟩⟩ (fun ls hl => ?_)
  exact w2 N 0 _ _ _ _ _ _ hf hI (lv_sub hl [1, 2, 3, 0] rfl)
set_option maxHeartbeats 4000000 in
set_option maxRecDepth 100000 in
theorem c_PR_differ (l : Launch) {D : va_G} {dA : Nat → ClassId} {aK aV : Nat → Nat} {z : Nat} {N : Nat} {h0 : Nat} {p0 : Int32} {p1 : Int32} {M : hM} {Z : Int32 × hM} (hf : (f_PR_differ N h0 p0 p1).1 M = some Z) : Met l y_PR_differ w_PR_differ ({ frames := 6, cells := Z.2.2.1 - M.2.1, slots := Z.2.2.2 - M.2.2, locals := 139 }) (va_Pc [.ref h0, .int p0, .int p1] (hm_B D dA hCl (hTy dA) sT aK aV z M)) (hm_Q D dA hCl (hTy dA) sT aK aV z (some (.int Z.1)) Z.2) (Z.2.2.1 - M.2.1) (Z.2.2.2 - M.2.2) (fun q => z ≤ q) := by
  refine Met.ofW (cc := b_PR_differ) (maxL := 5) (ret := (some .int)) (by decide) rfl ?_
  intro p e s m args below meth c s₁ B hml hv
  obtain ⟨hav, hB⟩ := hv
  have S : CallFix p m c b_PR_differ 5 s args w_PR_differ R_PR := ⟨B.exec, B.bytes, hml, findClass_of_methodNamed B.named, atoms_spec (ws := w_PR_differ) B.pre⟩
  have hr : meth.sig.returnType = (some .int) := B.returns
  have hlocks := B.notSynchronized
  have hK := hB.2.2.1
  have hG := hB.2.2.2.2.2
  have hI := hm_I.start hB
  rw [← hB.2.1]
  generalize M.2.2 = k1 at hI ⊢
  refine W.eq (g2 := F0 m 0 ((lg_sl ([.ref h0, .int p0, .int p1]) ++ List.replicate (5 - (lg_sl ([.ref h0, .int p0, .int p1])).length) Slot.unset).toArray) []) (by rw [hav]; exact lg_entry_eq m ([.ref h0, .int p0, .int p1]) 5) ?_
  have hl := lv_entry ([.ref h0, .int p0, .int p1]) (n := 5) (Nat.le_of_ble_eq_true rfl)
  generalize (lg_sl ([.ref h0, .int p0, .int p1]) ++ List.replicate (5 - (lg_sl ([.ref h0, .int p0, .int p1])).length) Slot.unset).toArray = ls at hl ⊢
  simp only [lvA_nil, lvA_i, lvA_l, lvA_a, lvA_r, Nat.zero_add, Nat.reduceAdd] at hl
  have hret : ∀ (v : Int32) (M : hM) (H : Heap) (locs : List Loc) (cells slots : Nat) (ls : Array Slot) (pc : Nat), decode b_PR_differ pc = .ok (.ireturn, 1) → (b_ret v).1 M = some Z → hm_I D dA hCl z k1 s M H locs cells slots → W p l e (headSpec w_PR_differ { frames := 6, cells := Z.2.2.1 - s.heap.size, slots := Z.2.2.2 - k1, locals := 139 }).room s m args below meth c H locs cells slots (MQ below (hm_Q D dA hCl (hTy dA) sT aK aV z (some (.int Z.1)) Z.2) args s (Z.2.2.1 - s.heap.size) (Z.2.2.2 - k1) (fun q => z ≤ q)) (F0 m pc ls [.int v]) := fun v M H locs cells slots ls pc hdg hf hI => x_reti S hK hG hI hr hlocks hdg hf
  have hR : Z.2.2.1 - s.heap.size ≤ (headSpec w_PR_differ { frames := 6, cells := Z.2.2.1 - s.heap.size, slots := Z.2.2.2 - k1, locals := 139 }).room.cells ∧ Z.2.2.2 - k1 ≤ (headSpec w_PR_differ { frames := 6, cells := Z.2.2.1 - s.heap.size, slots := Z.2.2.2 - k1, locals := 139 }).room.slots := ⟨Nat.le_refl _, Nat.le_refl _⟩
  have hRf : 6 ≤ (headSpec w_PR_differ { frames := 6, cells := Z.2.2.1 - s.heap.size, slots := Z.2.2.2 - k1, locals := 139 }).room.frames ∧ 139 ≤ (headSpec w_PR_differ { frames := 6, cells := Z.2.2.1 - s.heap.size, slots := Z.2.2.2 - k1, locals := 139 }).room.locals := ⟨Nat.le_refl _, Nat.le_refl _⟩
  generalize (headSpec w_PR_differ { frames := 6, cells := Z.2.2.1 - s.heap.size, slots := Z.2.2.2 - k1, locals := 139 }).room = R at hret hR hRf ⊢
  generalize (MQ below (hm_Q D dA hCl (hTy dA) sT aK aV z (some (.int Z.1)) Z.2) args s (Z.2.2.1 - s.heap.size) (Z.2.2.2 - k1) (fun q => z ≤ q)) = Q at hret ⊢
  rw [e_PR_differ] at hf
  refine lv_aload_n S.1 S.2.1 d_PR_differ_0 rfl (lv_at hl 0 rfl) ?_
  refine lv_iload_n S.1 S.2.1 d_PR_differ_1 rfl (lv_at hl 1 rfl) ?_
  obtain ⟨⟨fs4, hefs4⟩, hf⟩ := b_is_inv hf
  obtain ⟨r1, N2, hg3, hf⟩ := b_call_inv hf
  refine x_call hI (hm_mo hg3) (va_runV (As := [.int p0]) (rest := []) S (c_PR_packOf l hg3) (cwV 1 S.2.2.2.2 (gi_V wd_359 wd_360 wd_361 wd_362 wd_363) rfl rfl rfl (by decide +kernel) ⟨Nat.le_trans (Nat.le_of_ble_eq_true rfl) hRf.1, Nat.le_trans (Nat.le_of_ble_eq_true rfl) hRf.2⟩) ⟨hm_B.blind, va_recv hK (hI.1.one hefs4) (ci := 0) (q0 := 0) rfl rfl, fun U hU hW => ⟨rfl, hm_B.of hK hG hI hU hW⟩⟩ rfl rfl hl.1 rfl (lv_room (Nat.le_of_ble_eq_true rfl)) d_PR_differ_2 (hx_fit hI hR (hm_mo hg3) (hm_mo hf))) (fun H locs cells slots hI => ?_)
  refine W.eq (g2 := F0 m 5 ls [va_rf r1]) rfl ?_
  refine x_astore_n (r := r1) (lv2 := [(0, .ref h0), (1, .int p0), (2, .int p1)]) S d_PR_differ_5 rfl hl (by decide) [0, 1, 2] rfl ⟨⟨(by decide : (0 : Nat) ≠ 3), fun h => absurd (show (0 : Nat) + 1 = 3 from h) (by decide)⟩, ⟨⟨(by decide : (1 : Nat) ≠ 3), fun h => absurd (show (1 : Nat) + 1 = 3 from h) (by decide)⟩, ⟨⟨(by decide : (2 : Nat) ≠ 3), fun _ => rfl⟩, trivial⟩⟩⟩ (fun ls hl => ?_)
  refine lv_aload_n S.1 S.2.1 d_PR_differ_6 rfl (lv_at hl 1 rfl) ?_
  refine lv_iload_n S.1 S.2.1 d_PR_differ_7 rfl (lv_at hl 3 rfl) ?_
  obtain ⟨⟨fs8, hefs8⟩, hf⟩ := b_is_inv hf
  obtain ⟨r5, N6, hg7, hf⟩ := b_call_inv hf
  refine x_call hI (hm_mo hg7) (va_runV (As := [.int p1]) (rest := []) S (c_PR_packOf l hg7) (cwV 1 S.2.2.2.2 (gi_V wd_359 wd_360 wd_361 wd_362 wd_363) rfl rfl rfl (by decide +kernel) ⟨Nat.le_trans (Nat.le_of_ble_eq_true rfl) hRf.1, Nat.le_trans (Nat.le_of_ble_eq_true rfl) hRf.2⟩) ⟨hm_B.blind, va_recv hK (hI.1.one hefs8) (ci := 0) (q0 := 0) rfl rfl, fun U hU hW => ⟨rfl, hm_B.of hK hG hI hU hW⟩⟩ rfl rfl hl.1 rfl (lv_room (Nat.le_of_ble_eq_true rfl)) d_PR_differ_8 (hx_fit hI hR (hm_mo hg7) (hm_mo hf))) (fun H locs cells slots hI => ?_)
  refine W.eq (g2 := F0 m 11 ls [va_rf r5]) rfl ?_
  refine x_astore (r := r5) (lv2 := [(3, va_rf r1), (0, .ref h0), (1, .int p0), (2, .int p1)]) S d_PR_differ_11 hl (by decide) [0, 1, 2, 3] rfl ⟨⟨(by decide : (3 : Nat) ≠ 4), fun _ => rf_cat _⟩, ⟨⟨(by decide : (0 : Nat) ≠ 4), fun h => absurd (show (0 : Nat) + 1 = 4 from h) (by decide)⟩, ⟨⟨(by decide : (1 : Nat) ≠ 4), fun h => absurd (show (1 : Nat) + 1 = 4 from h) (by decide)⟩, ⟨⟨(by decide : (2 : Nat) ≠ 4), fun h => absurd (show (2 : Nat) + 1 = 4 from h) (by decide)⟩, trivial⟩⟩⟩⟩ (fun ls hl => ?_)
  refine x_aload_n (r := r1) S d_PR_differ_13 rfl (lv_at hl 1 rfl) ?_
  refine x_ifnull (r := r1) (tgt := 22) S d_PR_differ_14 (by decide) (fun hc => ?_) (fun hc => ?_)
  · have hf := b_if_t hc hf
    refine lv_iconst (v := (-1)) S.1 S.2.1 d_PR_differ_22 (by decide) ?_
    exact hret _ _ _ _ _ _ _ _ d_PR_differ_23 hf hI
  · have hf := b_if_f hc hf
    refine x_aload (r := r5) S d_PR_differ_17 (lv_at hl 0 rfl) ?_
    refine x_ifnonnull (r := r5) (tgt := 24) S d_PR_differ_19 (by decide) (fun hc => ?_) (fun hc => ?_)
    · have hf := b_if_f hc hf
      refine lv_aload_n S.1 S.2.1 d_PR_differ_24 rfl (lv_at hl 2 rfl) ?_
      refine x_getR (ci := 0) (k := 5) S hK hI (fun w h => List.mem_cons_of_mem _ (i_PR w h)) rfl (by decide) (List.mem_cons_of_mem _ wd_46) rfl d_PR_differ_25 hf (fun r9 hf => ?_)
      refine x_aload_n (r := r1) S d_PR_differ_28 rfl (lv_at hl 1 rfl) ?_
      refine x_aload (r := r5) S d_PR_differ_29 (lv_at hl 0 rfl) ?_
      obtain ⟨a10, ea10, hg⟩ := b_nn_inv hf
      have hI0 := hI
      have hl0 := hl
      clear hf hI hl
      subst ea10
      have hf := hg
      have hI := hI0
      have hl := hl0
      clear hg hI0 hl0
      obtain ⟨⟨fs14, hefs14⟩, hf⟩ := b_is_inv hf
      obtain ⟨v11, N12, hg13, hf⟩ := b_call_inv hf
      refine x_call hI (hm_mo hg13) (va_runV (As := [va_rf r1, va_rf r5]) (rest := []) S (c_Pairing_countAlone l hg13) (cwV 2 S.2.2.2.2 (gi_V wd_405 wd_406 wd_407 wd_39 wd_408) rfl rfl rfl (by decide +kernel) ⟨Nat.le_trans (Nat.le_of_ble_eq_true rfl) hRf.1, Nat.le_trans (Nat.le_of_ble_eq_true rfl) hRf.2⟩) ⟨hm_B.blind, va_recv hK (hI.1.one hefs14) (ci := 4) (q0 := 0) rfl rfl, fun U hU hW => ⟨rfl, hm_B.of hK hG hI hU hW⟩⟩ rfl rfl hl.1 rfl (lv_room (Nat.le_of_ble_eq_true rfl)) d_PR_differ_31 (hx_fit hI hR (hm_mo hg13) (hm_mo hf))) (fun H locs cells slots hI => ?_)
      refine W.eq (g2 := F0 m 34 ls [.int v11]) rfl ?_
      refine lv_pop S.1 S.2.1 d_PR_differ_34 rfl ?_
      refine lv_aload_n S.1 S.2.1 d_PR_differ_35 rfl (lv_at hl 2 rfl) ?_
      refine lv_iconst (v := 0) S.1 S.2.1 d_PR_differ_36 (by decide) ?_
      refine x_put (ci := 0) (k := 8) S hK hI (fun w h => List.mem_cons_of_mem _ (i_PR w h)) t_PR t_PR_ok n_PR rfl (by decide) (List.mem_cons_of_mem _ wd_409) rfl (Or.inl rfl) (by rfl) rfl d_PR_differ_37 hf (fun M H locs hf hI => ?_)
      refine lv_aload_n S.1 S.2.1 d_PR_differ_40 rfl (lv_at hl 2 rfl) ?_
      refine lv_aload_n S.1 S.2.1 d_PR_differ_41 rfl (lv_at hl 2 rfl) ?_
      refine x_getR (ci := 0) (k := 5) S hK hI (fun w h => List.mem_cons_of_mem _ (i_PR w h)) rfl (by decide) (List.mem_cons_of_mem _ wd_46) rfl d_PR_differ_42 hf (fun r15 hf => ?_)
      obtain ⟨a16, ea16, hg⟩ := b_nn_inv hf
      have hI0 := hI
      have hl0 := hl
      clear hf hI hl
      subst ea16
      have hf := hg
      have hI := hI0
      have hl := hl0
      clear hg hI0 hl0
      refine x_getR (ci := 4) (k := 0) S hK hI (fun w h => List.mem_cons_of_mem _ (i_Pairing w h)) rfl (by decide) (List.mem_cons_of_mem _ wd_410) rfl d_PR_differ_45 hf (fun r17 hf => ?_)
      refine x_aload_n (r := r1) S d_PR_differ_48 rfl (lv_at hl 1 rfl) ?_
      obtain ⟨a18, ea18, hg⟩ := b_nn_inv hf
      have hI0 := hI
      have hl0 := hl
      clear hf hI hl
      subst ea18
      have hf := hg
      have hI := hI0
      have hl := hl0
      clear hg hI0 hl0
      refine x_getR (ci := 3) (k := 3) S hK hI (fun w h => List.mem_cons_of_mem _ (i_Pack w h)) rfl (by decide) (List.mem_cons_of_mem _ wd_364) rfl d_PR_differ_49 hf (fun r19 hf => ?_)
      obtain ⟨a20, ea20, hg⟩ := b_nn_inv hf
      have hI0 := hI
      have hl0 := hl
      clear hf hI hl
      subst ea20
      have hf := hg
      have hI := hI0
      have hl := hl0
      clear hg hI0 hl0
      refine x_len (t := 1) S hK hI rfl d_PR_differ_52 hf (fun v21 hf => ?_)
      obtain ⟨⟨fs25, hefs25⟩, hf⟩ := b_is_inv hf
      obtain ⟨r22, N23, hg24, hf⟩ := b_call_inv hf
      refine x_call hI (hm_mo hg24) (va_runV (As := [va_rf r17, .int v21]) (rest := []) S (c_PR_tellAlone l hg24) (cwV 2 S.2.2.2.2 (gi_V wd_411 wd_412 wd_413 wd_362 wd_414) rfl rfl rfl (by decide +kernel) ⟨Nat.le_trans (Nat.le_of_ble_eq_true rfl) hRf.1, Nat.le_trans (Nat.le_of_ble_eq_true rfl) hRf.2⟩) ⟨hm_B.blind, va_recv hK (hI.1.one hefs25) (ci := 0) (q0 := 0) rfl rfl, fun U hU hW => ⟨rfl, hm_B.of hK hG hI hU hW⟩⟩ rfl rfl hl.1 rfl (lv_room (Nat.le_of_ble_eq_true rfl)) d_PR_differ_53 (hx_fit hI hR (hm_mo hg24) (hm_mo hf))) (fun H locs cells slots hI => ?_)
      refine W.eq (g2 := F0 m 56 ls []) rfl ?_
      refine lv_aload_n S.1 S.2.1 d_PR_differ_56 rfl (lv_at hl 2 rfl) ?_
      refine lv_aload_n S.1 S.2.1 d_PR_differ_57 rfl (lv_at hl 2 rfl) ?_
      refine x_getI (ci := 0) (k := 8) S hK hI (fun w h => List.mem_cons_of_mem _ (i_PR w h)) rfl (by decide) (List.mem_cons_of_mem _ wd_409) rfl d_PR_differ_58 hf (fun v26 hf => ?_)
      refine x_put (ci := 0) (k := 7) S hK hI (fun w h => List.mem_cons_of_mem _ (i_PR w h)) t_PR t_PR_ok n_PR rfl (by decide) (List.mem_cons_of_mem _ wd_415) rfl (Or.inl rfl) (by rfl) rfl d_PR_differ_61 hf (fun M H locs hf hI => ?_)
      refine lv_aload_n S.1 S.2.1 d_PR_differ_64 rfl (lv_at hl 2 rfl) ?_
      refine lv_aload_n S.1 S.2.1 d_PR_differ_65 rfl (lv_at hl 2 rfl) ?_
      refine x_getR (ci := 0) (k := 5) S hK hI (fun w h => List.mem_cons_of_mem _ (i_PR w h)) rfl (by decide) (List.mem_cons_of_mem _ wd_46) rfl d_PR_differ_66 hf (fun r27 hf => ?_)
      obtain ⟨a28, ea28, hg⟩ := b_nn_inv hf
      have hI0 := hI
      have hl0 := hl
      clear hf hI hl
      subst ea28
      have hf := hg
      have hI := hI0
      have hl := hl0
      clear hg hI0 hl0
      refine x_getR (ci := 4) (k := 1) S hK hI (fun w h => List.mem_cons_of_mem _ (i_Pairing w h)) rfl (by decide) (List.mem_cons_of_mem _ wd_416) rfl d_PR_differ_69 hf (fun r29 hf => ?_)
      refine x_aload (r := r5) S d_PR_differ_72 (lv_at hl 0 rfl) ?_
      obtain ⟨a30, ea30, hg⟩ := b_nn_inv hf
      have hI0 := hI
      have hl0 := hl
      clear hf hI hl
      subst ea30
      have hf := hg
      have hI := hI0
      have hl := hl0
      clear hg hI0 hl0
      refine x_getR (ci := 3) (k := 3) S hK hI (fun w h => List.mem_cons_of_mem _ (i_Pack w h)) rfl (by decide) (List.mem_cons_of_mem _ wd_364) rfl d_PR_differ_74 hf (fun r31 hf => ?_)
      obtain ⟨a32, ea32, hg⟩ := b_nn_inv hf
      have hI0 := hI
      have hl0 := hl
      clear hf hI hl
      subst ea32
      have hf := hg
      have hI := hI0
      have hl := hl0
      clear hg hI0 hl0
      refine x_len (t := 1) S hK hI rfl d_PR_differ_77 hf (fun v33 hf => ?_)
      obtain ⟨⟨fs37, hefs37⟩, hf⟩ := b_is_inv hf
      obtain ⟨r34, N35, hg36, hf⟩ := b_call_inv hf
      refine x_call hI (hm_mo hg36) (va_runV (As := [va_rf r29, .int v33]) (rest := []) S (c_PR_tellAlone l hg36) (cwV 2 S.2.2.2.2 (gi_V wd_411 wd_412 wd_413 wd_362 wd_414) rfl rfl rfl (by decide +kernel) ⟨Nat.le_trans (Nat.le_of_ble_eq_true rfl) hRf.1, Nat.le_trans (Nat.le_of_ble_eq_true rfl) hRf.2⟩) ⟨hm_B.blind, va_recv hK (hI.1.one hefs37) (ci := 0) (q0 := 0) rfl rfl, fun U hU hW => ⟨rfl, hm_B.of hK hG hI hU hW⟩⟩ rfl rfl hl.1 rfl (lv_room (Nat.le_of_ble_eq_true rfl)) d_PR_differ_78 (hx_fit hI hR (hm_mo hg36) (hm_mo hf))) (fun H locs cells slots hI => ?_)
      refine W.eq (g2 := F0 m 81 ls []) rfl ?_
      refine lv_aload_n S.1 S.2.1 d_PR_differ_81 rfl (lv_at hl 2 rfl) ?_
      refine x_getI (ci := 0) (k := 8) S hK hI (fun w h => List.mem_cons_of_mem _ (i_PR w h)) rfl (by decide) (List.mem_cons_of_mem _ wd_409) rfl d_PR_differ_82 hf (fun v38 hf => ?_)
      exact hret _ _ _ _ _ _ _ _ d_PR_differ_85 hf hI
    · have hf := b_if_t hc hf
      refine lv_iconst (v := (-1)) S.1 S.2.1 d_PR_differ_22 (by decide) ?_
      exact hret _ _ _ _ _ _ _ _ d_PR_differ_23 hf hI
set_option maxHeartbeats 4000000 in
set_option maxRecDepth 100000 in
theorem c_PR_change (l : Launch) {D : va_G} {dA : Nat → ClassId} {aK aV : Nat → Nat} {z : Nat} {N : Nat} {h0 : Nat} {p0 : Int32} {p1 : Int32} {M : hM} {Z : Int32 × hM} (hf : (f_PR_change N h0 p0 p1).1 M = some Z) : Met l y_PR_change w_PR_change ({ frames := 0, cells := Z.2.2.1 - M.2.1, slots := Z.2.2.2 - M.2.2, locals := 0 }) (va_Pc [.ref h0, .int p0, .int p1] (hm_B D dA hCl (hTy dA) sT aK aV z M)) (hm_Q D dA hCl (hTy dA) sT aK aV z (some (.int Z.1)) Z.2) (Z.2.2.1 - M.2.1) (Z.2.2.2 - M.2.2) (fun q => z ≤ q) := by
  refine Met.ofW (cc := b_PR_change) (maxL := 3) (ret := (some .int)) (by decide) rfl ?_
  intro p e s m args below meth c s₁ B hml hv
  obtain ⟨hav, hB⟩ := hv
  have S : CallFix p m c b_PR_change 3 s args w_PR_change R_PR := ⟨B.exec, B.bytes, hml, findClass_of_methodNamed B.named, atoms_spec (ws := w_PR_change) B.pre⟩
  have hr : meth.sig.returnType = (some .int) := B.returns
  have hlocks := B.notSynchronized
  have hK := hB.2.2.1
  have hG := hB.2.2.2.2.2
  have hI := hm_I.start hB
  rw [← hB.2.1]
  generalize M.2.2 = k1 at hI ⊢
  refine W.eq (g2 := F0 m 0 ((lg_sl ([.ref h0, .int p0, .int p1]) ++ List.replicate (3 - (lg_sl ([.ref h0, .int p0, .int p1])).length) Slot.unset).toArray) []) (by rw [hav]; exact lg_entry_eq m ([.ref h0, .int p0, .int p1]) 3) ?_
  have hl := lv_entry ([.ref h0, .int p0, .int p1]) (n := 3) (Nat.le_of_ble_eq_true rfl)
  generalize (lg_sl ([.ref h0, .int p0, .int p1]) ++ List.replicate (3 - (lg_sl ([.ref h0, .int p0, .int p1])).length) Slot.unset).toArray = ls at hl ⊢
  simp only [lvA_nil, lvA_i, lvA_l, lvA_a, lvA_r, Nat.zero_add, Nat.reduceAdd] at hl
  have hret : ∀ (v : Int32) (M : hM) (H : Heap) (locs : List Loc) (cells slots : Nat) (ls : Array Slot) (pc : Nat), decode b_PR_change pc = .ok (.ireturn, 1) → (b_ret v).1 M = some Z → hm_I D dA hCl z k1 s M H locs cells slots → W p l e (headSpec w_PR_change { frames := 0, cells := Z.2.2.1 - s.heap.size, slots := Z.2.2.2 - k1, locals := 0 }).room s m args below meth c H locs cells slots (MQ below (hm_Q D dA hCl (hTy dA) sT aK aV z (some (.int Z.1)) Z.2) args s (Z.2.2.1 - s.heap.size) (Z.2.2.2 - k1) (fun q => z ≤ q)) (F0 m pc ls [.int v]) := fun v M H locs cells slots ls pc hdg hf hI => x_reti S hK hG hI hr hlocks hdg hf
  have hR : Z.2.2.1 - s.heap.size ≤ (headSpec w_PR_change { frames := 0, cells := Z.2.2.1 - s.heap.size, slots := Z.2.2.2 - k1, locals := 0 }).room.cells ∧ Z.2.2.2 - k1 ≤ (headSpec w_PR_change { frames := 0, cells := Z.2.2.1 - s.heap.size, slots := Z.2.2.2 - k1, locals := 0 }).room.slots := ⟨Nat.le_refl _, Nat.le_refl _⟩
  have hRf : 0 ≤ (headSpec w_PR_change { frames := 0, cells := Z.2.2.1 - s.heap.size, slots := Z.2.2.2 - k1, locals := 0 }).room.frames ∧ 0 ≤ (headSpec w_PR_change { frames := 0, cells := Z.2.2.1 - s.heap.size, slots := Z.2.2.2 - k1, locals := 0 }).room.locals := ⟨Nat.le_refl _, Nat.le_refl _⟩
  generalize (headSpec w_PR_change { frames := 0, cells := Z.2.2.1 - s.heap.size, slots := Z.2.2.2 - k1, locals := 0 }).room = R at hret hR hRf ⊢
  generalize (MQ below (hm_Q D dA hCl (hTy dA) sT aK aV z (some (.int Z.1)) Z.2) args s (Z.2.2.1 - s.heap.size) (Z.2.2.2 - k1) (fun q => z ≤ q)) = Q at hret ⊢
  rw [e_PR_change] at hf
  obtain ⟨J53, eJ53, hf⟩ := b_let_inv hf
  have w53 : ∀ (y0 : Int32) (M : hM) (H : Heap) (locs : List Loc) (ls : Array Slot) (cells slots : Nat), (J53 y0).1 M = some Z → hm_I D dA hCl z k1 s M H locs cells slots → lv_has ls 3 [] → W p l e R s m args below meth c H locs cells slots Q (F0 m 53 ls [.int y0]) := by
    intro y0 M H locs ls cells slots hf hI hl
    rw [eJ53] at hf
    exact hret _ _ _ _ _ _ _ _ d_PR_change_53 hf hI
  refine lv_iload_n S.1 S.2.1 d_PR_change_0 rfl (lv_at hl 1 rfl) ?_
  refine lv_if_lt (tgt := 12) S.1 S.2.1 d_PR_change_1 (by decide) (fun hc => ?_) (fun hc => ?_)
  · have hf := b_if_t hc hf
    refine lv_iconst (v := (-1)) S.1 S.2.1 d_PR_change_12 (by decide) ?_
    exact hret _ _ _ _ _ _ _ _ d_PR_change_13 hf hI
  · have hf := b_if_f hc hf
    refine lv_iload_n S.1 S.2.1 d_PR_change_4 rfl (lv_at hl 1 rfl) ?_
    refine lv_aload_n S.1 S.2.1 d_PR_change_5 rfl (lv_at hl 0 rfl) ?_
    refine x_getI (ci := 0) (k := 8) S hK hI (fun w h => List.mem_cons_of_mem _ (i_PR w h)) rfl (by decide) (List.mem_cons_of_mem _ wd_409) rfl d_PR_change_6 hf (fun v1 hf => ?_)
    refine lv_icmp_lt (tgt := 14) S.1 S.2.1 d_PR_change_9 (by decide) (fun hc => ?_) (fun hc => ?_)
    · have hf := b_if_t hc hf
      refine lv_iload_n S.1 S.2.1 d_PR_change_14 rfl (lv_at hl 2 rfl) ?_
      by_cases hc0 : p1 = 0
      · have hf := b_if_t hc0 hf
        refine lv_lookup (off := 25) (tgt := 40) S.1 S.2.1 d_PR_change_15 (by decide) (by rw [hc0] <;> rfl) (by decide) ?_
        refine lv_iload_n S.1 S.2.1 d_PR_change_40 rfl (lv_at hl 1 rfl) ?_
        refine lv_aload_n S.1 S.2.1 d_PR_change_41 rfl (lv_at hl 0 rfl) ?_
        refine x_getI (ci := 0) (k := 7) S hK hI (fun w h => List.mem_cons_of_mem _ (i_PR w h)) rfl (by decide) (List.mem_cons_of_mem _ wd_415) rfl d_PR_change_42 hf (fun v2 hf => ?_)
        refine lv_icmp_ge (tgt := 52) S.1 S.2.1 d_PR_change_45 (by decide) (fun hc => ?_) (fun hc => ?_)
        · have hf := b_if_t hc hf
          refine lv_iconst (v := 1) S.1 S.2.1 d_PR_change_52 (by decide) ?_
          exact w53 1 _ _ _ _ _ _ hf hI (lv_sub hl [] rfl)
        · have hf := b_if_f hc hf
          refine lv_iconst (v := 0) S.1 S.2.1 d_PR_change_48 (by decide) ?_
          refine lv_goto (tgt := 53) S.1 S.2.1 d_PR_change_49 (by decide) ?_
          exact w53 0 _ _ _ _ _ _ hf hI (lv_sub hl [] rfl)
      · have hf := b_if_f hc0 hf
        by_cases hc1 : p1 = 1
        · have hf := b_if_t hc1 hf
          refine lv_lookup (off := 39) (tgt := 54) S.1 S.2.1 d_PR_change_15 (by decide) (by rw [hc1] <;> rfl) (by decide) ?_
          refine lv_aload_n S.1 S.2.1 d_PR_change_54 rfl (lv_at hl 0 rfl) ?_
          refine x_getR (ci := 0) (k := 6) S hK hI (fun w h => List.mem_cons_of_mem _ (i_PR w h)) rfl (by decide) (List.mem_cons_of_mem _ wd_47) rfl d_PR_change_55 hf (fun r3 hf => ?_)
          refine lv_iload_n S.1 S.2.1 d_PR_change_58 rfl (lv_at hl 1 rfl) ?_
          obtain ⟨a4, ea4, hg⟩ := b_nn_inv hf
          have hI0 := hI
          have hl0 := hl
          clear hf hI hl
          subst ea4
          have hf := hg
          have hI := hI0
          have hl := hl0
          clear hg hI0 hl0
          refine x_iald (t := 2) S hK hI rfl d_PR_change_59 hf (fun v5 hf => ?_)
          exact hret _ _ _ _ _ _ _ _ d_PR_change_60 hf hI
        · have hf := b_if_f hc1 hf
          refine lv_lookup (off := 46) (tgt := 61) S.1 S.2.1 d_PR_change_15 (by decide) (by rw [lv_osw (k := 0) hc0 (by decide), lv_osw (k := 1) hc1 (by decide)] <;> rfl) (by decide) ?_
          refine lv_iconst (v := (-1)) S.1 S.2.1 d_PR_change_61 (by decide) ?_
          exact hret _ _ _ _ _ _ _ _ d_PR_change_62 hf hI
    · have hf := b_if_f hc hf
      refine lv_iconst (v := (-1)) S.1 S.2.1 d_PR_change_12 (by decide) ?_
      exact hret _ _ _ _ _ _ _ _ d_PR_change_13 hf hI
set_option maxHeartbeats 4000000 in
set_option maxRecDepth 100000 in
theorem c_Printer_put (l : Launch) {D : va_G} {dA : Nat → ClassId} {aK aV : Nat → Nat} {z : Nat} {N : Nat} {h0 : Nat} {p0 : Int32} {M : hM} {Z : Unit × hM} (hf : (f_Printer_put N h0 p0).1 M = some Z) : Met l y_Printer_put w_Printer_put ({ frames := 0, cells := Z.2.2.1 - M.2.1, slots := Z.2.2.2 - M.2.2, locals := 0 }) (va_Pc [.ref h0, .int p0] (hm_B D dA hCl (hTy dA) sT aK aV z M)) (hm_Q D dA hCl (hTy dA) sT aK aV z none Z.2) (Z.2.2.1 - M.2.1) (Z.2.2.2 - M.2.2) (fun q => z ≤ q) := by
  refine Met.ofW (cc := b_Printer_put) (maxL := 2) (ret := none) (by decide) rfl ?_
  intro p e s m args below meth c s₁ B hml hv
  obtain ⟨hav, hB⟩ := hv
  have S : CallFix p m c b_Printer_put 2 s args w_Printer_put R_Printer := ⟨B.exec, B.bytes, hml, findClass_of_methodNamed B.named, atoms_spec (ws := w_Printer_put) B.pre⟩
  have hr : meth.sig.returnType = none := B.returns
  have hlocks := B.notSynchronized
  have hK := hB.2.2.1
  have hG := hB.2.2.2.2.2
  have hI := hm_I.start hB
  rw [← hB.2.1]
  generalize M.2.2 = k1 at hI ⊢
  refine W.eq (g2 := F0 m 0 ((lg_sl ([.ref h0, .int p0]) ++ List.replicate (2 - (lg_sl ([.ref h0, .int p0])).length) Slot.unset).toArray) []) (by rw [hav]; exact lg_entry_eq m ([.ref h0, .int p0]) 2) ?_
  have hl := lv_entry ([.ref h0, .int p0]) (n := 2) (Nat.le_of_ble_eq_true rfl)
  generalize (lg_sl ([.ref h0, .int p0]) ++ List.replicate (2 - (lg_sl ([.ref h0, .int p0])).length) Slot.unset).toArray = ls at hl ⊢
  simp only [lvA_nil, lvA_i, lvA_l, lvA_a, lvA_r, Nat.zero_add, Nat.reduceAdd] at hl
  have hret : ∀ (M : hM) (H : Heap) (locs : List Loc) (cells slots : Nat) (ls : Array Slot) (pc : Nat), decode b_Printer_put pc = .ok (.return_, 1) → (b_ret ()).1 M = some Z → hm_I D dA hCl z k1 s M H locs cells slots → W p l e (headSpec w_Printer_put { frames := 0, cells := Z.2.2.1 - s.heap.size, slots := Z.2.2.2 - k1, locals := 0 }).room s m args below meth c H locs cells slots (MQ below (hm_Q D dA hCl (hTy dA) sT aK aV z none Z.2) args s (Z.2.2.1 - s.heap.size) (Z.2.2.2 - k1) (fun q => z ≤ q)) (F0 m pc ls []) := fun M H locs cells slots ls pc hdg hf hI => x_retv S hK hG hI hr hlocks hdg hf
  have hR : Z.2.2.1 - s.heap.size ≤ (headSpec w_Printer_put { frames := 0, cells := Z.2.2.1 - s.heap.size, slots := Z.2.2.2 - k1, locals := 0 }).room.cells ∧ Z.2.2.2 - k1 ≤ (headSpec w_Printer_put { frames := 0, cells := Z.2.2.1 - s.heap.size, slots := Z.2.2.2 - k1, locals := 0 }).room.slots := ⟨Nat.le_refl _, Nat.le_refl _⟩
  have hRf : 0 ≤ (headSpec w_Printer_put { frames := 0, cells := Z.2.2.1 - s.heap.size, slots := Z.2.2.2 - k1, locals := 0 }).room.frames ∧ 0 ≤ (headSpec w_Printer_put { frames := 0, cells := Z.2.2.1 - s.heap.size, slots := Z.2.2.2 - k1, locals := 0 }).room.locals := ⟨Nat.le_refl _, Nat.le_refl _⟩
  generalize (headSpec w_Printer_put { frames := 0, cells := Z.2.2.1 - s.heap.size, slots := Z.2.2.2 - k1, locals := 0 }).room = R at hret hR hRf ⊢
  generalize (MQ below (hm_Q D dA hCl (hTy dA) sT aK aV z none Z.2) args s (Z.2.2.1 - s.heap.size) (Z.2.2.2 - k1) (fun q => z ≤ q)) = Q at hret ⊢
  rw [e_Printer_put] at hf
  refine lv_aload_n S.1 S.2.1 d_Printer_put_0 rfl (lv_at hl 0 rfl) ?_
  refine x_getI (ci := 5) (k := 1) S hK hI (fun w h => List.mem_cons_of_mem _ (i_Printer w h)) rfl (by decide) (List.mem_cons_of_mem _ wd_419) rfl d_Printer_put_1 hf (fun v1 hf => ?_)
  refine lv_aload_n S.1 S.2.1 d_Printer_put_4 rfl (lv_at hl 0 rfl) ?_
  refine x_getR (ci := 5) (k := 0) S hK hI (fun w h => List.mem_cons_of_mem _ (i_Printer w h)) rfl (by decide) (List.mem_cons_of_mem _ wd_33) rfl d_Printer_put_5 hf (fun r2 hf => ?_)
  obtain ⟨a3, ea3, hg⟩ := b_nn_inv hf
  have hI0 := hI
  have hl0 := hl
  clear hf hI hl
  subst ea3
  have hf := hg
  have hI := hI0
  have hl := hl0
  clear hg hI0 hl0
  refine x_len (t := 0) S hK hI rfl d_Printer_put_8 hf (fun v4 hf => ?_)
  refine lv_icmp_ge (tgt := 32) S.1 S.2.1 d_Printer_put_9 (by decide) (fun hc => ?_) (fun hc => ?_)
  · have hf := b_if_t hc hf
    exact hret _ _ _ _ _ _ _ d_Printer_put_32 hf hI
  · have hf := b_if_f hc hf
    refine lv_aload_n S.1 S.2.1 d_Printer_put_12 rfl (lv_at hl 0 rfl) ?_
    refine x_getR (ci := 5) (k := 0) S hK hI (fun w h => List.mem_cons_of_mem _ (i_Printer w h)) rfl (by decide) (List.mem_cons_of_mem _ wd_33) rfl d_Printer_put_13 hf (fun r5 hf => ?_)
    refine lv_aload_n S.1 S.2.1 d_Printer_put_16 rfl (lv_at hl 0 rfl) ?_
    refine x_getI (ci := 5) (k := 1) S hK hI (fun w h => List.mem_cons_of_mem _ (i_Printer w h)) rfl (by decide) (List.mem_cons_of_mem _ wd_419) rfl d_Printer_put_17 hf (fun v6 hf => ?_)
    refine lv_iload_n S.1 S.2.1 d_Printer_put_20 rfl (lv_at hl 1 rfl) ?_
    obtain ⟨a7, ea7, hg⟩ := b_nn_inv hf
    have hI0 := hI
    have hl0 := hl
    clear hf hI hl
    subst ea7
    have hf := hg
    have hI := hI0
    have hl := hl0
    clear hg hI0 hl0
    refine x_cast (t := 0) S hK hI rfl d_Printer_put_21 hf (fun M H locs hf hI => ?_)
    refine lv_aload_n S.1 S.2.1 d_Printer_put_22 rfl (lv_at hl 0 rfl) ?_
    refine lv_dup S.1 S.2.1 d_Printer_put_23 rfl ?_
    refine x_getI (ci := 5) (k := 1) S hK hI (fun w h => List.mem_cons_of_mem _ (i_Printer w h)) rfl (by decide) (List.mem_cons_of_mem _ wd_419) rfl d_Printer_put_24 hf (fun v8 hf => ?_)
    refine lv_iconst (v := 1) S.1 S.2.1 d_Printer_put_27 (by decide) ?_
    refine lv_iadd S.1 S.2.1 d_Printer_put_28 ?_
    refine x_put (ci := 5) (k := 1) S hK hI (fun w h => List.mem_cons_of_mem _ (i_Printer w h)) t_Printer t_Printer_ok n_Printer rfl (by decide) (List.mem_cons_of_mem _ wd_419) rfl (Or.inl rfl) (by rfl) rfl d_Printer_put_29 hf (fun M H locs hf hI => ?_)
    exact hret _ _ _ _ _ _ _ d_Printer_put_32 hf hI
set_option maxHeartbeats 4000000 in
set_option maxRecDepth 100000 in
theorem c_Printer_putName (l : Launch) {D : va_G} {dA : Nat → ClassId} {aK aV : Nat → Nat} {z : Nat} {N : Nat} {h0 : Nat} {p0 : Option Nat} {M : hM} {Z : Unit × hM} (hf : (f_Printer_putName N h0 p0).1 M = some Z) : Met l y_Printer_putName w_Printer_putName ({ frames := 1, cells := Z.2.2.1 - M.2.1, slots := Z.2.2.2 - M.2.2, locals := 21 }) (va_Pc [.ref h0, va_rf p0] (hm_B D dA hCl (hTy dA) sT aK aV z M)) (hm_Q D dA hCl (hTy dA) sT aK aV z none Z.2) (Z.2.2.1 - M.2.1) (Z.2.2.2 - M.2.2) (fun q => z ≤ q) := by
  refine Met.ofW (cc := b_Printer_putName) (maxL := 3) (ret := none) (by decide) rfl ?_
  intro p e s m args below meth c s₁ B hml hv
  obtain ⟨hav, hB⟩ := hv
  have S : CallFix p m c b_Printer_putName 3 s args w_Printer_putName R_Printer := ⟨B.exec, B.bytes, hml, findClass_of_methodNamed B.named, atoms_spec (ws := w_Printer_putName) B.pre⟩
  have hr : meth.sig.returnType = none := B.returns
  have hlocks := B.notSynchronized
  have hK := hB.2.2.1
  have hG := hB.2.2.2.2.2
  have hI := hm_I.start hB
  rw [← hB.2.1]
  generalize M.2.2 = k1 at hI ⊢
  refine W.eq (g2 := F0 m 0 ((lg_sl ([.ref h0, va_rf p0]) ++ List.replicate (3 - (lg_sl ([.ref h0, va_rf p0])).length) Slot.unset).toArray) []) (by rw [hav]; exact lg_entry_eq m ([.ref h0, va_rf p0]) 3) ?_
  have hl := lv_entry ([.ref h0, va_rf p0]) (n := 3) (by cases p0 <;> exact Nat.le_of_ble_eq_true rfl)
  generalize (lg_sl ([.ref h0, va_rf p0]) ++ List.replicate (3 - (lg_sl ([.ref h0, va_rf p0])).length) Slot.unset).toArray = ls at hl ⊢
  simp only [lvA_nil, lvA_i, lvA_l, lvA_a, lvA_r, Nat.zero_add, Nat.reduceAdd] at hl
  have hret : ∀ (M : hM) (H : Heap) (locs : List Loc) (cells slots : Nat) (ls : Array Slot) (pc : Nat), decode b_Printer_putName pc = .ok (.return_, 1) → (b_ret ()).1 M = some Z → hm_I D dA hCl z k1 s M H locs cells slots → W p l e (headSpec w_Printer_putName { frames := 1, cells := Z.2.2.1 - s.heap.size, slots := Z.2.2.2 - k1, locals := 21 }).room s m args below meth c H locs cells slots (MQ below (hm_Q D dA hCl (hTy dA) sT aK aV z none Z.2) args s (Z.2.2.1 - s.heap.size) (Z.2.2.2 - k1) (fun q => z ≤ q)) (F0 m pc ls []) := fun M H locs cells slots ls pc hdg hf hI => x_retv S hK hG hI hr hlocks hdg hf
  have hR : Z.2.2.1 - s.heap.size ≤ (headSpec w_Printer_putName { frames := 1, cells := Z.2.2.1 - s.heap.size, slots := Z.2.2.2 - k1, locals := 21 }).room.cells ∧ Z.2.2.2 - k1 ≤ (headSpec w_Printer_putName { frames := 1, cells := Z.2.2.1 - s.heap.size, slots := Z.2.2.2 - k1, locals := 21 }).room.slots := ⟨Nat.le_refl _, Nat.le_refl _⟩
  have hRf : 1 ≤ (headSpec w_Printer_putName { frames := 1, cells := Z.2.2.1 - s.heap.size, slots := Z.2.2.2 - k1, locals := 21 }).room.frames ∧ 21 ≤ (headSpec w_Printer_putName { frames := 1, cells := Z.2.2.1 - s.heap.size, slots := Z.2.2.2 - k1, locals := 21 }).room.locals := ⟨Nat.le_refl _, Nat.le_refl _⟩
  generalize (headSpec w_Printer_putName { frames := 1, cells := Z.2.2.1 - s.heap.size, slots := Z.2.2.2 - k1, locals := 21 }).room = R at hret hR hRf ⊢
  generalize (MQ below (hm_Q D dA hCl (hTy dA) sT aK aV z none Z.2) args s (Z.2.2.1 - s.heap.size) (Z.2.2.2 - k1) (fun q => z ≤ q)) = Q at hret ⊢
  rw [e_Printer_putName] at hf
  have w2 : ∀ (n : Nat) (x2 : Int32) (M : hM) (H : Heap) (locs : List Loc) (ls : Array Slot) (cells slots : Nat), (f_Printer_putName_2 N h0 p0  n x2).1 M = some Z → hm_I D dA hCl z k1 s M H locs cells slots → lv_has ls 3 [(0, .ref h0), (1, va_rf p0), (2, .int x2)] → W p l e R s m args below meth c H locs cells slots Q (F0 m 2 ls []) := by
    intro n
    induction n with
    | zero => intro x2 M H locs ls cells slots hf hI hl; cases hf
    | succ n2 ih2 =>
      intro x2 M H locs ls cells slots hf hI hl
      rw [e_Printer_putName_2] at hf
      refine lv_iload_n S.1 S.2.1 d_Printer_putName_2 rfl (lv_at hl 2 rfl) ?_
      refine x_aload_n (r := p0) S d_Printer_putName_3 rfl (lv_at hl 1 rfl) ?_
      obtain ⟨a1, ea1, hg⟩ := b_nn_inv hf
      have hI0 := hI
      have hl0 := hl
      clear hf hI hl
      subst ea1
      have hf := hg
      have hI := hI0
      have hl := hl0
      clear hg hI0 hl0
      refine x_getR (ci := 2) (k := 0) S hK hI (fun w h => List.mem_cons_of_mem _ (i_Name w h)) rfl (by decide) (List.mem_cons_of_mem _ wd_418) rfl d_Printer_putName_4 hf (fun r2 hf => ?_)
      obtain ⟨a3, ea3, hg⟩ := b_nn_inv hf
      have hI0 := hI
      have hl0 := hl
      clear hf hI hl
      subst ea3
      have hf := hg
      have hI := hI0
      have hl := hl0
      clear hg hI0 hl0
      refine x_len (t := 0) S hK hI rfl d_Printer_putName_7 hf (fun v4 hf => ?_)
      refine lv_icmp_ge (tgt := 27) S.1 S.2.1 d_Printer_putName_8 (by decide) (fun hc => ?_) (fun hc => ?_)
      · have hf := b_if_t hc hf
        exact hret _ _ _ _ _ _ _ d_Printer_putName_27 hf hI
      · have hf := b_if_f hc hf
        refine lv_aload_n S.1 S.2.1 d_Printer_putName_11 rfl (lv_at hl 0 rfl) ?_
        refine lv_aload_n S.1 S.2.1 d_Printer_putName_12 rfl (lv_at hl 1 rfl) ?_
        refine x_getR (ci := 2) (k := 0) S hK hI (fun w h => List.mem_cons_of_mem _ (i_Name w h)) rfl (by decide) (List.mem_cons_of_mem _ wd_418) rfl d_Printer_putName_13 hf (fun r5 hf => ?_)
        refine lv_iload_n S.1 S.2.1 d_Printer_putName_16 rfl (lv_at hl 2 rfl) ?_
        obtain ⟨a6, ea6, hg⟩ := b_nn_inv hf
        have hI0 := hI
        have hl0 := hl
        clear hf hI hl
        subst ea6
        have hf := hg
        have hI := hI0
        have hl := hl0
        clear hg hI0 hl0
        refine x_cald (t := 0) S hK hI rfl d_Printer_putName_17 hf (fun v7 hf => ?_)
        obtain ⟨⟨fs11, hefs11⟩, hf⟩ := b_is_inv hf
        obtain ⟨r8, N9, hg10, hf⟩ := b_call_inv hf
        refine x_call hI (hm_mo hg10) (va_runV (As := [.int v7]) (rest := []) S (c_Printer_put l hg10) (cwV 1 S.2.2.2.2 (gi_V wd_420 wd_421 wd_422 wd_31 wd_423) rfl rfl rfl (by decide +kernel) ⟨Nat.le_trans (Nat.le_of_ble_eq_true rfl) hRf.1, Nat.le_trans (Nat.le_of_ble_eq_true rfl) hRf.2⟩) ⟨hm_B.blind, va_recv hK (hI.1.one hefs11) (ci := 5) (q0 := 0) rfl rfl, fun U hU hW => ⟨rfl, hm_B.of hK hG hI hU hW⟩⟩ rfl rfl hl.1 rfl (lv_room (Nat.le_of_ble_eq_true rfl)) d_Printer_putName_18 (hx_fit hI hR (hm_mo hg10) (hm_mo hf))) (fun H locs cells slots hI => ?_)
        refine W.eq (g2 := F0 m 21 ls []) rfl ?_
        refine x_iinc (v := 1) (lv2 := [(0, .ref h0), (1, .ref a1)]) S d_Printer_putName_21 hl 2 rfl (by decide) (by decide) [0, 1] rfl ⟨⟨(by decide : (0 : Nat) ≠ 2), fun h => absurd (show (0 : Nat) + 1 = 2 from h) (by decide)⟩, ⟨⟨(by decide : (1 : Nat) ≠ 2), fun _ => rfl⟩, trivial⟩⟩ (fun ls hl => ?_)
        refine lv_goto (tgt := 2) S.1 S.2.1 d_Printer_putName_24 (by decide) ?_
        exact ih2 (x2 + 1) _ _ _ _ _ _ hf hI (lv_sub hl [1, 2, 0] rfl)
  refine lv_iconst (v := 0) S.1 S.2.1 d_Printer_putName_0 (by decide) ?_
  refine x_istore_n (lv2 := [(0, .ref h0), (1, va_rf p0)]) S d_Printer_putName_1 rfl hl (by decide) [0, 1] rfl ⟨⟨(by decide : (0 : Nat) ≠ 2), fun h => absurd (show (0 : Nat) + 1 = 2 from h) (by decide)⟩, ⟨⟨(by decide : (1 : Nat) ≠ 2), fun _ => rf_cat _⟩, trivial⟩⟩ (fun ls hl => ?_)
  exact w2 N 0 _ _ _ _ _ _ hf hI (lv_sub hl [1, 2, 0] rfl)
set_option maxHeartbeats 4000000 in
set_option maxRecDepth 100000 in
theorem c_Printer_putNumber (l : Launch) {D : va_G} {dA : Nat → ClassId} {aK aV : Nat → Nat} {z : Nat} {N : Nat} {h0 : Nat} {p0 : Int64} {M : hM} {Z : Unit × hM} (hf : (f_Printer_putNumber N h0 p0).1 M = some Z) : Met l y_Printer_putNumber w_Printer_putNumber ({ frames := 1, cells := Z.2.2.1 - M.2.1, slots := Z.2.2.2 - M.2.2, locals := 21 }) (va_Pc [.ref h0, .long p0] (hm_B D dA hCl (hTy dA) sT aK aV z M)) (hm_Q D dA hCl (hTy dA) sT aK aV z none Z.2) (Z.2.2.1 - M.2.1) (Z.2.2.2 - M.2.2) (fun q => z ≤ q) := by
  refine Met.ofW (cc := b_Printer_putNumber) (maxL := 6) (ret := none) (by decide) rfl ?_
  intro p e s m args below meth c s₁ B hml hv
  obtain ⟨hav, hB⟩ := hv
  have S : CallFix p m c b_Printer_putNumber 6 s args w_Printer_putNumber R_Printer := ⟨B.exec, B.bytes, hml, findClass_of_methodNamed B.named, atoms_spec (ws := w_Printer_putNumber) B.pre⟩
  have hr : meth.sig.returnType = none := B.returns
  have hlocks := B.notSynchronized
  have hK := hB.2.2.1
  have hG := hB.2.2.2.2.2
  have hI := hm_I.start hB
  rw [← hB.2.1]
  generalize M.2.2 = k1 at hI ⊢
  refine W.eq (g2 := F0 m 0 ((lg_sl ([.ref h0, .long p0]) ++ List.replicate (6 - (lg_sl ([.ref h0, .long p0])).length) Slot.unset).toArray) []) (by rw [hav]; exact lg_entry_eq m ([.ref h0, .long p0]) 6) ?_
  have hl := lv_entry ([.ref h0, .long p0]) (n := 6) (Nat.le_of_ble_eq_true rfl)
  generalize (lg_sl ([.ref h0, .long p0]) ++ List.replicate (6 - (lg_sl ([.ref h0, .long p0])).length) Slot.unset).toArray = ls at hl ⊢
  simp only [lvA_nil, lvA_i, lvA_l, lvA_a, lvA_r, Nat.zero_add, Nat.reduceAdd] at hl
  have hret : ∀ (M : hM) (H : Heap) (locs : List Loc) (cells slots : Nat) (ls : Array Slot) (pc : Nat), decode b_Printer_putNumber pc = .ok (.return_, 1) → (b_ret ()).1 M = some Z → hm_I D dA hCl z k1 s M H locs cells slots → W p l e (headSpec w_Printer_putNumber { frames := 1, cells := Z.2.2.1 - s.heap.size, slots := Z.2.2.2 - k1, locals := 21 }).room s m args below meth c H locs cells slots (MQ below (hm_Q D dA hCl (hTy dA) sT aK aV z none Z.2) args s (Z.2.2.1 - s.heap.size) (Z.2.2.2 - k1) (fun q => z ≤ q)) (F0 m pc ls []) := fun M H locs cells slots ls pc hdg hf hI => x_retv S hK hG hI hr hlocks hdg hf
  have hR : Z.2.2.1 - s.heap.size ≤ (headSpec w_Printer_putNumber { frames := 1, cells := Z.2.2.1 - s.heap.size, slots := Z.2.2.2 - k1, locals := 21 }).room.cells ∧ Z.2.2.2 - k1 ≤ (headSpec w_Printer_putNumber { frames := 1, cells := Z.2.2.1 - s.heap.size, slots := Z.2.2.2 - k1, locals := 21 }).room.slots := ⟨Nat.le_refl _, Nat.le_refl _⟩
  have hRf : 1 ≤ (headSpec w_Printer_putNumber { frames := 1, cells := Z.2.2.1 - s.heap.size, slots := Z.2.2.2 - k1, locals := 21 }).room.frames ∧ 21 ≤ (headSpec w_Printer_putNumber { frames := 1, cells := Z.2.2.1 - s.heap.size, slots := Z.2.2.2 - k1, locals := 21 }).room.locals := ⟨Nat.le_refl _, Nat.le_refl _⟩
  generalize (headSpec w_Printer_putNumber { frames := 1, cells := Z.2.2.1 - s.heap.size, slots := Z.2.2.2 - k1, locals := 21 }).room = R at hret hR hRf ⊢
  generalize (MQ below (hm_Q D dA hCl (hTy dA) sT aK aV z none Z.2) args s (Z.2.2.1 - s.heap.size) (Z.2.2.2 - k1) (fun q => z ≤ q)) = Q at hret ⊢
  rw [e_Printer_putNumber] at hf
  have w5 : ∀ (n : Nat) (x3 : Int64) (x5 : Int32) (M : hM) (H : Heap) (locs : List Loc) (ls : Array Slot) (cells slots : Nat), (f_Printer_putNumber_5 N h0 p0  n x3 x5).1 M = some Z → hm_I D dA hCl z k1 s M H locs cells slots → lv_has ls 6 [(0, .ref h0), (1, .long p0), (3, .long x3), (5, .int x5)] → W p l e R s m args below meth c H locs cells slots Q (F0 m 5 ls []) := by
    intro n
    induction n with
    | zero => intro x3 x5 M H locs ls cells slots hf hI hl; cases hf
    | succ n5 ih5 =>
      intro x3 x5 M H locs ls cells slots hf hI hl
      rw [e_Printer_putNumber_5] at hf
      have w34 : ∀ (n : Nat) (x3 : Int64) (M : hM) (H : Heap) (locs : List Loc) (ls : Array Slot) (cells slots : Nat), (f_Printer_putNumber_34 N h0 p0  n x3).1 M = some Z → hm_I D dA hCl z k1 s M H locs cells slots → lv_has ls 6 [(0, .ref h0), (1, .long p0), (3, .long x3)] → W p l e R s m args below meth c H locs cells slots Q (F0 m 34 ls []) := by
        intro n
        induction n with
        | zero => intro x3 M H locs ls cells slots hf hI hl; cases hf
        | succ n34 ih34 =>
          intro x3 M H locs ls cells slots hf hI hl
          rw [e_Printer_putNumber_34] at hf
          refine lv_lload_n S.1 S.2.1 d_Printer_putNumber_34 rfl (lv_at hl 2 rfl) ?_
          refine lv_lconst (v := 0) S.1 S.2.1 d_Printer_putNumber_35 (by decide) ?_
          refine W.lcmp S.1 S.2.1 d_Printer_putNumber_36 ?_
          refine lv_if_le (tgt := 66) S.1 S.2.1 d_Printer_putNumber_37 (by decide) (fun hc => ?_) (fun hc => ?_)
          · have hf := b_if_t hc hf
            exact hret _ _ _ _ _ _ _ d_Printer_putNumber_66 hf hI
          · have hf := b_if_f hc hf
            refine lv_aload_n S.1 S.2.1 d_Printer_putNumber_40 rfl (lv_at hl 0 rfl) ?_
            refine lv_ldc2 (v := 48) S.1 S.2.1 S.2.2.2.1 (S.2.2.2.2 _ (List.mem_cons_of_mem _ wd_430)) d_Printer_putNumber_41 ?_
            refine lv_lload_n S.1 S.2.1 d_Printer_putNumber_44 rfl (lv_at hl 1 rfl) ?_
            refine lv_lload_n S.1 S.2.1 d_Printer_putNumber_45 rfl (lv_at hl 2 rfl) ?_
            obtain ⟨hne, hf⟩ := b_ifn hf
            refine lv_ldiv S.1 S.2.1 d_Printer_putNumber_46 hne ?_
            refine lv_ldc2 (v := 10) S.1 S.2.1 S.2.2.2.1 (S.2.2.2.2 _ (List.mem_cons_of_mem _ wd_431)) d_Printer_putNumber_47 ?_
            refine lv_lrem S.1 S.2.1 d_Printer_putNumber_50 (by decide) ?_
            refine lv_ladd S.1 S.2.1 d_Printer_putNumber_51 ?_
            refine lv_l2i S.1 S.2.1 d_Printer_putNumber_52 rfl ?_
            refine lv_i2c S.1 S.2.1 d_Printer_putNumber_53 rfl ?_
            obtain ⟨⟨fs4, hefs4⟩, hf⟩ := b_is_inv hf
            obtain ⟨r1, N2, hg3, hf⟩ := b_call_inv hf
            refine x_call hI (hm_mo hg3) (va_runV (As := [.int ((((((48 + ((p0 / x3) - (p0 / x3) / 10 * 10)) : Int64).toInt32) : Int32).toUInt32 % 65536).toInt32)]) (rest := []) S (c_Printer_put l hg3) (cwV 1 S.2.2.2.2 (gi_V wd_420 wd_421 wd_422 wd_31 wd_423) rfl rfl rfl (by decide +kernel) ⟨Nat.le_trans (Nat.le_of_ble_eq_true rfl) hRf.1, Nat.le_trans (Nat.le_of_ble_eq_true rfl) hRf.2⟩) ⟨hm_B.blind, va_recv hK (hI.1.one hefs4) (ci := 5) (q0 := 0) rfl rfl, fun U hU hW => ⟨rfl, hm_B.of hK hG hI hU hW⟩⟩ rfl rfl hl.1 rfl (lv_room (Nat.le_of_ble_eq_true rfl)) d_Printer_putNumber_54 (hx_fit hI hR (hm_mo hg3) (hm_mo hf))) (fun H locs cells slots hI => ?_)
            refine W.eq (g2 := F0 m 57 ls []) rfl ?_
            refine lv_lload_n S.1 S.2.1 d_Printer_putNumber_57 rfl (lv_at hl 2 rfl) ?_
            refine lv_ldc2 (v := 10) S.1 S.2.1 S.2.2.2.1 (S.2.2.2.2 _ (List.mem_cons_of_mem _ wd_431)) d_Printer_putNumber_58 ?_
            refine lv_ldiv S.1 S.2.1 d_Printer_putNumber_61 (by decide) ?_
            refine x_lstore_n (lv2 := [(0, .ref h0), (1, .long p0)]) S d_Printer_putNumber_62 rfl hl (by decide) [0, 1] rfl ⟨⟨(by decide : (0 : Nat) ≠ 3), (by decide : (0 : Nat) ≠ 3 + 1), fun h => absurd (show (0 : Nat) + 1 = 3 from h) (by decide)⟩, ⟨⟨(by decide : (1 : Nat) ≠ 3), (by decide : (1 : Nat) ≠ 3 + 1), fun h => absurd (show (1 : Nat) + 1 = 3 from h) (by decide)⟩, trivial⟩⟩ (fun ls hl => ?_)
            refine lv_goto (tgt := 34) S.1 S.2.1 d_Printer_putNumber_63 (by decide) ?_
            exact ih34 (x3 / 10) _ _ _ _ _ _ hf hI (lv_sub hl [1, 2, 0] rfl)
      refine lv_iload S.1 S.2.1 d_Printer_putNumber_5 (lv_at hl 3 rfl) ?_
      refine lv_bipush (v := 6) S.1 S.2.1 d_Printer_putNumber_7 (by decide) ?_
      refine lv_icmp_ge (tgt := 34) S.1 S.2.1 d_Printer_putNumber_9 (by decide) (fun hc => ?_) (fun hc => ?_)
      · have hf := b_if_t hc hf
        exact w34 N x3 _ _ _ _ _ _ hf hI (lv_sub hl [0, 1, 2] rfl)
      · have hf := b_if_f hc hf
        refine lv_lload_n S.1 S.2.1 d_Printer_putNumber_12 rfl (lv_at hl 1 rfl) ?_
        refine lv_lload_n S.1 S.2.1 d_Printer_putNumber_13 rfl (lv_at hl 2 rfl) ?_
        obtain ⟨hne, hf⟩ := b_ifn hf
        refine lv_ldiv S.1 S.2.1 d_Printer_putNumber_14 hne ?_
        refine lv_ldc2 (v := 10) S.1 S.2.1 S.2.2.2.1 (S.2.2.2.2 _ (List.mem_cons_of_mem _ wd_431)) d_Printer_putNumber_15 ?_
        refine W.lcmp S.1 S.2.1 d_Printer_putNumber_18 ?_
        refine lv_if_lt (tgt := 34) S.1 S.2.1 d_Printer_putNumber_19 (by decide) (fun hc => ?_) (fun hc => ?_)
        · have hf := b_if_t hc hf
          exact w34 N x3 _ _ _ _ _ _ hf hI (lv_sub hl [0, 1, 2] rfl)
        · have hf := b_if_f hc hf
          refine lv_lload_n S.1 S.2.1 d_Printer_putNumber_22 rfl (lv_at hl 2 rfl) ?_
          refine lv_ldc2 (v := 10) S.1 S.2.1 S.2.2.2.1 (S.2.2.2.2 _ (List.mem_cons_of_mem _ wd_431)) d_Printer_putNumber_23 ?_
          refine lv_lmul S.1 S.2.1 d_Printer_putNumber_26 ?_
          refine x_lstore_n (lv2 := [(0, .ref h0), (1, .long p0), (5, .int x5)]) S d_Printer_putNumber_27 rfl hl (by decide) [0, 1, 3] rfl ⟨⟨(by decide : (0 : Nat) ≠ 3), (by decide : (0 : Nat) ≠ 3 + 1), fun h => absurd (show (0 : Nat) + 1 = 3 from h) (by decide)⟩, ⟨⟨(by decide : (1 : Nat) ≠ 3), (by decide : (1 : Nat) ≠ 3 + 1), fun h => absurd (show (1 : Nat) + 1 = 3 from h) (by decide)⟩, ⟨⟨(by decide : (5 : Nat) ≠ 3), (by decide : (5 : Nat) ≠ 3 + 1), fun h => absurd (show (5 : Nat) + 1 = 3 from h) (by decide)⟩, trivial⟩⟩⟩ (fun ls hl => ?_)
          refine x_iinc (v := 1) (lv2 := [(3, .long (x3 * 10)), (0, .ref h0), (1, .long p0)]) S d_Printer_putNumber_28 hl 3 rfl (by decide) (by decide) [0, 1, 2] rfl ⟨⟨(by decide : (3 : Nat) ≠ 5), fun h => absurd (show (3 : Nat) + 1 = 5 from h) (by decide)⟩, ⟨⟨(by decide : (0 : Nat) ≠ 5), fun h => absurd (show (0 : Nat) + 1 = 5 from h) (by decide)⟩, ⟨⟨(by decide : (1 : Nat) ≠ 5), fun h => absurd (show (1 : Nat) + 1 = 5 from h) (by decide)⟩, trivial⟩⟩⟩ (fun ls hl => ?_)
          refine lv_goto (tgt := 5) S.1 S.2.1 d_Printer_putNumber_31 (by decide) ?_
          exact ih5 (x3 * 10) (x5 + 1) _ _ _ _ _ _ hf hI (lv_sub hl [2, 3, 1, 0] rfl)
  refine lv_lconst (v := 1) S.1 S.2.1 d_Printer_putNumber_0 (by decide) ?_
  refine x_lstore_n (lv2 := [(0, .ref h0), (1, .long p0)]) S d_Printer_putNumber_1 rfl hl (by decide) [0, 1] rfl ⟨⟨(by decide : (0 : Nat) ≠ 3), (by decide : (0 : Nat) ≠ 3 + 1), fun h => absurd (show (0 : Nat) + 1 = 3 from h) (by decide)⟩, ⟨⟨(by decide : (1 : Nat) ≠ 3), (by decide : (1 : Nat) ≠ 3 + 1), fun h => absurd (show (1 : Nat) + 1 = 3 from h) (by decide)⟩, trivial⟩⟩ (fun ls hl => ?_)
  refine lv_iconst (v := 1) S.1 S.2.1 d_Printer_putNumber_2 (by decide) ?_
  refine x_istore (lv2 := [(3, .long 1), (0, .ref h0), (1, .long p0)]) S d_Printer_putNumber_3 hl (by decide) [0, 1, 2] rfl ⟨⟨(by decide : (3 : Nat) ≠ 5), fun h => absurd (show (3 : Nat) + 1 = 5 from h) (by decide)⟩, ⟨⟨(by decide : (0 : Nat) ≠ 5), fun h => absurd (show (0 : Nat) + 1 = 5 from h) (by decide)⟩, ⟨⟨(by decide : (1 : Nat) ≠ 5), fun h => absurd (show (1 : Nat) + 1 = 5 from h) (by decide)⟩, trivial⟩⟩⟩ (fun ls hl => ?_)
  exact w5 N 1 1 _ _ _ _ _ _ hf hI (lv_sub hl [2, 3, 1, 0] rfl)
set_option maxHeartbeats 4000000 in
set_option maxRecDepth 100000 in
theorem c_Printer_putVersion (l : Launch) {D : va_G} {dA : Nat → ClassId} {aK aV : Nat → Nat} {z : Nat} {N : Nat} {h0 : Nat} {p0 : Int64} {M : hM} {Z : Unit × hM} (hf : (f_Printer_putVersion N h0 p0).1 M = some Z) : Met l y_Printer_putVersion w_Printer_putVersion ({ frames := 2, cells := Z.2.2.1 - M.2.1, slots := Z.2.2.2 - M.2.2, locals := 46 }) (va_Pc [.ref h0, .long p0] (hm_B D dA hCl (hTy dA) sT aK aV z M)) (hm_Q D dA hCl (hTy dA) sT aK aV z none Z.2) (Z.2.2.1 - M.2.1) (Z.2.2.2 - M.2.2) (fun q => z ≤ q) := by
  refine Met.ofW (cc := b_Printer_putVersion) (maxL := 3) (ret := none) (by decide) rfl ?_
  intro p e s m args below meth c s₁ B hml hv
  obtain ⟨hav, hB⟩ := hv
  have S : CallFix p m c b_Printer_putVersion 3 s args w_Printer_putVersion R_Printer := ⟨B.exec, B.bytes, hml, findClass_of_methodNamed B.named, atoms_spec (ws := w_Printer_putVersion) B.pre⟩
  have hr : meth.sig.returnType = none := B.returns
  have hlocks := B.notSynchronized
  have hK := hB.2.2.1
  have hG := hB.2.2.2.2.2
  have hI := hm_I.start hB
  rw [← hB.2.1]
  generalize M.2.2 = k1 at hI ⊢
  refine W.eq (g2 := F0 m 0 ((lg_sl ([.ref h0, .long p0]) ++ List.replicate (3 - (lg_sl ([.ref h0, .long p0])).length) Slot.unset).toArray) []) (by rw [hav]; exact lg_entry_eq m ([.ref h0, .long p0]) 3) ?_
  have hl := lv_entry ([.ref h0, .long p0]) (n := 3) (Nat.le_of_ble_eq_true rfl)
  generalize (lg_sl ([.ref h0, .long p0]) ++ List.replicate (3 - (lg_sl ([.ref h0, .long p0])).length) Slot.unset).toArray = ls at hl ⊢
  simp only [lvA_nil, lvA_i, lvA_l, lvA_a, lvA_r, Nat.zero_add, Nat.reduceAdd] at hl
  have hret : ∀ (M : hM) (H : Heap) (locs : List Loc) (cells slots : Nat) (ls : Array Slot) (pc : Nat), decode b_Printer_putVersion pc = .ok (.return_, 1) → (b_ret ()).1 M = some Z → hm_I D dA hCl z k1 s M H locs cells slots → W p l e (headSpec w_Printer_putVersion { frames := 2, cells := Z.2.2.1 - s.heap.size, slots := Z.2.2.2 - k1, locals := 46 }).room s m args below meth c H locs cells slots (MQ below (hm_Q D dA hCl (hTy dA) sT aK aV z none Z.2) args s (Z.2.2.1 - s.heap.size) (Z.2.2.2 - k1) (fun q => z ≤ q)) (F0 m pc ls []) := fun M H locs cells slots ls pc hdg hf hI => x_retv S hK hG hI hr hlocks hdg hf
  have hR : Z.2.2.1 - s.heap.size ≤ (headSpec w_Printer_putVersion { frames := 2, cells := Z.2.2.1 - s.heap.size, slots := Z.2.2.2 - k1, locals := 46 }).room.cells ∧ Z.2.2.2 - k1 ≤ (headSpec w_Printer_putVersion { frames := 2, cells := Z.2.2.1 - s.heap.size, slots := Z.2.2.2 - k1, locals := 46 }).room.slots := ⟨Nat.le_refl _, Nat.le_refl _⟩
  have hRf : 2 ≤ (headSpec w_Printer_putVersion { frames := 2, cells := Z.2.2.1 - s.heap.size, slots := Z.2.2.2 - k1, locals := 46 }).room.frames ∧ 46 ≤ (headSpec w_Printer_putVersion { frames := 2, cells := Z.2.2.1 - s.heap.size, slots := Z.2.2.2 - k1, locals := 46 }).room.locals := ⟨Nat.le_refl _, Nat.le_refl _⟩
  generalize (headSpec w_Printer_putVersion { frames := 2, cells := Z.2.2.1 - s.heap.size, slots := Z.2.2.2 - k1, locals := 46 }).room = R at hret hR hRf ⊢
  generalize (MQ below (hm_Q D dA hCl (hTy dA) sT aK aV z none Z.2) args s (Z.2.2.1 - s.heap.size) (Z.2.2.2 - k1) (fun q => z ≤ q)) = Q at hret ⊢
  rw [e_Printer_putVersion] at hf
  refine lv_aload_n S.1 S.2.1 d_Printer_putVersion_0 rfl (lv_at hl 0 rfl) ?_
  refine lv_lload_n S.1 S.2.1 d_Printer_putVersion_1 rfl (lv_at hl 1 rfl) ?_
  refine lv_ldc2 (v := 1000000) S.1 S.2.1 S.2.2.2.1 (S.2.2.2.2 _ (List.mem_cons_of_mem _ wd_438)) d_Printer_putVersion_2 ?_
  refine lv_ldiv S.1 S.2.1 d_Printer_putVersion_5 (by decide) ?_
  refine lv_ldc2 (v := 1000000) S.1 S.2.1 S.2.2.2.1 (S.2.2.2.2 _ (List.mem_cons_of_mem _ wd_438)) d_Printer_putVersion_6 ?_
  refine lv_ldiv S.1 S.2.1 d_Printer_putVersion_9 (by decide) ?_
  obtain ⟨⟨fs4, hefs4⟩, hf⟩ := b_is_inv hf
  obtain ⟨r1, N2, hg3, hf⟩ := b_call_inv hf
  refine x_call hI (hm_mo hg3) (va_runV (As := [.long ((p0 / 1000000) / 1000000)]) (rest := []) S (c_Printer_putNumber l hg3) (cwV 1 S.2.2.2.2 (gi_V wd_432 wd_433 wd_434 wd_31 wd_435) rfl rfl rfl (by decide +kernel) ⟨Nat.le_trans (Nat.le_of_ble_eq_true rfl) hRf.1, Nat.le_trans (Nat.le_of_ble_eq_true rfl) hRf.2⟩) ⟨hm_B.blind, va_recv hK (hI.1.one hefs4) (ci := 5) (q0 := 0) rfl rfl, fun U hU hW => ⟨rfl, hm_B.of hK hG hI hU hW⟩⟩ rfl rfl hl.1 rfl (lv_room (Nat.le_of_ble_eq_true rfl)) d_Printer_putVersion_10 (hx_fit hI hR (hm_mo hg3) (hm_mo hf))) (fun H locs cells slots hI => ?_)
  refine W.eq (g2 := F0 m 13 ls []) rfl ?_
  refine lv_aload_n S.1 S.2.1 d_Printer_putVersion_13 rfl (lv_at hl 0 rfl) ?_
  refine lv_bipush (v := 46) S.1 S.2.1 d_Printer_putVersion_14 (by decide) ?_
  obtain ⟨⟨fs8, hefs8⟩, hf⟩ := b_is_inv hf
  obtain ⟨r5, N6, hg7, hf⟩ := b_call_inv hf
  refine x_call hI (hm_mo hg7) (va_runV (As := [.int 46]) (rest := []) S (c_Printer_put l hg7) (cwV 1 S.2.2.2.2 (gi_V wd_420 wd_421 wd_422 wd_31 wd_423) rfl rfl rfl (by decide +kernel) ⟨Nat.le_trans (Nat.le_of_ble_eq_true rfl) hRf.1, Nat.le_trans (Nat.le_of_ble_eq_true rfl) hRf.2⟩) ⟨hm_B.blind, va_recv hK (hI.1.one hefs8) (ci := 5) (q0 := 0) rfl rfl, fun U hU hW => ⟨rfl, hm_B.of hK hG hI hU hW⟩⟩ rfl rfl hl.1 rfl (lv_room (Nat.le_of_ble_eq_true rfl)) d_Printer_putVersion_16 (hx_fit hI hR (hm_mo hg7) (hm_mo hf))) (fun H locs cells slots hI => ?_)
  refine W.eq (g2 := F0 m 19 ls []) rfl ?_
  refine lv_aload_n S.1 S.2.1 d_Printer_putVersion_19 rfl (lv_at hl 0 rfl) ?_
  refine lv_lload_n S.1 S.2.1 d_Printer_putVersion_20 rfl (lv_at hl 1 rfl) ?_
  refine lv_ldc2 (v := 1000000) S.1 S.2.1 S.2.2.2.1 (S.2.2.2.2 _ (List.mem_cons_of_mem _ wd_438)) d_Printer_putVersion_21 ?_
  refine lv_ldiv S.1 S.2.1 d_Printer_putVersion_24 (by decide) ?_
  refine lv_ldc2 (v := 1000000) S.1 S.2.1 S.2.2.2.1 (S.2.2.2.2 _ (List.mem_cons_of_mem _ wd_438)) d_Printer_putVersion_25 ?_
  refine lv_lrem S.1 S.2.1 d_Printer_putVersion_28 (by decide) ?_
  obtain ⟨⟨fs12, hefs12⟩, hf⟩ := b_is_inv hf
  obtain ⟨r9, N10, hg11, hf⟩ := b_call_inv hf
  refine x_call hI (hm_mo hg11) (va_runV (As := [.long ((p0 / 1000000) - (p0 / 1000000) / 1000000 * 1000000)]) (rest := []) S (c_Printer_putNumber l hg11) (cwV 1 S.2.2.2.2 (gi_V wd_432 wd_433 wd_434 wd_31 wd_435) rfl rfl rfl (by decide +kernel) ⟨Nat.le_trans (Nat.le_of_ble_eq_true rfl) hRf.1, Nat.le_trans (Nat.le_of_ble_eq_true rfl) hRf.2⟩) ⟨hm_B.blind, va_recv hK (hI.1.one hefs12) (ci := 5) (q0 := 0) rfl rfl, fun U hU hW => ⟨rfl, hm_B.of hK hG hI hU hW⟩⟩ rfl rfl hl.1 rfl (lv_room (Nat.le_of_ble_eq_true rfl)) d_Printer_putVersion_29 (hx_fit hI hR (hm_mo hg11) (hm_mo hf))) (fun H locs cells slots hI => ?_)
  refine W.eq (g2 := F0 m 32 ls []) rfl ?_
  refine lv_aload_n S.1 S.2.1 d_Printer_putVersion_32 rfl (lv_at hl 0 rfl) ?_
  refine lv_bipush (v := 46) S.1 S.2.1 d_Printer_putVersion_33 (by decide) ?_
  obtain ⟨⟨fs16, hefs16⟩, hf⟩ := b_is_inv hf
  obtain ⟨r13, N14, hg15, hf⟩ := b_call_inv hf
  refine x_call hI (hm_mo hg15) (va_runV (As := [.int 46]) (rest := []) S (c_Printer_put l hg15) (cwV 1 S.2.2.2.2 (gi_V wd_420 wd_421 wd_422 wd_31 wd_423) rfl rfl rfl (by decide +kernel) ⟨Nat.le_trans (Nat.le_of_ble_eq_true rfl) hRf.1, Nat.le_trans (Nat.le_of_ble_eq_true rfl) hRf.2⟩) ⟨hm_B.blind, va_recv hK (hI.1.one hefs16) (ci := 5) (q0 := 0) rfl rfl, fun U hU hW => ⟨rfl, hm_B.of hK hG hI hU hW⟩⟩ rfl rfl hl.1 rfl (lv_room (Nat.le_of_ble_eq_true rfl)) d_Printer_putVersion_35 (hx_fit hI hR (hm_mo hg15) (hm_mo hf))) (fun H locs cells slots hI => ?_)
  refine W.eq (g2 := F0 m 38 ls []) rfl ?_
  refine lv_aload_n S.1 S.2.1 d_Printer_putVersion_38 rfl (lv_at hl 0 rfl) ?_
  refine lv_lload_n S.1 S.2.1 d_Printer_putVersion_39 rfl (lv_at hl 1 rfl) ?_
  refine lv_ldc2 (v := 1000000) S.1 S.2.1 S.2.2.2.1 (S.2.2.2.2 _ (List.mem_cons_of_mem _ wd_438)) d_Printer_putVersion_40 ?_
  refine lv_lrem S.1 S.2.1 d_Printer_putVersion_43 (by decide) ?_
  obtain ⟨⟨fs20, hefs20⟩, hf⟩ := b_is_inv hf
  obtain ⟨r17, N18, hg19, hf⟩ := b_call_inv hf
  refine x_call hI (hm_mo hg19) (va_runV (As := [.long (p0 - p0 / 1000000 * 1000000)]) (rest := []) S (c_Printer_putNumber l hg19) (cwV 1 S.2.2.2.2 (gi_V wd_432 wd_433 wd_434 wd_31 wd_435) rfl rfl rfl (by decide +kernel) ⟨Nat.le_trans (Nat.le_of_ble_eq_true rfl) hRf.1, Nat.le_trans (Nat.le_of_ble_eq_true rfl) hRf.2⟩) ⟨hm_B.blind, va_recv hK (hI.1.one hefs20) (ci := 5) (q0 := 0) rfl rfl, fun U hU hW => ⟨rfl, hm_B.of hK hG hI hU hW⟩⟩ rfl rfl hl.1 rfl (lv_room (Nat.le_of_ble_eq_true rfl)) d_Printer_putVersion_44 (hx_fit hI hR (hm_mo hg19) (hm_mo hf))) (fun H locs cells slots hI => ?_)
  refine W.eq (g2 := F0 m 47 ls []) rfl ?_
  exact hret _ _ _ _ _ _ _ d_Printer_putVersion_47 hf hI
set_option maxHeartbeats 4000000 in
set_option maxRecDepth 100000 in
theorem c_Printer_putText (l : Launch) {D : va_G} {dA : Nat → ClassId} {aK aV : Nat → Nat} {z : Nat} {N : Nat} {h0 : Nat} {p0 : Option Nat} {M : hM} {Z : Unit × hM} (hf : (f_Printer_putText N h0 p0).1 M = some Z) : Met l y_Printer_putText w_Printer_putText ({ frames := 4, cells := Z.2.2.1 - M.2.1, slots := Z.2.2.2 - M.2.2, locals := 85 }) (va_Pc [.ref h0, va_rf (Option.map aK p0)] (hm_B D dA hCl (hTy dA) sT aK aV z M)) (hm_Q D dA hCl (hTy dA) sT aK aV z none Z.2) (Z.2.2.1 - M.2.1) (Z.2.2.2 - M.2.2) (fun q => z ≤ q) := by
  refine Met.ofW (cc := b_Printer_putText) (maxL := 3) (ret := none) (by decide) rfl ?_
  intro p e s m args below meth c s₁ B hml hv
  obtain ⟨hav, hB⟩ := hv
  have S : CallFix p m c b_Printer_putText 3 s args w_Printer_putText R_Printer := ⟨B.exec, B.bytes, hml, findClass_of_methodNamed B.named, atoms_spec (ws := w_Printer_putText) B.pre⟩
  have hr : meth.sig.returnType = none := B.returns
  have hlocks := B.notSynchronized
  have hK := hB.2.2.1
  have hG := hB.2.2.2.2.2
  have hI := hm_I.start hB
  rw [← hB.2.1]
  generalize M.2.2 = k1 at hI ⊢
  refine W.eq (g2 := F0 m 0 ((lg_sl ([.ref h0, va_rf (Option.map aK p0)]) ++ List.replicate (3 - (lg_sl ([.ref h0, va_rf (Option.map aK p0)])).length) Slot.unset).toArray) []) (by rw [hav]; exact lg_entry_eq m ([.ref h0, va_rf (Option.map aK p0)]) 3) ?_
  have hl := lv_entry ([.ref h0, va_rf (Option.map aK p0)]) (n := 3) (by cases p0 <;> exact Nat.le_of_ble_eq_true rfl)
  generalize (lg_sl ([.ref h0, va_rf (Option.map aK p0)]) ++ List.replicate (3 - (lg_sl ([.ref h0, va_rf (Option.map aK p0)])).length) Slot.unset).toArray = ls at hl ⊢
  simp only [lvA_nil, lvA_i, lvA_l, lvA_a, lvA_r, Nat.zero_add, Nat.reduceAdd] at hl
  have hret : ∀ (M : hM) (H : Heap) (locs : List Loc) (cells slots : Nat) (ls : Array Slot) (pc : Nat), decode b_Printer_putText pc = .ok (.return_, 1) → (b_ret ()).1 M = some Z → hm_I D dA hCl z k1 s M H locs cells slots → W p l e (headSpec w_Printer_putText { frames := 4, cells := Z.2.2.1 - s.heap.size, slots := Z.2.2.2 - k1, locals := 85 }).room s m args below meth c H locs cells slots (MQ below (hm_Q D dA hCl (hTy dA) sT aK aV z none Z.2) args s (Z.2.2.1 - s.heap.size) (Z.2.2.2 - k1) (fun q => z ≤ q)) (F0 m pc ls []) := fun M H locs cells slots ls pc hdg hf hI => x_retv S hK hG hI hr hlocks hdg hf
  have hR : Z.2.2.1 - s.heap.size ≤ (headSpec w_Printer_putText { frames := 4, cells := Z.2.2.1 - s.heap.size, slots := Z.2.2.2 - k1, locals := 85 }).room.cells ∧ Z.2.2.2 - k1 ≤ (headSpec w_Printer_putText { frames := 4, cells := Z.2.2.1 - s.heap.size, slots := Z.2.2.2 - k1, locals := 85 }).room.slots := ⟨Nat.le_refl _, Nat.le_refl _⟩
  have hRf : 4 ≤ (headSpec w_Printer_putText { frames := 4, cells := Z.2.2.1 - s.heap.size, slots := Z.2.2.2 - k1, locals := 85 }).room.frames ∧ 85 ≤ (headSpec w_Printer_putText { frames := 4, cells := Z.2.2.1 - s.heap.size, slots := Z.2.2.2 - k1, locals := 85 }).room.locals := ⟨Nat.le_refl _, Nat.le_refl _⟩
  generalize (headSpec w_Printer_putText { frames := 4, cells := Z.2.2.1 - s.heap.size, slots := Z.2.2.2 - k1, locals := 85 }).room = R at hret hR hRf ⊢
  generalize (MQ below (hm_Q D dA hCl (hTy dA) sT aK aV z none Z.2) args s (Z.2.2.1 - s.heap.size) (Z.2.2.2 - k1) (fun q => z ≤ q)) = Q at hret ⊢
  rw [e_Printer_putText] at hf
  have w2 : ∀ (n : Nat) (x2 : Int32) (M : hM) (H : Heap) (locs : List Loc) (ls : Array Slot) (cells slots : Nat), (f_Printer_putText_2 N h0 p0  n x2).1 M = some Z → hm_I D dA hCl z k1 s M H locs cells slots → lv_has ls 3 [(0, .ref h0), (1, va_rf (Option.map aK p0)), (2, .int x2)] → W p l e R s m args below meth c H locs cells slots Q (F0 m 2 ls []) := by
    intro n
    induction n with
    | zero => intro x2 M H locs ls cells slots hf hI hl; cases hf
    | succ n2 ih2 =>
      intro x2 M H locs ls cells slots hf hI hl
      rw [e_Printer_putText_2] at hf
      refine lv_iload_n S.1 S.2.1 d_Printer_putText_2 rfl (lv_at hl 2 rfl) ?_
      refine x_aload_n (r := (Option.map aK p0)) S d_Printer_putText_3 rfl (lv_at hl 1 rfl) ?_
      obtain ⟨a1, ea1, hg⟩ := b_nn_inv hf
      have hI0 := hI
      have hl0 := hl
      clear hf hI hl
      subst ea1
      have hf := hg
      have hI := hI0
      have hl := hl0
      clear hg hI0 hl0
      refine x_slen S hK hG hI hR wd_445 hl.1 (lv_room (Nat.le_of_ble_eq_true rfl)) ⟨Nat.le_trans (Nat.le_of_ble_eq_true rfl) hRf.1, Nat.le_trans (Nat.le_of_ble_eq_true rfl) hRf.2⟩ d_Printer_putText_4 hf (fun v2 hf H locs cells slots hI => ?_)
      refine lv_icmp_ge (tgt := 25) S.1 S.2.1 d_Printer_putText_7 (by decide) (fun hc => ?_) (fun hc => ?_)
      · have hf := b_if_t hc hf
        exact hret _ _ _ _ _ _ _ d_Printer_putText_25 hf hI
      · have hf := b_if_f hc hf
        refine lv_aload_n S.1 S.2.1 d_Printer_putText_10 rfl (lv_at hl 0 rfl) ?_
        refine lv_aload_n S.1 S.2.1 d_Printer_putText_11 rfl (lv_at hl 1 rfl) ?_
        refine lv_iload_n S.1 S.2.1 d_Printer_putText_12 rfl (lv_at hl 2 rfl) ?_
        refine x_schr S hK hG hI hR wd_446 hl.1 (lv_room (Nat.le_of_ble_eq_true rfl)) ⟨Nat.le_trans (Nat.le_of_ble_eq_true rfl) hRf.1, Nat.le_trans (Nat.le_of_ble_eq_true rfl) hRf.2⟩ d_Printer_putText_13 hf (fun v3 hf H locs cells slots hI => ?_)
        obtain ⟨⟨fs7, hefs7⟩, hf⟩ := b_is_inv hf
        obtain ⟨r4, N5, hg6, hf⟩ := b_call_inv hf
        refine x_call hI (hm_mo hg6) (va_runV (As := [.int v3]) (rest := []) S (c_Printer_put l hg6) (cwV 1 S.2.2.2.2 (gi_V wd_420 wd_421 wd_422 wd_31 wd_423) rfl rfl rfl (by decide +kernel) ⟨Nat.le_trans (Nat.le_of_ble_eq_true rfl) hRf.1, Nat.le_trans (Nat.le_of_ble_eq_true rfl) hRf.2⟩) ⟨hm_B.blind, va_recv hK (hI.1.one hefs7) (ci := 5) (q0 := 0) rfl rfl, fun U hU hW => ⟨rfl, hm_B.of hK hG hI hU hW⟩⟩ rfl rfl hl.1 rfl (lv_room (Nat.le_of_ble_eq_true rfl)) d_Printer_putText_16 (hx_fit hI hR (hm_mo hg6) (hm_mo hf))) (fun H locs cells slots hI => ?_)
        refine W.eq (g2 := F0 m 19 ls []) rfl ?_
        refine x_iinc (v := 1) (lv2 := [(0, .ref h0), (1, .ref (aK a1))]) S d_Printer_putText_19 hl 2 rfl (by decide) (by decide) [0, 1] rfl ⟨⟨(by decide : (0 : Nat) ≠ 2), fun h => absurd (show (0 : Nat) + 1 = 2 from h) (by decide)⟩, ⟨⟨(by decide : (1 : Nat) ≠ 2), fun _ => rfl⟩, trivial⟩⟩ (fun ls hl => ?_)
        refine lv_goto (tgt := 2) S.1 S.2.1 d_Printer_putText_22 (by decide) ?_
        exact ih2 (x2 + 1) _ _ _ _ _ _ hf hI (lv_sub hl [1, 2, 0] rfl)
  refine lv_iconst (v := 0) S.1 S.2.1 d_Printer_putText_0 (by decide) ?_
  refine x_istore_n (lv2 := [(0, .ref h0), (1, va_rf (Option.map aK p0))]) S d_Printer_putText_1 rfl hl (by decide) [0, 1] rfl ⟨⟨(by decide : (0 : Nat) ≠ 2), fun h => absurd (show (0 : Nat) + 1 = 2 from h) (by decide)⟩, ⟨⟨(by decide : (1 : Nat) ≠ 2), fun _ => rf_cat _⟩, trivial⟩⟩ (fun ls hl => ?_)
  exact w2 N 0 _ _ _ _ _ _ hf hI (lv_sub hl [1, 2, 0] rfl)
set_option maxHeartbeats 4000000 in
set_option maxRecDepth 100000 in
theorem c_Printer_putRange (l : Launch) {D : va_G} {dA : Nat → ClassId} {aK aV : Nat → Nat} {z : Nat} {N : Nat} {h0 : Nat} {p0 : Int64} {p1 : Int64} {M : hM} {Z : Unit × hM} (hf : (f_Printer_putRange N h0 p0 p1).1 M = some Z) : Met l y_Printer_putRange w_Printer_putRange ({ frames := 5, cells := Z.2.2.1 - M.2.1, slots := Z.2.2.2 - M.2.2, locals := 107 }) (va_Pc [.ref h0, .long p0, .long p1] (hm_B D dA hCl (hTy dA) sT aK aV z M)) (hm_Q D dA hCl (hTy dA) sT aK aV z none Z.2) (Z.2.2.1 - M.2.1) (Z.2.2.2 - M.2.2) (fun q => z ≤ q) := by
  refine Met.ofW (cc := b_Printer_putRange) (maxL := 5) (ret := none) (by decide) rfl ?_
  intro p e s m args below meth c s₁ B hml hv
  obtain ⟨hav, hB⟩ := hv
  have S : CallFix p m c b_Printer_putRange 5 s args w_Printer_putRange R_Printer := ⟨B.exec, B.bytes, hml, findClass_of_methodNamed B.named, atoms_spec (ws := w_Printer_putRange) B.pre⟩
  have hr : meth.sig.returnType = none := B.returns
  have hlocks := B.notSynchronized
  have hK := hB.2.2.1
  have hG := hB.2.2.2.2.2
  have hI := hm_I.start hB
  rw [← hB.2.1]
  generalize M.2.2 = k1 at hI ⊢
  refine W.eq (g2 := F0 m 0 ((lg_sl ([.ref h0, .long p0, .long p1]) ++ List.replicate (5 - (lg_sl ([.ref h0, .long p0, .long p1])).length) Slot.unset).toArray) []) (by rw [hav]; exact lg_entry_eq m ([.ref h0, .long p0, .long p1]) 5) ?_
  have hl := lv_entry ([.ref h0, .long p0, .long p1]) (n := 5) (Nat.le_of_ble_eq_true rfl)
  generalize (lg_sl ([.ref h0, .long p0, .long p1]) ++ List.replicate (5 - (lg_sl ([.ref h0, .long p0, .long p1])).length) Slot.unset).toArray = ls at hl ⊢
  simp only [lvA_nil, lvA_i, lvA_l, lvA_a, lvA_r, Nat.zero_add, Nat.reduceAdd] at hl
  have hret : ∀ (M : hM) (H : Heap) (locs : List Loc) (cells slots : Nat) (ls : Array Slot) (pc : Nat), decode b_Printer_putRange pc = .ok (.return_, 1) → (b_ret ()).1 M = some Z → hm_I D dA hCl z k1 s M H locs cells slots → W p l e (headSpec w_Printer_putRange { frames := 5, cells := Z.2.2.1 - s.heap.size, slots := Z.2.2.2 - k1, locals := 107 }).room s m args below meth c H locs cells slots (MQ below (hm_Q D dA hCl (hTy dA) sT aK aV z none Z.2) args s (Z.2.2.1 - s.heap.size) (Z.2.2.2 - k1) (fun q => z ≤ q)) (F0 m pc ls []) := fun M H locs cells slots ls pc hdg hf hI => x_retv S hK hG hI hr hlocks hdg hf
  have hR : Z.2.2.1 - s.heap.size ≤ (headSpec w_Printer_putRange { frames := 5, cells := Z.2.2.1 - s.heap.size, slots := Z.2.2.2 - k1, locals := 107 }).room.cells ∧ Z.2.2.2 - k1 ≤ (headSpec w_Printer_putRange { frames := 5, cells := Z.2.2.1 - s.heap.size, slots := Z.2.2.2 - k1, locals := 107 }).room.slots := ⟨Nat.le_refl _, Nat.le_refl _⟩
  have hRf : 5 ≤ (headSpec w_Printer_putRange { frames := 5, cells := Z.2.2.1 - s.heap.size, slots := Z.2.2.2 - k1, locals := 107 }).room.frames ∧ 107 ≤ (headSpec w_Printer_putRange { frames := 5, cells := Z.2.2.1 - s.heap.size, slots := Z.2.2.2 - k1, locals := 107 }).room.locals := ⟨Nat.le_refl _, Nat.le_refl _⟩
  generalize (headSpec w_Printer_putRange { frames := 5, cells := Z.2.2.1 - s.heap.size, slots := Z.2.2.2 - k1, locals := 107 }).room = R at hret hR hRf ⊢
  generalize (MQ below (hm_Q D dA hCl (hTy dA) sT aK aV z none Z.2) args s (Z.2.2.1 - s.heap.size) (Z.2.2.2 - k1) (fun q => z ≤ q)) = Q at hret ⊢
  rw [e_Printer_putRange] at hf
  obtain ⟨J23, eJ23, hf⟩ := b_let_inv hf
  have w23 : ∀  (M : hM) (H : Heap) (locs : List Loc) (ls : Array Slot) (cells slots : Nat), (J23).1 M = some Z → hm_I D dA hCl z k1 s M H locs cells slots → lv_has ls 5 [(0, .ref h0), (1, .long p0), (3, .long p1)] → W p l e R s m args below meth c H locs cells slots Q (F0 m 23 ls []) := by
    intro M H locs ls cells slots hf hI hl
    rw [eJ23] at hf
    obtain ⟨J62, eJ62, hf⟩ := b_let_inv hf
    have w62 : ∀  (M : hM) (H : Heap) (locs : List Loc) (ls : Array Slot) (cells slots : Nat), (J62).1 M = some Z → hm_I D dA hCl z k1 s M H locs cells slots → lv_has ls 5 [(0, .ref h0), (1, .long p0), (3, .long p1)] → W p l e R s m args below meth c H locs cells slots Q (F0 m 62 ls []) := by
      intro M H locs ls cells slots hf hI hl
      rw [eJ62] at hf
      obtain ⟨J82, eJ82, hf⟩ := b_let_inv hf
      have w82 : ∀  (M : hM) (H : Heap) (locs : List Loc) (ls : Array Slot) (cells slots : Nat), (J82).1 M = some Z → hm_I D dA hCl z k1 s M H locs cells slots → lv_has ls 5 [(0, .ref h0), (3, .long p1)] → W p l e R s m args below meth c H locs cells slots Q (F0 m 82 ls []) := by
        intro M H locs ls cells slots hf hI hl
        rw [eJ82] at hf
        refine lv_lload_n S.1 S.2.1 d_Printer_putRange_82 rfl (lv_at hl 1 rfl) ?_
        refine lv_ldc2 (v := 1000000000000000000) S.1 S.2.1 S.2.2.2.1 (S.2.2.2.2 _ (List.mem_cons_of_mem _ wd_444)) d_Printer_putRange_83 ?_
        refine W.lcmp S.1 S.2.1 d_Printer_putRange_86 ?_
        refine lv_if_eq (tgt := 101) S.1 S.2.1 d_Printer_putRange_87 (by decide) (fun hc => ?_) (fun hc => ?_)
        · have hf := b_if_t hc hf
          exact hret _ _ _ _ _ _ _ d_Printer_putRange_101 hf hI
        · have hf := b_if_f hc hf
          refine lv_aload_n S.1 S.2.1 d_Printer_putRange_90 rfl (lv_at hl 0 rfl) ?_
          refine va_ldcS S.1 S.2.1 S.2.2.2.1 (hG.1 25 _ rfl).1 d_Printer_putRange_91 ?_
          obtain ⟨⟨fs4, hefs4⟩, hf⟩ := b_is_inv hf
          obtain ⟨r1, N2, hg3, hf⟩ := b_call_inv hf
          refine x_call hI (hm_mo hg3) (va_runV (As := [.ref (aK 25)]) (rest := []) S (c_Printer_putText l hg3) (cwV 1 S.2.2.2.2 (gi_V wd_447 wd_448 wd_449 wd_31 wd_450) rfl rfl rfl (by decide +kernel) ⟨Nat.le_trans (Nat.le_of_ble_eq_true rfl) hRf.1, Nat.le_trans (Nat.le_of_ble_eq_true rfl) hRf.2⟩) ⟨hm_B.blind, va_recv hK (hI.1.one hefs4) (ci := 5) (q0 := 0) rfl rfl, fun U hU hW => ⟨rfl, hm_B.of hK hG hI hU hW⟩⟩ rfl rfl hl.1 rfl (lv_room (Nat.le_of_ble_eq_true rfl)) d_Printer_putRange_93 (hx_fit hI hR (hm_mo hg3) (hm_mo hf))) (fun H locs cells slots hI => ?_)
          refine W.eq (g2 := F0 m 96 ls []) rfl ?_
          refine lv_aload_n S.1 S.2.1 d_Printer_putRange_96 rfl (lv_at hl 0 rfl) ?_
          refine lv_lload_n S.1 S.2.1 d_Printer_putRange_97 rfl (lv_at hl 1 rfl) ?_
          obtain ⟨⟨fs8, hefs8⟩, hf⟩ := b_is_inv hf
          obtain ⟨r5, N6, hg7, hf⟩ := b_call_inv hf
          refine x_call hI (hm_mo hg7) (va_runV (As := [.long p1]) (rest := []) S (c_Printer_putVersion l hg7) (cwV 1 S.2.2.2.2 (gi_V wd_439 wd_440 wd_441 wd_31 wd_442) rfl rfl rfl (by decide +kernel) ⟨Nat.le_trans (Nat.le_of_ble_eq_true rfl) hRf.1, Nat.le_trans (Nat.le_of_ble_eq_true rfl) hRf.2⟩) ⟨hm_B.blind, va_recv hK (hI.1.one hefs8) (ci := 5) (q0 := 0) rfl rfl, fun U hU hW => ⟨rfl, hm_B.of hK hG hI hU hW⟩⟩ rfl rfl hl.1 rfl (lv_room (Nat.le_of_ble_eq_true rfl)) d_Printer_putRange_98 (hx_fit hI hR (hm_mo hg7) (hm_mo hf))) (fun H locs cells slots hI => ?_)
          refine W.eq (g2 := F0 m 101 ls []) rfl ?_
          exact hret _ _ _ _ _ _ _ d_Printer_putRange_101 hf hI
      refine lv_lload_n S.1 S.2.1 d_Printer_putRange_62 rfl (lv_at hl 1 rfl) ?_
      refine lv_lconst (v := 0) S.1 S.2.1 d_Printer_putRange_63 (by decide) ?_
      refine W.lcmp S.1 S.2.1 d_Printer_putRange_64 ?_
      refine lv_if_eq (tgt := 82) S.1 S.2.1 d_Printer_putRange_65 (by decide) (fun hc => ?_) (fun hc => ?_)
      · have hf := b_if_t hc hf
        exact w82  _ _ _ _ _ _ hf hI (lv_sub hl [0, 2] rfl)
      · have hf := b_if_f hc hf
        refine lv_lload_n S.1 S.2.1 d_Printer_putRange_68 rfl (lv_at hl 2 rfl) ?_
        refine lv_ldc2 (v := 1000000000000000000) S.1 S.2.1 S.2.2.2.1 (S.2.2.2.2 _ (List.mem_cons_of_mem _ wd_444)) d_Printer_putRange_69 ?_
        refine W.lcmp S.1 S.2.1 d_Printer_putRange_72 ?_
        refine lv_if_eq (tgt := 82) S.1 S.2.1 d_Printer_putRange_73 (by decide) (fun hc => ?_) (fun hc => ?_)
        · have hf := b_if_t hc hf
          exact w82  _ _ _ _ _ _ hf hI (lv_sub hl [0, 2] rfl)
        · have hf := b_if_f hc hf
          refine lv_aload_n S.1 S.2.1 d_Printer_putRange_76 rfl (lv_at hl 0 rfl) ?_
          refine lv_bipush (v := 32) S.1 S.2.1 d_Printer_putRange_77 (by decide) ?_
          obtain ⟨⟨fs12, hefs12⟩, hf⟩ := b_is_inv hf
          obtain ⟨r9, N10, hg11, hf⟩ := b_call_inv hf
          refine x_call hI (hm_mo hg11) (va_runV (As := [.int 32]) (rest := []) S (c_Printer_put l hg11) (cwV 1 S.2.2.2.2 (gi_V wd_420 wd_421 wd_422 wd_31 wd_423) rfl rfl rfl (by decide +kernel) ⟨Nat.le_trans (Nat.le_of_ble_eq_true rfl) hRf.1, Nat.le_trans (Nat.le_of_ble_eq_true rfl) hRf.2⟩) ⟨hm_B.blind, va_recv hK (hI.1.one hefs12) (ci := 5) (q0 := 0) rfl rfl, fun U hU hW => ⟨rfl, hm_B.of hK hG hI hU hW⟩⟩ rfl rfl hl.1 rfl (lv_room (Nat.le_of_ble_eq_true rfl)) d_Printer_putRange_79 (hx_fit hI hR (hm_mo hg11) (hm_mo hf))) (fun H locs cells slots hI => ?_)
          refine W.eq (g2 := F0 m 82 ls []) rfl ?_
          exact w82  _ _ _ _ _ _ hf hI (lv_sub hl [0, 2] rfl)
    refine lv_lload_n S.1 S.2.1 d_Printer_putRange_23 rfl (lv_at hl 2 rfl) ?_
    refine lv_lload_n S.1 S.2.1 d_Printer_putRange_24 rfl (lv_at hl 1 rfl) ?_
    refine lv_lsub S.1 S.2.1 d_Printer_putRange_25 ?_
    refine lv_lconst (v := 1) S.1 S.2.1 d_Printer_putRange_26 (by decide) ?_
    refine W.lcmp S.1 S.2.1 d_Printer_putRange_27 ?_
    refine lv_if_ne (tgt := 45) S.1 S.2.1 d_Printer_putRange_28 (by decide) (fun hc => ?_) (fun hc => ?_)
    · have hf := b_if_f hc hf
      refine lv_lload_n S.1 S.2.1 d_Printer_putRange_45 rfl (lv_at hl 1 rfl) ?_
      refine lv_lconst (v := 0) S.1 S.2.1 d_Printer_putRange_46 (by decide) ?_
      refine W.lcmp S.1 S.2.1 d_Printer_putRange_47 ?_
      refine lv_if_eq (tgt := 62) S.1 S.2.1 d_Printer_putRange_48 (by decide) (fun hc => ?_) (fun hc => ?_)
      · have hf := b_if_t hc hf
        exact w62  _ _ _ _ _ _ hf hI (lv_sub hl [0, 1, 2] rfl)
      · have hf := b_if_f hc hf
        refine lv_aload_n S.1 S.2.1 d_Printer_putRange_51 rfl (lv_at hl 0 rfl) ?_
        refine va_ldcS S.1 S.2.1 S.2.2.2.1 (hG.1 24 _ rfl).1 d_Printer_putRange_52 ?_
        obtain ⟨⟨fs16, hefs16⟩, hf⟩ := b_is_inv hf
        obtain ⟨r13, N14, hg15, hf⟩ := b_call_inv hf
        refine x_call hI (hm_mo hg15) (va_runV (As := [.ref (aK 24)]) (rest := []) S (c_Printer_putText l hg15) (cwV 1 S.2.2.2.2 (gi_V wd_447 wd_448 wd_449 wd_31 wd_450) rfl rfl rfl (by decide +kernel) ⟨Nat.le_trans (Nat.le_of_ble_eq_true rfl) hRf.1, Nat.le_trans (Nat.le_of_ble_eq_true rfl) hRf.2⟩) ⟨hm_B.blind, va_recv hK (hI.1.one hefs16) (ci := 5) (q0 := 0) rfl rfl, fun U hU hW => ⟨rfl, hm_B.of hK hG hI hU hW⟩⟩ rfl rfl hl.1 rfl (lv_room (Nat.le_of_ble_eq_true rfl)) d_Printer_putRange_54 (hx_fit hI hR (hm_mo hg15) (hm_mo hf))) (fun H locs cells slots hI => ?_)
        refine W.eq (g2 := F0 m 57 ls []) rfl ?_
        refine lv_aload_n S.1 S.2.1 d_Printer_putRange_57 rfl (lv_at hl 0 rfl) ?_
        refine lv_lload_n S.1 S.2.1 d_Printer_putRange_58 rfl (lv_at hl 1 rfl) ?_
        obtain ⟨⟨fs20, hefs20⟩, hf⟩ := b_is_inv hf
        obtain ⟨r17, N18, hg19, hf⟩ := b_call_inv hf
        refine x_call hI (hm_mo hg19) (va_runV (As := [.long p0]) (rest := []) S (c_Printer_putVersion l hg19) (cwV 1 S.2.2.2.2 (gi_V wd_439 wd_440 wd_441 wd_31 wd_442) rfl rfl rfl (by decide +kernel) ⟨Nat.le_trans (Nat.le_of_ble_eq_true rfl) hRf.1, Nat.le_trans (Nat.le_of_ble_eq_true rfl) hRf.2⟩) ⟨hm_B.blind, va_recv hK (hI.1.one hefs20) (ci := 5) (q0 := 0) rfl rfl, fun U hU hW => ⟨rfl, hm_B.of hK hG hI hU hW⟩⟩ rfl rfl hl.1 rfl (lv_room (Nat.le_of_ble_eq_true rfl)) d_Printer_putRange_59 (hx_fit hI hR (hm_mo hg19) (hm_mo hf))) (fun H locs cells slots hI => ?_)
        refine W.eq (g2 := F0 m 62 ls []) rfl ?_
        exact w62  _ _ _ _ _ _ hf hI (lv_sub hl [0, 1, 2] rfl)
    · have hf := b_if_t hc hf
      refine lv_aload_n S.1 S.2.1 d_Printer_putRange_31 rfl (lv_at hl 0 rfl) ?_
      refine va_ldcS S.1 S.2.1 S.2.2.2.1 (hG.1 23 _ rfl).1 d_Printer_putRange_32 ?_
      obtain ⟨⟨fs24, hefs24⟩, hf⟩ := b_is_inv hf
      obtain ⟨r21, N22, hg23, hf⟩ := b_call_inv hf
      refine x_call hI (hm_mo hg23) (va_runV (As := [.ref (aK 23)]) (rest := []) S (c_Printer_putText l hg23) (cwV 1 S.2.2.2.2 (gi_V wd_447 wd_448 wd_449 wd_31 wd_450) rfl rfl rfl (by decide +kernel) ⟨Nat.le_trans (Nat.le_of_ble_eq_true rfl) hRf.1, Nat.le_trans (Nat.le_of_ble_eq_true rfl) hRf.2⟩) ⟨hm_B.blind, va_recv hK (hI.1.one hefs24) (ci := 5) (q0 := 0) rfl rfl, fun U hU hW => ⟨rfl, hm_B.of hK hG hI hU hW⟩⟩ rfl rfl hl.1 rfl (lv_room (Nat.le_of_ble_eq_true rfl)) d_Printer_putRange_34 (hx_fit hI hR (hm_mo hg23) (hm_mo hf))) (fun H locs cells slots hI => ?_)
      refine W.eq (g2 := F0 m 37 ls []) rfl ?_
      refine lv_aload_n S.1 S.2.1 d_Printer_putRange_37 rfl (lv_at hl 0 rfl) ?_
      refine lv_lload_n S.1 S.2.1 d_Printer_putRange_38 rfl (lv_at hl 1 rfl) ?_
      obtain ⟨⟨fs28, hefs28⟩, hf⟩ := b_is_inv hf
      obtain ⟨r25, N26, hg27, hf⟩ := b_call_inv hf
      refine x_call hI (hm_mo hg27) (va_runV (As := [.long p0]) (rest := []) S (c_Printer_putVersion l hg27) (cwV 1 S.2.2.2.2 (gi_V wd_439 wd_440 wd_441 wd_31 wd_442) rfl rfl rfl (by decide +kernel) ⟨Nat.le_trans (Nat.le_of_ble_eq_true rfl) hRf.1, Nat.le_trans (Nat.le_of_ble_eq_true rfl) hRf.2⟩) ⟨hm_B.blind, va_recv hK (hI.1.one hefs28) (ci := 5) (q0 := 0) rfl rfl, fun U hU hW => ⟨rfl, hm_B.of hK hG hI hU hW⟩⟩ rfl rfl hl.1 rfl (lv_room (Nat.le_of_ble_eq_true rfl)) d_Printer_putRange_39 (hx_fit hI hR (hm_mo hg27) (hm_mo hf))) (fun H locs cells slots hI => ?_)
      refine W.eq (g2 := F0 m 42 ls []) rfl ?_
      refine lv_goto (tgt := 101) S.1 S.2.1 d_Printer_putRange_42 (by decide) ?_
      exact hret _ _ _ _ _ _ _ d_Printer_putRange_101 hf hI
  refine lv_lload_n S.1 S.2.1 d_Printer_putRange_0 rfl (lv_at hl 1 rfl) ?_
  refine lv_lconst (v := 0) S.1 S.2.1 d_Printer_putRange_1 (by decide) ?_
  refine W.lcmp S.1 S.2.1 d_Printer_putRange_2 ?_
  refine lv_if_ne (tgt := 23) S.1 S.2.1 d_Printer_putRange_3 (by decide) (fun hc => ?_) (fun hc => ?_)
  · have hf := b_if_f hc hf
    exact w23  _ _ _ _ _ _ hf hI (lv_sub hl [0, 1, 2] rfl)
  · have hf := b_if_t hc hf
    refine lv_lload_n S.1 S.2.1 d_Printer_putRange_6 rfl (lv_at hl 2 rfl) ?_
    refine lv_ldc2 (v := 1000000000000000000) S.1 S.2.1 S.2.2.2.1 (S.2.2.2.2 _ (List.mem_cons_of_mem _ wd_444)) d_Printer_putRange_7 ?_
    refine W.lcmp S.1 S.2.1 d_Printer_putRange_10 ?_
    refine lv_if_ne (tgt := 23) S.1 S.2.1 d_Printer_putRange_11 (by decide) (fun hc => ?_) (fun hc => ?_)
    · have hf := b_if_f hc hf
      exact w23  _ _ _ _ _ _ hf hI (lv_sub hl [0, 1, 2] rfl)
    · have hf := b_if_t hc hf
      refine lv_aload_n S.1 S.2.1 d_Printer_putRange_14 rfl (lv_at hl 0 rfl) ?_
      refine lv_bipush (v := 42) S.1 S.2.1 d_Printer_putRange_15 (by decide) ?_
      obtain ⟨⟨fs32, hefs32⟩, hf⟩ := b_is_inv hf
      obtain ⟨r29, N30, hg31, hf⟩ := b_call_inv hf
      refine x_call hI (hm_mo hg31) (va_runV (As := [.int 42]) (rest := []) S (c_Printer_put l hg31) (cwV 1 S.2.2.2.2 (gi_V wd_420 wd_421 wd_422 wd_31 wd_423) rfl rfl rfl (by decide +kernel) ⟨Nat.le_trans (Nat.le_of_ble_eq_true rfl) hRf.1, Nat.le_trans (Nat.le_of_ble_eq_true rfl) hRf.2⟩) ⟨hm_B.blind, va_recv hK (hI.1.one hefs32) (ci := 5) (q0 := 0) rfl rfl, fun U hU hW => ⟨rfl, hm_B.of hK hG hI hU hW⟩⟩ rfl rfl hl.1 rfl (lv_room (Nat.le_of_ble_eq_true rfl)) d_Printer_putRange_17 (hx_fit hI hR (hm_mo hg31) (hm_mo hf))) (fun H locs cells slots hI => ?_)
      refine W.eq (g2 := F0 m 20 ls []) rfl ?_
      refine lv_goto (tgt := 101) S.1 S.2.1 d_Printer_putRange_20 (by decide) ?_
      exact hret _ _ _ _ _ _ _ d_Printer_putRange_101 hf hI
