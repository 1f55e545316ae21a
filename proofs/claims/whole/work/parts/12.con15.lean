set_option maxHeartbeats 4000000 in
set_option maxRecDepth 100000 in
theorem c_MD_put (l : Launch) {D : va_G} {dA : Nat → ClassId} {aK aV : Nat → Nat} {z : Nat} {N : Nat} {h0 : Nat} {p0 : Int32} {M : hM} {Z : Unit × hM} (hf : (f_MD_put N h0 p0).1 M = some Z) : Met l y_MD_put w_MD_put ({ frames := 0, cells := Z.2.2.1 - M.2.1, slots := Z.2.2.2 - M.2.2, locals := 0 }) (va_Pc [.ref h0, .int p0] (hm_B D dA hCl (hTy dA) sT aK aV z M)) (hm_Q D dA hCl (hTy dA) sT aK aV z none Z.2) (Z.2.2.1 - M.2.1) (Z.2.2.2 - M.2.2) (fun q => z ≤ q) := by
  refine Met.ofW (cc := b_MD_put) (maxL := 2) (ret := none) (by decide) rfl ?_
  intro p e s m args below meth c s₁ B hml hv
  obtain ⟨hav, hB⟩ := hv
  have S : CallFix p m c b_MD_put 2 s args w_MD_put R_MD := ⟨B.exec, B.bytes, hml, findClass_of_methodNamed B.named, atoms_spec (ws := w_MD_put) B.pre⟩
  have hr : meth.sig.returnType = none := B.returns
  have hlocks := B.notSynchronized
  have hK := hB.2.2.1
  have hG := hB.2.2.2.2.2
  have hI := hm_I.start hB
  rw [← hB.2.1]
  generalize M.2.2 = k1 at hI ⊢
  refine W.eq (g2 := F0 m 0 ((lg_sl ([.ref h0, .int p0]) ++ List.replicate (2 - (lg_sl ([.ref h0, .int p0])).length) Slot.unset).toArray) []) (by rw [hav]; exact lg_entry_eq m ([.ref h0, .int p0]) 2) ?_
  have hl := lv_entry ([.ref h0, .int p0]) (n := 2) (Nat.le_of_ble_eq_true rfl)
  generalize (lg_sl ([.ref h0, .int p0]) ++ List.replicate (2 - (lg_sl ([.ref h0, .int p0])).length) Slot.unset).toArray = ls at hl ⊢
  simp only [lvA_nil, lvA_i, lvA_l, lvA_a, lvA_r, Nat.zero_add, Nat.reduceAdd] at hl
  have hret : ∀ (M : hM) (H : Heap) (locs : List Loc) (cells slots : Nat) (ls : Array Slot) (pc : Nat), decode b_MD_put pc = .ok (.return_, 1) → (b_ret ()).1 M = some Z → hm_I D dA hCl z k1 s M H locs cells slots → W p l e (headSpec w_MD_put { frames := 0, cells := Z.2.2.1 - s.heap.size, slots := Z.2.2.2 - k1, locals := 0 }).room s m args below meth c H locs cells slots (MQ below (hm_Q D dA hCl (hTy dA) sT aK aV z none Z.2) args s (Z.2.2.1 - s.heap.size) (Z.2.2.2 - k1) (fun q => z ≤ q)) (F0 m pc ls []) := fun M H locs cells slots ls pc hdg hf hI => x_retv S hK hG hI hr hlocks hdg hf
  have hR : Z.2.2.1 - s.heap.size ≤ (headSpec w_MD_put { frames := 0, cells := Z.2.2.1 - s.heap.size, slots := Z.2.2.2 - k1, locals := 0 }).room.cells ∧ Z.2.2.2 - k1 ≤ (headSpec w_MD_put { frames := 0, cells := Z.2.2.1 - s.heap.size, slots := Z.2.2.2 - k1, locals := 0 }).room.slots := ⟨Nat.le_refl _, Nat.le_refl _⟩
  have hRf : 0 ≤ (headSpec w_MD_put { frames := 0, cells := Z.2.2.1 - s.heap.size, slots := Z.2.2.2 - k1, locals := 0 }).room.frames ∧ 0 ≤ (headSpec w_MD_put { frames := 0, cells := Z.2.2.1 - s.heap.size, slots := Z.2.2.2 - k1, locals := 0 }).room.locals := ⟨Nat.le_refl _, Nat.le_refl _⟩
  generalize (headSpec w_MD_put { frames := 0, cells := Z.2.2.1 - s.heap.size, slots := Z.2.2.2 - k1, locals := 0 }).room = R at hret hR hRf ⊢
  generalize (MQ below (hm_Q D dA hCl (hTy dA) sT aK aV z none Z.2) args s (Z.2.2.1 - s.heap.size) (Z.2.2.2 - k1) (fun q => z ≤ q)) = Q at hret ⊢
  rw [e_MD_put] at hf
  refine lv_aload_n S.1 S.2.1 d_MD_put_0 rfl (lv_at hl 0 rfl) ?_
  refine x_getR (ci := 1) (k := 44) S hK hI (fun w h => List.mem_cons_of_mem _ (i_MD w h)) rfl (by decide) (List.mem_cons_of_mem _ wd_557) rfl d_MD_put_1 hf (fun r1 hf => ?_)
  refine lv_aload_n S.1 S.2.1 d_MD_put_4 rfl (lv_at hl 0 rfl) ?_
  refine x_getI (ci := 1) (k := 43) S hK hI (fun w h => List.mem_cons_of_mem _ (i_MD w h)) rfl (by decide) (List.mem_cons_of_mem _ wd_754) rfl d_MD_put_5 hf (fun v2 hf => ?_)
  refine lv_iload_n S.1 S.2.1 d_MD_put_8 rfl (lv_at hl 1 rfl) ?_
  refine lv_i2b S.1 S.2.1 d_MD_put_9 rfl ?_
  obtain ⟨a3, ea3, hg⟩ := b_nn_inv hf
  have hI0 := hI
  have hl0 := hl
  clear hf hI hl
  subst ea3
  have hf := hg
  have hI := hI0
  have hl := hl0
  clear hg hI0 hl0
  refine x_bast (t := 6) S hK hI rfl d_MD_put_10 hf (fun M H locs hf hI => ?_)
  refine lv_aload_n S.1 S.2.1 d_MD_put_11 rfl (lv_at hl 0 rfl) ?_
  refine lv_dup S.1 S.2.1 d_MD_put_12 rfl ?_
  refine x_getI (ci := 1) (k := 43) S hK hI (fun w h => List.mem_cons_of_mem _ (i_MD w h)) rfl (by decide) (List.mem_cons_of_mem _ wd_754) rfl d_MD_put_13 hf (fun v4 hf => ?_)
  refine lv_iconst (v := 1) S.1 S.2.1 d_MD_put_16 (by decide) ?_
  refine lv_iadd S.1 S.2.1 d_MD_put_17 ?_
  refine x_put (ci := 1) (k := 43) S hK hI (fun w h => List.mem_cons_of_mem _ (i_MD w h)) t_MD t_MD_ok n_MD rfl (by decide) (List.mem_cons_of_mem _ wd_754) rfl (Or.inl rfl) (by rfl) rfl d_MD_put_18 hf (fun M H locs hf hI => ?_)
  exact hret _ _ _ _ _ _ _ d_MD_put_21 hf hI
set_option maxHeartbeats 4000000 in
set_option maxRecDepth 100000 in
theorem c_MD_putName (l : Launch) {D : va_G} {dA : Nat → ClassId} {aK aV : Nat → Nat} {z : Nat} {N : Nat} {h0 : Nat} {p0 : Option Nat} {p1 : Int32} {p2 : Int32} {M : hM} {Z : Unit × hM} (hf : (f_MD_putName N h0 p0 p1 p2).1 M = some Z) : Met l y_MD_putName w_MD_putName ({ frames := 1, cells := Z.2.2.1 - M.2.1, slots := Z.2.2.2 - M.2.2, locals := 21 }) (va_Pc [.ref h0, va_rf p0, .int p1, .int p2] (hm_B D dA hCl (hTy dA) sT aK aV z M)) (hm_Q D dA hCl (hTy dA) sT aK aV z none Z.2) (Z.2.2.1 - M.2.1) (Z.2.2.2 - M.2.2) (fun q => z ≤ q) := by
  refine Met.ofW (cc := b_MD_putName) (maxL := 5) (ret := none) (by decide) rfl ?_
  intro p e s m args below meth c s₁ B hml hv
  obtain ⟨hav, hB⟩ := hv
  have S : CallFix p m c b_MD_putName 5 s args w_MD_putName R_MD := ⟨B.exec, B.bytes, hml, findClass_of_methodNamed B.named, atoms_spec (ws := w_MD_putName) B.pre⟩
  have hr : meth.sig.returnType = none := B.returns
  have hlocks := B.notSynchronized
  have hK := hB.2.2.1
  have hG := hB.2.2.2.2.2
  have hI := hm_I.start hB
  rw [← hB.2.1]
  generalize M.2.2 = k1 at hI ⊢
  refine W.eq (g2 := F0 m 0 ((lg_sl ([.ref h0, va_rf p0, .int p1, .int p2]) ++ List.replicate (5 - (lg_sl ([.ref h0, va_rf p0, .int p1, .int p2])).length) Slot.unset).toArray) []) (by rw [hav]; exact lg_entry_eq m ([.ref h0, va_rf p0, .int p1, .int p2]) 5) ?_
  have hl := lv_entry ([.ref h0, va_rf p0, .int p1, .int p2]) (n := 5) (by cases p0 <;> exact Nat.le_of_ble_eq_true rfl)
  generalize (lg_sl ([.ref h0, va_rf p0, .int p1, .int p2]) ++ List.replicate (5 - (lg_sl ([.ref h0, va_rf p0, .int p1, .int p2])).length) Slot.unset).toArray = ls at hl ⊢
  simp only [lvA_nil, lvA_i, lvA_l, lvA_a, lvA_r, Nat.zero_add, Nat.reduceAdd] at hl
  have hret : ∀ (M : hM) (H : Heap) (locs : List Loc) (cells slots : Nat) (ls : Array Slot) (pc : Nat), decode b_MD_putName pc = .ok (.return_, 1) → (b_ret ()).1 M = some Z → hm_I D dA hCl z k1 s M H locs cells slots → W p l e (headSpec w_MD_putName { frames := 1, cells := Z.2.2.1 - s.heap.size, slots := Z.2.2.2 - k1, locals := 21 }).room s m args below meth c H locs cells slots (MQ below (hm_Q D dA hCl (hTy dA) sT aK aV z none Z.2) args s (Z.2.2.1 - s.heap.size) (Z.2.2.2 - k1) (fun q => z ≤ q)) (F0 m pc ls []) := fun M H locs cells slots ls pc hdg hf hI => x_retv S hK hG hI hr hlocks hdg hf
  have hR : Z.2.2.1 - s.heap.size ≤ (headSpec w_MD_putName { frames := 1, cells := Z.2.2.1 - s.heap.size, slots := Z.2.2.2 - k1, locals := 21 }).room.cells ∧ Z.2.2.2 - k1 ≤ (headSpec w_MD_putName { frames := 1, cells := Z.2.2.1 - s.heap.size, slots := Z.2.2.2 - k1, locals := 21 }).room.slots := ⟨Nat.le_refl _, Nat.le_refl _⟩
  have hRf : 1 ≤ (headSpec w_MD_putName { frames := 1, cells := Z.2.2.1 - s.heap.size, slots := Z.2.2.2 - k1, locals := 21 }).room.frames ∧ 21 ≤ (headSpec w_MD_putName { frames := 1, cells := Z.2.2.1 - s.heap.size, slots := Z.2.2.2 - k1, locals := 21 }).room.locals := ⟨Nat.le_refl _, Nat.le_refl _⟩
  generalize (headSpec w_MD_putName { frames := 1, cells := Z.2.2.1 - s.heap.size, slots := Z.2.2.2 - k1, locals := 21 }).room = R at hret hR hRf ⊢
  generalize (MQ below (hm_Q D dA hCl (hTy dA) sT aK aV z none Z.2) args s (Z.2.2.1 - s.heap.size) (Z.2.2.2 - k1) (fun q => z ≤ q)) = Q at hret ⊢
  rw [e_MD_putName] at hf
  have w3 : ∀ (n : Nat) (x4 : Int32) (M : hM) (H : Heap) (locs : List Loc) (ls : Array Slot) (cells slots : Nat), (f_MD_putName_3 N h0 p0 p1 p2  n x4).1 M = some Z → hm_I D dA hCl z k1 s M H locs cells slots → lv_has ls 5 [(0, .ref h0), (1, va_rf p0), (2, .int p1), (3, .int p2), (4, .int x4)] → W p l e R s m args below meth c H locs cells slots Q (F0 m 3 ls []) := by
    intro n
    induction n with
    | zero => intro x4 M H locs ls cells slots hf hI hl; cases hf
    | succ n3 ih3 =>
      intro x4 M H locs ls cells slots hf hI hl
      rw [e_MD_putName_3] at hf
      refine lv_iload S.1 S.2.1 d_MD_putName_3 (lv_at hl 4 rfl) ?_
      refine lv_iload_n S.1 S.2.1 d_MD_putName_5 rfl (lv_at hl 3 rfl) ?_
      refine lv_icmp_ge (tgt := 25) S.1 S.2.1 d_MD_putName_6 (by decide) (fun hc => ?_) (fun hc => ?_)
      · have hf := b_if_t hc hf
        exact hret _ _ _ _ _ _ _ d_MD_putName_25 hf hI
      · have hf := b_if_f hc hf
        refine lv_aload_n S.1 S.2.1 d_MD_putName_9 rfl (lv_at hl 0 rfl) ?_
        refine x_aload_n (r := p0) S d_MD_putName_10 rfl (lv_at hl 1 rfl) ?_
        refine lv_iload_n S.1 S.2.1 d_MD_putName_11 rfl (lv_at hl 2 rfl) ?_
        refine lv_iload S.1 S.2.1 d_MD_putName_12 (lv_at hl 4 rfl) ?_
        refine lv_iadd S.1 S.2.1 d_MD_putName_14 ?_
        obtain ⟨a1, ea1, hg⟩ := b_nn_inv hf
        have hI0 := hI
        have hl0 := hl
        clear hf hI hl
        subst ea1
        have hf := hg
        have hI := hI0
        have hl := hl0
        clear hg hI0 hl0
        refine x_bald (t := 6) S hK hI rfl d_MD_putName_15 hf (fun v2 hf => ?_)
        obtain ⟨⟨fs6, hefs6⟩, hf⟩ := b_is_inv hf
        obtain ⟨r3, N4, hg5, hf⟩ := b_call_inv hf
        refine x_call hI (hm_mo hg5) (va_runV (As := [.int v2]) (rest := []) S (c_MD_put l hg5) (cwV 1 S.2.2.2.2 (gi_V wd_755 wd_756 wd_757 wd_564 wd_758) rfl rfl rfl (by decide +kernel) ⟨Nat.le_trans (Nat.le_of_ble_eq_true rfl) hRf.1, Nat.le_trans (Nat.le_of_ble_eq_true rfl) hRf.2⟩) ⟨hm_B.blind, va_recv hK (hI.1.one hefs6) (ci := 1) (q0 := 0) rfl rfl, fun U hU hW => ⟨rfl, hm_B.of hK hG hI hU hW⟩⟩ rfl rfl hl.1 rfl (lv_room (Nat.le_of_ble_eq_true rfl)) d_MD_putName_16 (hx_fit hI hR (hm_mo hg5) (hm_mo hf))) (fun H locs cells slots hI => ?_)
        refine W.eq (g2 := F0 m 19 ls []) rfl ?_
        refine x_iinc (v := 1) (lv2 := [(0, .ref h0), (1, .ref a1), (2, .int p1), (3, .int p2)]) S d_MD_putName_19 hl 4 rfl (by decide) (by decide) [0, 1, 2, 3] rfl ⟨⟨(by decide : (0 : Nat) ≠ 4), fun h => absurd (show (0 : Nat) + 1 = 4 from h) (by decide)⟩, ⟨⟨(by decide : (1 : Nat) ≠ 4), fun h => absurd (show (1 : Nat) + 1 = 4 from h) (by decide)⟩, ⟨⟨(by decide : (2 : Nat) ≠ 4), fun h => absurd (show (2 : Nat) + 1 = 4 from h) (by decide)⟩, ⟨⟨(by decide : (3 : Nat) ≠ 4), fun _ => rfl⟩, trivial⟩⟩⟩⟩ (fun ls hl => ?_)
        refine lv_goto (tgt := 3) S.1 S.2.1 d_MD_putName_22 (by decide) ?_
        exact ih3 (x4 + 1) _ _ _ _ _ _ hf hI (lv_sub hl [1, 2, 3, 4, 0] rfl)
  refine lv_iconst (v := 0) S.1 S.2.1 d_MD_putName_0 (by decide) ?_
  refine x_istore (lv2 := [(0, .ref h0), (1, va_rf p0), (2, .int p1), (3, .int p2)]) S d_MD_putName_1 hl (by decide) [0, 1, 2, 3] rfl ⟨⟨(by decide : (0 : Nat) ≠ 4), fun h => absurd (show (0 : Nat) + 1 = 4 from h) (by decide)⟩, ⟨⟨(by decide : (1 : Nat) ≠ 4), fun h => absurd (show (1 : Nat) + 1 = 4 from h) (by decide)⟩, ⟨⟨(by decide : (2 : Nat) ≠ 4), fun h => absurd (show (2 : Nat) + 1 = 4 from h) (by decide)⟩, ⟨⟨(by decide : (3 : Nat) ≠ 4), fun _ => rfl⟩, trivial⟩⟩⟩⟩ (fun ls hl => ?_)
  exact w3 N 0 _ _ _ _ _ _ hf hI (lv_sub hl [1, 2, 3, 4, 0] rfl)
set_option maxHeartbeats 4000000 in
set_option maxRecDepth 100000 in
theorem c_MD_putKey (l : Launch) {D : va_G} {dA : Nat → ClassId} {aK aV : Nat → Nat} {z : Nat} {N : Nat} {h0 : Nat} {p0 : Int64} {M : hM} {Z : Unit × hM} (hf : (f_MD_putKey N h0 p0).1 M = some Z) : Met l y_MD_putKey w_MD_putKey ({ frames := 1, cells := Z.2.2.1 - M.2.1, slots := Z.2.2.2 - M.2.2, locals := 21 }) (va_Pc [.ref h0, .long p0] (hm_B D dA hCl (hTy dA) sT aK aV z M)) (hm_Q D dA hCl (hTy dA) sT aK aV z none Z.2) (Z.2.2.1 - M.2.1) (Z.2.2.2 - M.2.2) (fun q => z ≤ q) := by
  refine Met.ofW (cc := b_MD_putKey) (maxL := 5) (ret := none) (by decide) rfl ?_
  intro p e s m args below meth c s₁ B hml hv
  obtain ⟨hav, hB⟩ := hv
  have S : CallFix p m c b_MD_putKey 5 s args w_MD_putKey R_MD := ⟨B.exec, B.bytes, hml, findClass_of_methodNamed B.named, atoms_spec (ws := w_MD_putKey) B.pre⟩
  have hr : meth.sig.returnType = none := B.returns
  have hlocks := B.notSynchronized
  have hK := hB.2.2.1
  have hG := hB.2.2.2.2.2
  have hI := hm_I.start hB
  rw [← hB.2.1]
  generalize M.2.2 = k1 at hI ⊢
  refine W.eq (g2 := F0 m 0 ((lg_sl ([.ref h0, .long p0]) ++ List.replicate (5 - (lg_sl ([.ref h0, .long p0])).length) Slot.unset).toArray) []) (by rw [hav]; exact lg_entry_eq m ([.ref h0, .long p0]) 5) ?_
  have hl := lv_entry ([.ref h0, .long p0]) (n := 5) (Nat.le_of_ble_eq_true rfl)
  generalize (lg_sl ([.ref h0, .long p0]) ++ List.replicate (5 - (lg_sl ([.ref h0, .long p0])).length) Slot.unset).toArray = ls at hl ⊢
  simp only [lvA_nil, lvA_i, lvA_l, lvA_a, lvA_r, Nat.zero_add, Nat.reduceAdd] at hl
  have hret : ∀ (M : hM) (H : Heap) (locs : List Loc) (cells slots : Nat) (ls : Array Slot) (pc : Nat), decode b_MD_putKey pc = .ok (.return_, 1) → (b_ret ()).1 M = some Z → hm_I D dA hCl z k1 s M H locs cells slots → W p l e (headSpec w_MD_putKey { frames := 1, cells := Z.2.2.1 - s.heap.size, slots := Z.2.2.2 - k1, locals := 21 }).room s m args below meth c H locs cells slots (MQ below (hm_Q D dA hCl (hTy dA) sT aK aV z none Z.2) args s (Z.2.2.1 - s.heap.size) (Z.2.2.2 - k1) (fun q => z ≤ q)) (F0 m pc ls []) := fun M H locs cells slots ls pc hdg hf hI => x_retv S hK hG hI hr hlocks hdg hf
  have hR : Z.2.2.1 - s.heap.size ≤ (headSpec w_MD_putKey { frames := 1, cells := Z.2.2.1 - s.heap.size, slots := Z.2.2.2 - k1, locals := 21 }).room.cells ∧ Z.2.2.2 - k1 ≤ (headSpec w_MD_putKey { frames := 1, cells := Z.2.2.1 - s.heap.size, slots := Z.2.2.2 - k1, locals := 21 }).room.slots := ⟨Nat.le_refl _, Nat.le_refl _⟩
  have hRf : 1 ≤ (headSpec w_MD_putKey { frames := 1, cells := Z.2.2.1 - s.heap.size, slots := Z.2.2.2 - k1, locals := 21 }).room.frames ∧ 21 ≤ (headSpec w_MD_putKey { frames := 1, cells := Z.2.2.1 - s.heap.size, slots := Z.2.2.2 - k1, locals := 21 }).room.locals := ⟨Nat.le_refl _, Nat.le_refl _⟩
  generalize (headSpec w_MD_putKey { frames := 1, cells := Z.2.2.1 - s.heap.size, slots := Z.2.2.2 - k1, locals := 21 }).room = R at hret hR hRf ⊢
  generalize (MQ below (hm_Q D dA hCl (hTy dA) sT aK aV z none Z.2) args s (Z.2.2.1 - s.heap.size) (Z.2.2.2 - k1) (fun q => z ≤ q)) = Q at hret ⊢
  rw [e_MD_putKey] at hf
  have w9 : ∀ (n : Nat) (x3 : Int32) (M : hM) (H : Heap) (locs : List Loc) (ls : Array Slot) (cells slots : Nat), (f_MD_putKey_9 N h0 p0  n x3).1 M = some Z → hm_I D dA hCl z k1 s M H locs cells slots → lv_has ls 5 [(0, .ref h0), (1, .long p0), (3, .int x3)] → W p l e R s m args below meth c H locs cells slots Q (F0 m 9 ls []) := by
    intro n
    induction n with
    | zero => intro x3 M H locs ls cells slots hf hI hl; cases hf
    | succ n9 ih9 =>
      intro x3 M H locs ls cells slots hf hI hl
      rw [e_MD_putKey_9] at hf
      obtain ⟨J34, eJ34, hf⟩ := b_let_inv hf
      have w34 : ∀ (x3 : Int32) (M : hM) (H : Heap) (locs : List Loc) (ls : Array Slot) (cells slots : Nat), (J34 x3).1 M = some Z → hm_I D dA hCl z k1 s M H locs cells slots → lv_has ls 5 [(0, .ref h0), (1, .long p0), (3, .int x3)] → W p l e R s m args below meth c H locs cells slots Q (F0 m 34 ls []) := by
        intro x3 M H locs ls cells slots hf hI hl
        rw [eJ34] at hf
        refine x_iinc (v := (-8)) (lv2 := [(0, .ref h0), (1, .long p0)]) S d_MD_putKey_34 hl 2 rfl (by decide) (by decide) [0, 1] rfl ⟨⟨(by decide : (0 : Nat) ≠ 3), fun h => absurd (show (0 : Nat) + 1 = 3 from h) (by decide)⟩, ⟨⟨(by decide : (1 : Nat) ≠ 3), fun h => absurd (show (1 : Nat) + 1 = 3 from h) (by decide)⟩, trivial⟩⟩ (fun ls hl => ?_)
        refine lv_goto (tgt := 9) S.1 S.2.1 d_MD_putKey_37 (by decide) ?_
        exact ih9 (x3 + (-8)) _ _ _ _ _ _ hf hI (lv_sub hl [1, 2, 0] rfl)
      refine lv_iload_n S.1 S.2.1 d_MD_putKey_9 rfl (lv_at hl 2 rfl) ?_
      refine lv_if_lt (tgt := 40) S.1 S.2.1 d_MD_putKey_10 (by decide) (fun hc => ?_) (fun hc => ?_)
      · have hf := b_if_t hc hf
        exact hret _ _ _ _ _ _ _ d_MD_putKey_40 hf hI
      · have hf := b_if_f hc hf
        refine lv_lload_n S.1 S.2.1 d_MD_putKey_13 rfl (lv_at hl 1 rfl) ?_
        refine lv_iload_n S.1 S.2.1 d_MD_putKey_14 rfl (lv_at hl 2 rfl) ?_
        refine lv_lshr S.1 S.2.1 d_MD_putKey_15 rfl ?_
        refine lv_ldc2 (v := 255) S.1 S.2.1 S.2.2.2.1 (S.2.2.2.2 _ (List.mem_cons_of_mem _ wd_759)) d_MD_putKey_16 ?_
        refine lv_land S.1 S.2.1 d_MD_putKey_19 ?_
        refine lv_l2i S.1 S.2.1 d_MD_putKey_20 rfl ?_
        refine x_istore (lv2 := [(0, .ref h0), (1, .long p0), (3, .int x3)]) S d_MD_putKey_21 hl (by decide) [0, 1, 2] rfl ⟨⟨(by decide : (0 : Nat) ≠ 4), fun h => absurd (show (0 : Nat) + 1 = 4 from h) (by decide)⟩, ⟨⟨(by decide : (1 : Nat) ≠ 4), fun h => absurd (show (1 : Nat) + 1 = 4 from h) (by decide)⟩, ⟨⟨(by decide : (3 : Nat) ≠ 4), fun _ => rfl⟩, trivial⟩⟩⟩ (fun ls hl => ?_)
        refine lv_iload S.1 S.2.1 d_MD_putKey_23 (lv_at hl 0 rfl) ?_
        refine lv_if_eq (tgt := 34) S.1 S.2.1 d_MD_putKey_25 (by decide) (fun hc => ?_) (fun hc => ?_)
        · have hf := b_if_t hc hf
          exact w34 x3 _ _ _ _ _ _ hf hI (lv_sub hl [1, 2, 3] rfl)
        · have hf := b_if_f hc hf
          refine lv_aload_n S.1 S.2.1 d_MD_putKey_28 rfl (lv_at hl 1 rfl) ?_
          refine lv_iload S.1 S.2.1 d_MD_putKey_29 (lv_at hl 0 rfl) ?_
          obtain ⟨⟨fs4, hefs4⟩, hf⟩ := b_is_inv hf
          obtain ⟨r1, N2, hg3, hf⟩ := b_call_inv hf
          refine x_call hI (hm_mo hg3) (va_runV (As := [.int ((((p0 >>> ((x3 : Int32).toInt64 &&& 63)) &&& 255) : Int64).toInt32)]) (rest := []) S (c_MD_put l hg3) (cwV 1 S.2.2.2.2 (gi_V wd_755 wd_756 wd_757 wd_564 wd_758) rfl rfl rfl (by decide +kernel) ⟨Nat.le_trans (Nat.le_of_ble_eq_true rfl) hRf.1, Nat.le_trans (Nat.le_of_ble_eq_true rfl) hRf.2⟩) ⟨hm_B.blind, va_recv hK (hI.1.one hefs4) (ci := 1) (q0 := 0) rfl rfl, fun U hU hW => ⟨rfl, hm_B.of hK hG hI hU hW⟩⟩ rfl rfl hl.1 rfl (lv_room (Nat.le_of_ble_eq_true rfl)) d_MD_putKey_31 (hx_fit hI hR (hm_mo hg3) (hm_mo hf))) (fun H locs cells slots hI => ?_)
          refine W.eq (g2 := F0 m 34 ls []) rfl ?_
          exact w34 x3 _ _ _ _ _ _ hf hI (lv_sub hl [1, 2, 3] rfl)
  refine lv_aload_n S.1 S.2.1 d_MD_putKey_0 rfl (lv_at hl 0 rfl) ?_
  refine lv_bipush (v := 32) S.1 S.2.1 d_MD_putKey_1 (by decide) ?_
  obtain ⟨⟨fs8, hefs8⟩, hf⟩ := b_is_inv hf
  obtain ⟨r5, N6, hg7, hf⟩ := b_call_inv hf
  refine x_call hI (hm_mo hg7) (va_runV (As := [.int 32]) (rest := []) S (c_MD_put l hg7) (cwV 1 S.2.2.2.2 (gi_V wd_755 wd_756 wd_757 wd_564 wd_758) rfl rfl rfl (by decide +kernel) ⟨Nat.le_trans (Nat.le_of_ble_eq_true rfl) hRf.1, Nat.le_trans (Nat.le_of_ble_eq_true rfl) hRf.2⟩) ⟨hm_B.blind, va_recv hK (hI.1.one hefs8) (ci := 1) (q0 := 0) rfl rfl, fun U hU hW => ⟨rfl, hm_B.of hK hG hI hU hW⟩⟩ rfl rfl hl.1 rfl (lv_room (Nat.le_of_ble_eq_true rfl)) d_MD_putKey_3 (hx_fit hI hR (hm_mo hg7) (hm_mo hf))) (fun H locs cells slots hI => ?_)
  refine W.eq (g2 := F0 m 6 ls []) rfl ?_
  refine lv_bipush (v := 56) S.1 S.2.1 d_MD_putKey_6 (by decide) ?_
  refine x_istore_n (lv2 := [(0, .ref h0), (1, .long p0)]) S d_MD_putKey_8 rfl hl (by decide) [0, 1] rfl ⟨⟨(by decide : (0 : Nat) ≠ 3), fun h => absurd (show (0 : Nat) + 1 = 3 from h) (by decide)⟩, ⟨⟨(by decide : (1 : Nat) ≠ 3), fun h => absurd (show (1 : Nat) + 1 = 3 from h) (by decide)⟩, trivial⟩⟩ (fun ls hl => ?_)
  exact w9 N 56 _ _ _ _ _ _ hf hI (lv_sub hl [1, 2, 0] rfl)
set_option maxHeartbeats 4000000 in
set_option maxRecDepth 100000 in
theorem c_MD_putNumber (l : Launch) {D : va_G} {dA : Nat → ClassId} {aK aV : Nat → Nat} {z : Nat} {N : Nat} {h0 : Nat} {p0 : Int64} {M : hM} {Z : Unit × hM} (hf : (f_MD_putNumber N h0 p0).1 M = some Z) : Met l y_MD_putNumber w_MD_putNumber ({ frames := 1, cells := Z.2.2.1 - M.2.1, slots := Z.2.2.2 - M.2.2, locals := 21 }) (va_Pc [.ref h0, .long p0] (hm_B D dA hCl (hTy dA) sT aK aV z M)) (hm_Q D dA hCl (hTy dA) sT aK aV z none Z.2) (Z.2.2.1 - M.2.1) (Z.2.2.2 - M.2.2) (fun q => z ≤ q) := by
  refine Met.ofW (cc := b_MD_putNumber) (maxL := 5) (ret := none) (by decide) rfl ?_
  intro p e s m args below meth c s₁ B hml hv
  obtain ⟨hav, hB⟩ := hv
  have S : CallFix p m c b_MD_putNumber 5 s args w_MD_putNumber R_MD := ⟨B.exec, B.bytes, hml, findClass_of_methodNamed B.named, atoms_spec (ws := w_MD_putNumber) B.pre⟩
  have hr : meth.sig.returnType = none := B.returns
  have hlocks := B.notSynchronized
  have hK := hB.2.2.1
  have hG := hB.2.2.2.2.2
  have hI := hm_I.start hB
  rw [← hB.2.1]
  generalize M.2.2 = k1 at hI ⊢
  refine W.eq (g2 := F0 m 0 ((lg_sl ([.ref h0, .long p0]) ++ List.replicate (5 - (lg_sl ([.ref h0, .long p0])).length) Slot.unset).toArray) []) (by rw [hav]; exact lg_entry_eq m ([.ref h0, .long p0]) 5) ?_
  have hl := lv_entry ([.ref h0, .long p0]) (n := 5) (Nat.le_of_ble_eq_true rfl)
  generalize (lg_sl ([.ref h0, .long p0]) ++ List.replicate (5 - (lg_sl ([.ref h0, .long p0])).length) Slot.unset).toArray = ls at hl ⊢
  simp only [lvA_nil, lvA_i, lvA_l, lvA_a, lvA_r, Nat.zero_add, Nat.reduceAdd] at hl
  have hret : ∀ (M : hM) (H : Heap) (locs : List Loc) (cells slots : Nat) (ls : Array Slot) (pc : Nat), decode b_MD_putNumber pc = .ok (.return_, 1) → (b_ret ()).1 M = some Z → hm_I D dA hCl z k1 s M H locs cells slots → W p l e (headSpec w_MD_putNumber { frames := 1, cells := Z.2.2.1 - s.heap.size, slots := Z.2.2.2 - k1, locals := 21 }).room s m args below meth c H locs cells slots (MQ below (hm_Q D dA hCl (hTy dA) sT aK aV z none Z.2) args s (Z.2.2.1 - s.heap.size) (Z.2.2.2 - k1) (fun q => z ≤ q)) (F0 m pc ls []) := fun M H locs cells slots ls pc hdg hf hI => x_retv S hK hG hI hr hlocks hdg hf
  have hR : Z.2.2.1 - s.heap.size ≤ (headSpec w_MD_putNumber { frames := 1, cells := Z.2.2.1 - s.heap.size, slots := Z.2.2.2 - k1, locals := 21 }).room.cells ∧ Z.2.2.2 - k1 ≤ (headSpec w_MD_putNumber { frames := 1, cells := Z.2.2.1 - s.heap.size, slots := Z.2.2.2 - k1, locals := 21 }).room.slots := ⟨Nat.le_refl _, Nat.le_refl _⟩
  have hRf : 1 ≤ (headSpec w_MD_putNumber { frames := 1, cells := Z.2.2.1 - s.heap.size, slots := Z.2.2.2 - k1, locals := 21 }).room.frames ∧ 21 ≤ (headSpec w_MD_putNumber { frames := 1, cells := Z.2.2.1 - s.heap.size, slots := Z.2.2.2 - k1, locals := 21 }).room.locals := ⟨Nat.le_refl _, Nat.le_refl _⟩
  generalize (headSpec w_MD_putNumber { frames := 1, cells := Z.2.2.1 - s.heap.size, slots := Z.2.2.2 - k1, locals := 21 }).room = R at hret hR hRf ⊢
  generalize (MQ below (hm_Q D dA hCl (hTy dA) sT aK aV z none Z.2) args s (Z.2.2.1 - s.heap.size) (Z.2.2.2 - k1) (fun q => z ≤ q)) = Q at hret ⊢
  rw [e_MD_putNumber] at hf
  have w2 : ∀ (n : Nat) (x3 : Int64) (M : hM) (H : Heap) (locs : List Loc) (ls : Array Slot) (cells slots : Nat), (f_MD_putNumber_2 N h0 p0  n x3).1 M = some Z → hm_I D dA hCl z k1 s M H locs cells slots → lv_has ls 5 [(0, .ref h0), (1, .long p0), (3, .long x3)] → W p l e R s m args below meth c H locs cells slots Q (F0 m 2 ls []) := by
    intro n
    induction n with
    | zero => intro x3 M H locs ls cells slots hf hI hl; cases hf
    | succ n2 ih2 =>
      intro x3 M H locs ls cells slots hf hI hl
      rw [e_MD_putNumber_2] at hf
      have w21 : ∀ (n : Nat) (x3 : Int64) (M : hM) (H : Heap) (locs : List Loc) (ls : Array Slot) (cells slots : Nat), (f_MD_putNumber_21 N h0 p0  n x3).1 M = some Z → hm_I D dA hCl z k1 s M H locs cells slots → lv_has ls 5 [(0, .ref h0), (1, .long p0), (3, .long x3)] → W p l e R s m args below meth c H locs cells slots Q (F0 m 21 ls []) := by
        intro n
        induction n with
        | zero => intro x3 M H locs ls cells slots hf hI hl; cases hf
        | succ n21 ih21 =>
          intro x3 M H locs ls cells slots hf hI hl
          rw [e_MD_putNumber_21] at hf
          refine lv_lload_n S.1 S.2.1 d_MD_putNumber_21 rfl (lv_at hl 2 rfl) ?_
          refine lv_lconst (v := 0) S.1 S.2.1 d_MD_putNumber_22 (by decide) ?_
          refine W.lcmp S.1 S.2.1 d_MD_putNumber_23 ?_
          refine lv_if_le (tgt := 51) S.1 S.2.1 d_MD_putNumber_24 (by decide) (fun hc => ?_) (fun hc => ?_)
          · have hf := b_if_t hc hf
            exact hret _ _ _ _ _ _ _ d_MD_putNumber_51 hf hI
          · have hf := b_if_f hc hf
            refine lv_aload_n S.1 S.2.1 d_MD_putNumber_27 rfl (lv_at hl 0 rfl) ?_
            refine lv_bipush (v := 48) S.1 S.2.1 d_MD_putNumber_28 (by decide) ?_
            refine lv_lload_n S.1 S.2.1 d_MD_putNumber_30 rfl (lv_at hl 1 rfl) ?_
            refine lv_lload_n S.1 S.2.1 d_MD_putNumber_31 rfl (lv_at hl 2 rfl) ?_
            obtain ⟨hne, hf⟩ := b_ifn hf
            refine lv_ldiv S.1 S.2.1 d_MD_putNumber_32 hne ?_
            refine lv_ldc2 (v := 10) S.1 S.2.1 S.2.2.2.1 (S.2.2.2.2 _ (List.mem_cons_of_mem _ wd_587)) d_MD_putNumber_33 ?_
            refine lv_lrem S.1 S.2.1 d_MD_putNumber_36 (by decide) ?_
            refine lv_l2i S.1 S.2.1 d_MD_putNumber_37 rfl ?_
            refine lv_iadd S.1 S.2.1 d_MD_putNumber_38 ?_
            obtain ⟨⟨fs4, hefs4⟩, hf⟩ := b_is_inv hf
            obtain ⟨r1, N2, hg3, hf⟩ := b_call_inv hf
            refine x_call hI (hm_mo hg3) (va_runV (As := [.int (48 + ((((p0 / x3) - (p0 / x3) / 10 * 10) : Int64).toInt32))]) (rest := []) S (c_MD_put l hg3) (cwV 1 S.2.2.2.2 (gi_V wd_755 wd_756 wd_757 wd_564 wd_758) rfl rfl rfl (by decide +kernel) ⟨Nat.le_trans (Nat.le_of_ble_eq_true rfl) hRf.1, Nat.le_trans (Nat.le_of_ble_eq_true rfl) hRf.2⟩) ⟨hm_B.blind, va_recv hK (hI.1.one hefs4) (ci := 1) (q0 := 0) rfl rfl, fun U hU hW => ⟨rfl, hm_B.of hK hG hI hU hW⟩⟩ rfl rfl hl.1 rfl (lv_room (Nat.le_of_ble_eq_true rfl)) d_MD_putNumber_39 (hx_fit hI hR (hm_mo hg3) (hm_mo hf))) (fun H locs cells slots hI => ?_)
            refine W.eq (g2 := F0 m 42 ls []) rfl ?_
            refine lv_lload_n S.1 S.2.1 d_MD_putNumber_42 rfl (lv_at hl 2 rfl) ?_
            refine lv_ldc2 (v := 10) S.1 S.2.1 S.2.2.2.1 (S.2.2.2.2 _ (List.mem_cons_of_mem _ wd_587)) d_MD_putNumber_43 ?_
            refine lv_ldiv S.1 S.2.1 d_MD_putNumber_46 (by decide) ?_
            refine x_lstore_n (lv2 := [(0, .ref h0), (1, .long p0)]) S d_MD_putNumber_47 rfl hl (by decide) [0, 1] rfl ⟨⟨(by decide : (0 : Nat) ≠ 3), (by decide : (0 : Nat) ≠ 3 + 1), fun h => absurd (show (0 : Nat) + 1 = 3 from h) (by decide)⟩, ⟨⟨(by decide : (1 : Nat) ≠ 3), (by decide : (1 : Nat) ≠ 3 + 1), fun h => absurd (show (1 : Nat) + 1 = 3 from h) (by decide)⟩, trivial⟩⟩ (fun ls hl => ?_)
            refine lv_goto (tgt := 21) S.1 S.2.1 d_MD_putNumber_48 (by decide) ?_
            exact ih21 (x3 / 10) _ _ _ _ _ _ hf hI (lv_sub hl [1, 2, 0] rfl)
      refine lv_lload_n S.1 S.2.1 d_MD_putNumber_2 rfl (lv_at hl 2 rfl) ?_
      refine lv_lload_n S.1 S.2.1 d_MD_putNumber_3 rfl (lv_at hl 1 rfl) ?_
      refine lv_ldc2 (v := 10) S.1 S.2.1 S.2.2.2.1 (S.2.2.2.2 _ (List.mem_cons_of_mem _ wd_587)) d_MD_putNumber_4 ?_
      refine lv_ldiv S.1 S.2.1 d_MD_putNumber_7 (by decide) ?_
      refine W.lcmp S.1 S.2.1 d_MD_putNumber_8 ?_
      refine lv_if_gt (tgt := 21) S.1 S.2.1 d_MD_putNumber_9 (by decide) (fun hc => ?_) (fun hc => ?_)
      · have hf := b_if_t hc hf
        exact w21 N x3 _ _ _ _ _ _ hf hI (lv_sub hl [0, 1, 2] rfl)
      · have hf := b_if_f hc hf
        refine lv_lload_n S.1 S.2.1 d_MD_putNumber_12 rfl (lv_at hl 2 rfl) ?_
        refine lv_ldc2 (v := 10) S.1 S.2.1 S.2.2.2.1 (S.2.2.2.2 _ (List.mem_cons_of_mem _ wd_587)) d_MD_putNumber_13 ?_
        refine lv_lmul S.1 S.2.1 d_MD_putNumber_16 ?_
        refine x_lstore_n (lv2 := [(0, .ref h0), (1, .long p0)]) S d_MD_putNumber_17 rfl hl (by decide) [0, 1] rfl ⟨⟨(by decide : (0 : Nat) ≠ 3), (by decide : (0 : Nat) ≠ 3 + 1), fun h => absurd (show (0 : Nat) + 1 = 3 from h) (by decide)⟩, ⟨⟨(by decide : (1 : Nat) ≠ 3), (by decide : (1 : Nat) ≠ 3 + 1), fun h => absurd (show (1 : Nat) + 1 = 3 from h) (by decide)⟩, trivial⟩⟩ (fun ls hl => ?_)
        refine lv_goto (tgt := 2) S.1 S.2.1 d_MD_putNumber_18 (by decide) ?_
        exact ih2 (x3 * 10) _ _ _ _ _ _ hf hI (lv_sub hl [1, 2, 0] rfl)
  refine lv_lconst (v := 1) S.1 S.2.1 d_MD_putNumber_0 (by decide) ?_
  refine x_lstore_n (lv2 := [(0, .ref h0), (1, .long p0)]) S d_MD_putNumber_1 rfl hl (by decide) [0, 1] rfl ⟨⟨(by decide : (0 : Nat) ≠ 3), (by decide : (0 : Nat) ≠ 3 + 1), fun h => absurd (show (0 : Nat) + 1 = 3 from h) (by decide)⟩, ⟨⟨(by decide : (1 : Nat) ≠ 3), (by decide : (1 : Nat) ≠ 3 + 1), fun h => absurd (show (1 : Nat) + 1 = 3 from h) (by decide)⟩, trivial⟩⟩ (fun ls hl => ?_)
  exact w2 N 1 _ _ _ _ _ _ hf hI (lv_sub hl [1, 2, 0] rfl)
set_option maxHeartbeats 4000000 in
set_option maxRecDepth 100000 in
theorem c_MD_putVersion (l : Launch) {D : va_G} {dA : Nat → ClassId} {aK aV : Nat → Nat} {z : Nat} {N : Nat} {h0 : Nat} {p0 : Int64} {M : hM} {Z : Unit × hM} (hf : (f_MD_putVersion N h0 p0).1 M = some Z) : Met l y_MD_putVersion w_MD_putVersion ({ frames := 2, cells := Z.2.2.1 - M.2.1, slots := Z.2.2.2 - M.2.2, locals := 45 }) (va_Pc [.ref h0, .long p0] (hm_B D dA hCl (hTy dA) sT aK aV z M)) (hm_Q D dA hCl (hTy dA) sT aK aV z none Z.2) (Z.2.2.1 - M.2.1) (Z.2.2.2 - M.2.2) (fun q => z ≤ q) := by
  refine Met.ofW (cc := b_MD_putVersion) (maxL := 3) (ret := none) (by decide) rfl ?_
  intro p e s m args below meth c s₁ B hml hv
  obtain ⟨hav, hB⟩ := hv
  have S : CallFix p m c b_MD_putVersion 3 s args w_MD_putVersion R_MD := ⟨B.exec, B.bytes, hml, findClass_of_methodNamed B.named, atoms_spec (ws := w_MD_putVersion) B.pre⟩
  have hr : meth.sig.returnType = none := B.returns
  have hlocks := B.notSynchronized
  have hK := hB.2.2.1
  have hG := hB.2.2.2.2.2
  have hI := hm_I.start hB
  rw [← hB.2.1]
  generalize M.2.2 = k1 at hI ⊢
  refine W.eq (g2 := F0 m 0 ((lg_sl ([.ref h0, .long p0]) ++ List.replicate (3 - (lg_sl ([.ref h0, .long p0])).length) Slot.unset).toArray) []) (by rw [hav]; exact lg_entry_eq m ([.ref h0, .long p0]) 3) ?_
  have hl := lv_entry ([.ref h0, .long p0]) (n := 3) (Nat.le_of_ble_eq_true rfl)
  generalize (lg_sl ([.ref h0, .long p0]) ++ List.replicate (3 - (lg_sl ([.ref h0, .long p0])).length) Slot.unset).toArray = ls at hl ⊢
  simp only [lvA_nil, lvA_i, lvA_l, lvA_a, lvA_r, Nat.zero_add, Nat.reduceAdd] at hl
  have hret : ∀ (M : hM) (H : Heap) (locs : List Loc) (cells slots : Nat) (ls : Array Slot) (pc : Nat), decode b_MD_putVersion pc = .ok (.return_, 1) → (b_ret ()).1 M = some Z → hm_I D dA hCl z k1 s M H locs cells slots → W p l e (headSpec w_MD_putVersion { frames := 2, cells := Z.2.2.1 - s.heap.size, slots := Z.2.2.2 - k1, locals := 45 }).room s m args below meth c H locs cells slots (MQ below (hm_Q D dA hCl (hTy dA) sT aK aV z none Z.2) args s (Z.2.2.1 - s.heap.size) (Z.2.2.2 - k1) (fun q => z ≤ q)) (F0 m pc ls []) := fun M H locs cells slots ls pc hdg hf hI => x_retv S hK hG hI hr hlocks hdg hf
  have hR : Z.2.2.1 - s.heap.size ≤ (headSpec w_MD_putVersion { frames := 2, cells := Z.2.2.1 - s.heap.size, slots := Z.2.2.2 - k1, locals := 45 }).room.cells ∧ Z.2.2.2 - k1 ≤ (headSpec w_MD_putVersion { frames := 2, cells := Z.2.2.1 - s.heap.size, slots := Z.2.2.2 - k1, locals := 45 }).room.slots := ⟨Nat.le_refl _, Nat.le_refl _⟩
  have hRf : 2 ≤ (headSpec w_MD_putVersion { frames := 2, cells := Z.2.2.1 - s.heap.size, slots := Z.2.2.2 - k1, locals := 45 }).room.frames ∧ 45 ≤ (headSpec w_MD_putVersion { frames := 2, cells := Z.2.2.1 - s.heap.size, slots := Z.2.2.2 - k1, locals := 45 }).room.locals := ⟨Nat.le_refl _, Nat.le_refl _⟩
  generalize (headSpec w_MD_putVersion { frames := 2, cells := Z.2.2.1 - s.heap.size, slots := Z.2.2.2 - k1, locals := 45 }).room = R at hret hR hRf ⊢
  generalize (MQ below (hm_Q D dA hCl (hTy dA) sT aK aV z none Z.2) args s (Z.2.2.1 - s.heap.size) (Z.2.2.2 - k1) (fun q => z ≤ q)) = Q at hret ⊢
  rw [e_MD_putVersion] at hf
  refine lv_aload_n S.1 S.2.1 d_MD_putVersion_0 rfl (lv_at hl 0 rfl) ?_
  refine lv_lload_n S.1 S.2.1 d_MD_putVersion_1 rfl (lv_at hl 1 rfl) ?_
  refine lv_ldc2 (v := 1000000000000) S.1 S.2.1 S.2.2.2.1 (S.2.2.2.2 _ (List.mem_cons_of_mem _ wd_760)) d_MD_putVersion_2 ?_
  refine lv_ldiv S.1 S.2.1 d_MD_putVersion_5 (by decide) ?_
  obtain ⟨⟨fs4, hefs4⟩, hf⟩ := b_is_inv hf
  obtain ⟨r1, N2, hg3, hf⟩ := b_call_inv hf
  refine x_call hI (hm_mo hg3) (va_runV (As := [.long (p0 / 1000000000000)]) (rest := []) S (c_MD_putNumber l hg3) (cwV 1 S.2.2.2.2 (gi_V wd_761 wd_762 wd_763 wd_564 wd_764) rfl rfl rfl (by decide +kernel) ⟨Nat.le_trans (Nat.le_of_ble_eq_true rfl) hRf.1, Nat.le_trans (Nat.le_of_ble_eq_true rfl) hRf.2⟩) ⟨hm_B.blind, va_recv hK (hI.1.one hefs4) (ci := 1) (q0 := 0) rfl rfl, fun U hU hW => ⟨rfl, hm_B.of hK hG hI hU hW⟩⟩ rfl rfl hl.1 rfl (lv_room (Nat.le_of_ble_eq_true rfl)) d_MD_putVersion_6 (hx_fit hI hR (hm_mo hg3) (hm_mo hf))) (fun H locs cells slots hI => ?_)
  refine W.eq (g2 := F0 m 9 ls []) rfl ?_
  refine lv_aload_n S.1 S.2.1 d_MD_putVersion_9 rfl (lv_at hl 0 rfl) ?_
  refine lv_bipush (v := 46) S.1 S.2.1 d_MD_putVersion_10 (by decide) ?_
  obtain ⟨⟨fs8, hefs8⟩, hf⟩ := b_is_inv hf
  obtain ⟨r5, N6, hg7, hf⟩ := b_call_inv hf
  refine x_call hI (hm_mo hg7) (va_runV (As := [.int 46]) (rest := []) S (c_MD_put l hg7) (cwV 1 S.2.2.2.2 (gi_V wd_755 wd_756 wd_757 wd_564 wd_758) rfl rfl rfl (by decide +kernel) ⟨Nat.le_trans (Nat.le_of_ble_eq_true rfl) hRf.1, Nat.le_trans (Nat.le_of_ble_eq_true rfl) hRf.2⟩) ⟨hm_B.blind, va_recv hK (hI.1.one hefs8) (ci := 1) (q0 := 0) rfl rfl, fun U hU hW => ⟨rfl, hm_B.of hK hG hI hU hW⟩⟩ rfl rfl hl.1 rfl (lv_room (Nat.le_of_ble_eq_true rfl)) d_MD_putVersion_12 (hx_fit hI hR (hm_mo hg7) (hm_mo hf))) (fun H locs cells slots hI => ?_)
  refine W.eq (g2 := F0 m 15 ls []) rfl ?_
  refine lv_aload_n S.1 S.2.1 d_MD_putVersion_15 rfl (lv_at hl 0 rfl) ?_
  refine lv_lload_n S.1 S.2.1 d_MD_putVersion_16 rfl (lv_at hl 1 rfl) ?_
  refine lv_ldc2 (v := 1000000) S.1 S.2.1 S.2.2.2.1 (S.2.2.2.2 _ (List.mem_cons_of_mem _ wd_589)) d_MD_putVersion_17 ?_
  refine lv_ldiv S.1 S.2.1 d_MD_putVersion_20 (by decide) ?_
  refine lv_ldc2 (v := 1000000) S.1 S.2.1 S.2.2.2.1 (S.2.2.2.2 _ (List.mem_cons_of_mem _ wd_589)) d_MD_putVersion_21 ?_
  refine lv_lrem S.1 S.2.1 d_MD_putVersion_24 (by decide) ?_
  obtain ⟨⟨fs12, hefs12⟩, hf⟩ := b_is_inv hf
  obtain ⟨r9, N10, hg11, hf⟩ := b_call_inv hf
  refine x_call hI (hm_mo hg11) (va_runV (As := [.long ((p0 / 1000000) - (p0 / 1000000) / 1000000 * 1000000)]) (rest := []) S (c_MD_putNumber l hg11) (cwV 1 S.2.2.2.2 (gi_V wd_761 wd_762 wd_763 wd_564 wd_764) rfl rfl rfl (by decide +kernel) ⟨Nat.le_trans (Nat.le_of_ble_eq_true rfl) hRf.1, Nat.le_trans (Nat.le_of_ble_eq_true rfl) hRf.2⟩) ⟨hm_B.blind, va_recv hK (hI.1.one hefs12) (ci := 1) (q0 := 0) rfl rfl, fun U hU hW => ⟨rfl, hm_B.of hK hG hI hU hW⟩⟩ rfl rfl hl.1 rfl (lv_room (Nat.le_of_ble_eq_true rfl)) d_MD_putVersion_25 (hx_fit hI hR (hm_mo hg11) (hm_mo hf))) (fun H locs cells slots hI => ?_)
  refine W.eq (g2 := F0 m 28 ls []) rfl ?_
  refine lv_aload_n S.1 S.2.1 d_MD_putVersion_28 rfl (lv_at hl 0 rfl) ?_
  refine lv_bipush (v := 46) S.1 S.2.1 d_MD_putVersion_29 (by decide) ?_
  obtain ⟨⟨fs16, hefs16⟩, hf⟩ := b_is_inv hf
  obtain ⟨r13, N14, hg15, hf⟩ := b_call_inv hf
  refine x_call hI (hm_mo hg15) (va_runV (As := [.int 46]) (rest := []) S (c_MD_put l hg15) (cwV 1 S.2.2.2.2 (gi_V wd_755 wd_756 wd_757 wd_564 wd_758) rfl rfl rfl (by decide +kernel) ⟨Nat.le_trans (Nat.le_of_ble_eq_true rfl) hRf.1, Nat.le_trans (Nat.le_of_ble_eq_true rfl) hRf.2⟩) ⟨hm_B.blind, va_recv hK (hI.1.one hefs16) (ci := 1) (q0 := 0) rfl rfl, fun U hU hW => ⟨rfl, hm_B.of hK hG hI hU hW⟩⟩ rfl rfl hl.1 rfl (lv_room (Nat.le_of_ble_eq_true rfl)) d_MD_putVersion_31 (hx_fit hI hR (hm_mo hg15) (hm_mo hf))) (fun H locs cells slots hI => ?_)
  refine W.eq (g2 := F0 m 34 ls []) rfl ?_
  refine lv_aload_n S.1 S.2.1 d_MD_putVersion_34 rfl (lv_at hl 0 rfl) ?_
  refine lv_lload_n S.1 S.2.1 d_MD_putVersion_35 rfl (lv_at hl 1 rfl) ?_
  refine lv_ldc2 (v := 1000000) S.1 S.2.1 S.2.2.2.1 (S.2.2.2.2 _ (List.mem_cons_of_mem _ wd_589)) d_MD_putVersion_36 ?_
  refine lv_lrem S.1 S.2.1 d_MD_putVersion_39 (by decide) ?_
  obtain ⟨⟨fs20, hefs20⟩, hf⟩ := b_is_inv hf
  obtain ⟨r17, N18, hg19, hf⟩ := b_call_inv hf
  refine x_call hI (hm_mo hg19) (va_runV (As := [.long (p0 - p0 / 1000000 * 1000000)]) (rest := []) S (c_MD_putNumber l hg19) (cwV 1 S.2.2.2.2 (gi_V wd_761 wd_762 wd_763 wd_564 wd_764) rfl rfl rfl (by decide +kernel) ⟨Nat.le_trans (Nat.le_of_ble_eq_true rfl) hRf.1, Nat.le_trans (Nat.le_of_ble_eq_true rfl) hRf.2⟩) ⟨hm_B.blind, va_recv hK (hI.1.one hefs20) (ci := 1) (q0 := 0) rfl rfl, fun U hU hW => ⟨rfl, hm_B.of hK hG hI hU hW⟩⟩ rfl rfl hl.1 rfl (lv_room (Nat.le_of_ble_eq_true rfl)) d_MD_putVersion_40 (hx_fit hI hR (hm_mo hg19) (hm_mo hf))) (fun H locs cells slots hI => ?_)
  refine W.eq (g2 := F0 m 43 ls []) rfl ?_
  exact hret _ _ _ _ _ _ _ d_MD_putVersion_43 hf hI
set_option maxHeartbeats 4000000 in
set_option maxRecDepth 100000 in
theorem c_MD_putBound (l : Launch) {D : va_G} {dA : Nat → ClassId} {aK aV : Nat → Nat} {z : Nat} {N : Nat} {h0 : Nat} {p0 : Int32} {p1 : Int32} {p2 : Int64} {M : hM} {Z : Unit × hM} (hf : (f_MD_putBound N h0 p0 p1 p2).1 M = some Z) : Met l y_MD_putBound w_MD_putBound ({ frames := 3, cells := Z.2.2.1 - M.2.1, slots := Z.2.2.2 - M.2.2, locals := 67 }) (va_Pc [.ref h0, .int p0, .int p1, .long p2] (hm_B D dA hCl (hTy dA) sT aK aV z M)) (hm_Q D dA hCl (hTy dA) sT aK aV z none Z.2) (Z.2.2.1 - M.2.1) (Z.2.2.2 - M.2.2) (fun q => z ≤ q) := by
  refine Met.ofW (cc := b_MD_putBound) (maxL := 5) (ret := none) (by decide) rfl ?_
  intro p e s m args below meth c s₁ B hml hv
  obtain ⟨hav, hB⟩ := hv
  have S : CallFix p m c b_MD_putBound 5 s args w_MD_putBound R_MD := ⟨B.exec, B.bytes, hml, findClass_of_methodNamed B.named, atoms_spec (ws := w_MD_putBound) B.pre⟩
  have hr : meth.sig.returnType = none := B.returns
  have hlocks := B.notSynchronized
  have hK := hB.2.2.1
  have hG := hB.2.2.2.2.2
  have hI := hm_I.start hB
  rw [← hB.2.1]
  generalize M.2.2 = k1 at hI ⊢
  refine W.eq (g2 := F0 m 0 ((lg_sl ([.ref h0, .int p0, .int p1, .long p2]) ++ List.replicate (5 - (lg_sl ([.ref h0, .int p0, .int p1, .long p2])).length) Slot.unset).toArray) []) (by rw [hav]; exact lg_entry_eq m ([.ref h0, .int p0, .int p1, .long p2]) 5) ?_
  have hl := lv_entry ([.ref h0, .int p0, .int p1, .long p2]) (n := 5) (Nat.le_of_ble_eq_true rfl)
  generalize (lg_sl ([.ref h0, .int p0, .int p1, .long p2]) ++ List.replicate (5 - (lg_sl ([.ref h0, .int p0, .int p1, .long p2])).length) Slot.unset).toArray = ls at hl ⊢
  simp only [lvA_nil, lvA_i, lvA_l, lvA_a, lvA_r, Nat.zero_add, Nat.reduceAdd] at hl
  have hret : ∀ (M : hM) (H : Heap) (locs : List Loc) (cells slots : Nat) (ls : Array Slot) (pc : Nat), decode b_MD_putBound pc = .ok (.return_, 1) → (b_ret ()).1 M = some Z → hm_I D dA hCl z k1 s M H locs cells slots → W p l e (headSpec w_MD_putBound { frames := 3, cells := Z.2.2.1 - s.heap.size, slots := Z.2.2.2 - k1, locals := 67 }).room s m args below meth c H locs cells slots (MQ below (hm_Q D dA hCl (hTy dA) sT aK aV z none Z.2) args s (Z.2.2.1 - s.heap.size) (Z.2.2.2 - k1) (fun q => z ≤ q)) (F0 m pc ls []) := fun M H locs cells slots ls pc hdg hf hI => x_retv S hK hG hI hr hlocks hdg hf
  have hR : Z.2.2.1 - s.heap.size ≤ (headSpec w_MD_putBound { frames := 3, cells := Z.2.2.1 - s.heap.size, slots := Z.2.2.2 - k1, locals := 67 }).room.cells ∧ Z.2.2.2 - k1 ≤ (headSpec w_MD_putBound { frames := 3, cells := Z.2.2.1 - s.heap.size, slots := Z.2.2.2 - k1, locals := 67 }).room.slots := ⟨Nat.le_refl _, Nat.le_refl _⟩
  have hRf : 3 ≤ (headSpec w_MD_putBound { frames := 3, cells := Z.2.2.1 - s.heap.size, slots := Z.2.2.2 - k1, locals := 67 }).room.frames ∧ 67 ≤ (headSpec w_MD_putBound { frames := 3, cells := Z.2.2.1 - s.heap.size, slots := Z.2.2.2 - k1, locals := 67 }).room.locals := ⟨Nat.le_refl _, Nat.le_refl _⟩
  generalize (headSpec w_MD_putBound { frames := 3, cells := Z.2.2.1 - s.heap.size, slots := Z.2.2.2 - k1, locals := 67 }).room = R at hret hR hRf ⊢
  generalize (MQ below (hm_Q D dA hCl (hTy dA) sT aK aV z none Z.2) args s (Z.2.2.1 - s.heap.size) (Z.2.2.2 - k1) (fun q => z ≤ q)) = Q at hret ⊢
  rw [e_MD_putBound] at hf
  obtain ⟨J20, eJ20, hf⟩ := b_let_inv hf
  have w20 : ∀  (M : hM) (H : Heap) (locs : List Loc) (ls : Array Slot) (cells slots : Nat), (J20).1 M = some Z → hm_I D dA hCl z k1 s M H locs cells slots → lv_has ls 5 [(0, .ref h0), (3, .long p2)] → W p l e R s m args below meth c H locs cells slots Q (F0 m 20 ls []) := by
    intro M H locs ls cells slots hf hI hl
    rw [eJ20] at hf
    refine lv_aload_n S.1 S.2.1 d_MD_putBound_20 rfl (lv_at hl 0 rfl) ?_
    refine lv_bipush (v := 32) S.1 S.2.1 d_MD_putBound_21 (by decide) ?_
    obtain ⟨⟨fs4, hefs4⟩, hf⟩ := b_is_inv hf
    obtain ⟨r1, N2, hg3, hf⟩ := b_call_inv hf
    refine x_call hI (hm_mo hg3) (va_runV (As := [.int 32]) (rest := []) S (c_MD_put l hg3) (cwV 1 S.2.2.2.2 (gi_V wd_755 wd_756 wd_757 wd_564 wd_758) rfl rfl rfl (by decide +kernel) ⟨Nat.le_trans (Nat.le_of_ble_eq_true rfl) hRf.1, Nat.le_trans (Nat.le_of_ble_eq_true rfl) hRf.2⟩) ⟨hm_B.blind, va_recv hK (hI.1.one hefs4) (ci := 1) (q0 := 0) rfl rfl, fun U hU hW => ⟨rfl, hm_B.of hK hG hI hU hW⟩⟩ rfl rfl hl.1 rfl (lv_room (Nat.le_of_ble_eq_true rfl)) d_MD_putBound_23 (hx_fit hI hR (hm_mo hg3) (hm_mo hf))) (fun H locs cells slots hI => ?_)
    refine W.eq (g2 := F0 m 26 ls []) rfl ?_
    refine lv_aload_n S.1 S.2.1 d_MD_putBound_26 rfl (lv_at hl 0 rfl) ?_
    refine lv_lload_n S.1 S.2.1 d_MD_putBound_27 rfl (lv_at hl 1 rfl) ?_
    obtain ⟨⟨fs8, hefs8⟩, hf⟩ := b_is_inv hf
    obtain ⟨r5, N6, hg7, hf⟩ := b_call_inv hf
    refine x_call hI (hm_mo hg7) (va_runV (As := [.long p2]) (rest := []) S (c_MD_putVersion l hg7) (cwV 1 S.2.2.2.2 (gi_V wd_765 wd_766 wd_767 wd_564 wd_768) rfl rfl rfl (by decide +kernel) ⟨Nat.le_trans (Nat.le_of_ble_eq_true rfl) hRf.1, Nat.le_trans (Nat.le_of_ble_eq_true rfl) hRf.2⟩) ⟨hm_B.blind, va_recv hK (hI.1.one hefs8) (ci := 1) (q0 := 0) rfl rfl, fun U hU hW => ⟨rfl, hm_B.of hK hG hI hU hW⟩⟩ rfl rfl hl.1 rfl (lv_room (Nat.le_of_ble_eq_true rfl)) d_MD_putBound_28 (hx_fit hI hR (hm_mo hg7) (hm_mo hf))) (fun H locs cells slots hI => ?_)
    refine W.eq (g2 := F0 m 31 ls []) rfl ?_
    exact hret _ _ _ _ _ _ _ d_MD_putBound_31 hf hI
  refine lv_aload_n S.1 S.2.1 d_MD_putBound_0 rfl (lv_at hl 0 rfl) ?_
  refine lv_bipush (v := 32) S.1 S.2.1 d_MD_putBound_1 (by decide) ?_
  obtain ⟨⟨fs12, hefs12⟩, hf⟩ := b_is_inv hf
  obtain ⟨r9, N10, hg11, hf⟩ := b_call_inv hf
  refine x_call hI (hm_mo hg11) (va_runV (As := [.int 32]) (rest := []) S (c_MD_put l hg11) (cwV 1 S.2.2.2.2 (gi_V wd_755 wd_756 wd_757 wd_564 wd_758) rfl rfl rfl (by decide +kernel) ⟨Nat.le_trans (Nat.le_of_ble_eq_true rfl) hRf.1, Nat.le_trans (Nat.le_of_ble_eq_true rfl) hRf.2⟩) ⟨hm_B.blind, va_recv hK (hI.1.one hefs12) (ci := 1) (q0 := 0) rfl rfl, fun U hU hW => ⟨rfl, hm_B.of hK hG hI hU hW⟩⟩ rfl rfl hl.1 rfl (lv_room (Nat.le_of_ble_eq_true rfl)) d_MD_putBound_3 (hx_fit hI hR (hm_mo hg11) (hm_mo hf))) (fun H locs cells slots hI => ?_)
  refine W.eq (g2 := F0 m 6 ls []) rfl ?_
  refine lv_aload_n S.1 S.2.1 d_MD_putBound_6 rfl (lv_at hl 0 rfl) ?_
  refine lv_iload_n S.1 S.2.1 d_MD_putBound_7 rfl (lv_at hl 1 rfl) ?_
  obtain ⟨⟨fs16, hefs16⟩, hf⟩ := b_is_inv hf
  obtain ⟨r13, N14, hg15, hf⟩ := b_call_inv hf
  refine x_call hI (hm_mo hg15) (va_runV (As := [.int p0]) (rest := []) S (c_MD_put l hg15) (cwV 1 S.2.2.2.2 (gi_V wd_755 wd_756 wd_757 wd_564 wd_758) rfl rfl rfl (by decide +kernel) ⟨Nat.le_trans (Nat.le_of_ble_eq_true rfl) hRf.1, Nat.le_trans (Nat.le_of_ble_eq_true rfl) hRf.2⟩) ⟨hm_B.blind, va_recv hK (hI.1.one hefs16) (ci := 1) (q0 := 0) rfl rfl, fun U hU hW => ⟨rfl, hm_B.of hK hG hI hU hW⟩⟩ rfl rfl hl.1 rfl (lv_room (Nat.le_of_ble_eq_true rfl)) d_MD_putBound_8 (hx_fit hI hR (hm_mo hg15) (hm_mo hf))) (fun H locs cells slots hI => ?_)
  refine W.eq (g2 := F0 m 11 ls []) rfl ?_
  refine lv_iload_n S.1 S.2.1 d_MD_putBound_11 rfl (lv_at hl 2 rfl) ?_
  refine lv_if_eq (tgt := 20) S.1 S.2.1 d_MD_putBound_12 (by decide) (fun hc => ?_) (fun hc => ?_)
  · have hf := b_if_t hc hf
    exact w20  _ _ _ _ _ _ hf hI (lv_sub hl [0, 3] rfl)
  · have hf := b_if_f hc hf
    refine lv_aload_n S.1 S.2.1 d_MD_putBound_15 rfl (lv_at hl 0 rfl) ?_
    refine lv_iload_n S.1 S.2.1 d_MD_putBound_16 rfl (lv_at hl 2 rfl) ?_
    obtain ⟨⟨fs20, hefs20⟩, hf⟩ := b_is_inv hf
    obtain ⟨r17, N18, hg19, hf⟩ := b_call_inv hf
    refine x_call hI (hm_mo hg19) (va_runV (As := [.int p1]) (rest := []) S (c_MD_put l hg19) (cwV 1 S.2.2.2.2 (gi_V wd_755 wd_756 wd_757 wd_564 wd_758) rfl rfl rfl (by decide +kernel) ⟨Nat.le_trans (Nat.le_of_ble_eq_true rfl) hRf.1, Nat.le_trans (Nat.le_of_ble_eq_true rfl) hRf.2⟩) ⟨hm_B.blind, va_recv hK (hI.1.one hefs20) (ci := 1) (q0 := 0) rfl rfl, fun U hU hW => ⟨rfl, hm_B.of hK hG hI hU hW⟩⟩ rfl rfl hl.1 rfl (lv_room (Nat.le_of_ble_eq_true rfl)) d_MD_putBound_17 (hx_fit hI hR (hm_mo hg19) (hm_mo hf))) (fun H locs cells slots hI => ?_)
    refine W.eq (g2 := F0 m 20 ls []) rfl ?_
    exact w20  _ _ _ _ _ _ hf hI (lv_sub hl [0, 3] rfl)
set_option maxHeartbeats 4000000 in
set_option maxRecDepth 100000 in
theorem c_MD_putRange (l : Launch) {D : va_G} {dA : Nat → ClassId} {aK aV : Nat → Nat} {z : Nat} {N : Nat} {h0 : Nat} {p0 : Int32} {M : hM} {Z : Unit × hM} (hf : (f_MD_putRange N h0 p0).1 M = some Z) : Met l y_MD_putRange w_MD_putRange ({ frames := 4, cells := Z.2.2.1 - M.2.1, slots := Z.2.2.2 - M.2.2, locals := 91 }) (va_Pc [.ref h0, .int p0] (hm_B D dA hCl (hTy dA) sT aK aV z M)) (hm_Q D dA hCl (hTy dA) sT aK aV z none Z.2) (Z.2.2.1 - M.2.1) (Z.2.2.2 - M.2.2) (fun q => z ≤ q) := by
  refine Met.ofW (cc := b_MD_putRange) (maxL := 2) (ret := none) (by decide) rfl ?_
  intro p e s m args below meth c s₁ B hml hv
  obtain ⟨hav, hB⟩ := hv
  have S : CallFix p m c b_MD_putRange 2 s args w_MD_putRange R_MD := ⟨B.exec, B.bytes, hml, findClass_of_methodNamed B.named, atoms_spec (ws := w_MD_putRange) B.pre⟩
  have hr : meth.sig.returnType = none := B.returns
  have hlocks := B.notSynchronized
  have hK := hB.2.2.1
  have hG := hB.2.2.2.2.2
  have hI := hm_I.start hB
  rw [← hB.2.1]
  generalize M.2.2 = k1 at hI ⊢
  refine W.eq (g2 := F0 m 0 ((lg_sl ([.ref h0, .int p0]) ++ List.replicate (2 - (lg_sl ([.ref h0, .int p0])).length) Slot.unset).toArray) []) (by rw [hav]; exact lg_entry_eq m ([.ref h0, .int p0]) 2) ?_
  have hl := lv_entry ([.ref h0, .int p0]) (n := 2) (Nat.le_of_ble_eq_true rfl)
  generalize (lg_sl ([.ref h0, .int p0]) ++ List.replicate (2 - (lg_sl ([.ref h0, .int p0])).length) Slot.unset).toArray = ls at hl ⊢
  simp only [lvA_nil, lvA_i, lvA_l, lvA_a, lvA_r, Nat.zero_add, Nat.reduceAdd] at hl
  have hret : ∀ (M : hM) (H : Heap) (locs : List Loc) (cells slots : Nat) (ls : Array Slot) (pc : Nat), decode b_MD_putRange pc = .ok (.return_, 1) → (b_ret ()).1 M = some Z → hm_I D dA hCl z k1 s M H locs cells slots → W p l e (headSpec w_MD_putRange { frames := 4, cells := Z.2.2.1 - s.heap.size, slots := Z.2.2.2 - k1, locals := 91 }).room s m args below meth c H locs cells slots (MQ below (hm_Q D dA hCl (hTy dA) sT aK aV z none Z.2) args s (Z.2.2.1 - s.heap.size) (Z.2.2.2 - k1) (fun q => z ≤ q)) (F0 m pc ls []) := fun M H locs cells slots ls pc hdg hf hI => x_retv S hK hG hI hr hlocks hdg hf
  have hR : Z.2.2.1 - s.heap.size ≤ (headSpec w_MD_putRange { frames := 4, cells := Z.2.2.1 - s.heap.size, slots := Z.2.2.2 - k1, locals := 91 }).room.cells ∧ Z.2.2.2 - k1 ≤ (headSpec w_MD_putRange { frames := 4, cells := Z.2.2.1 - s.heap.size, slots := Z.2.2.2 - k1, locals := 91 }).room.slots := ⟨Nat.le_refl _, Nat.le_refl _⟩
  have hRf : 4 ≤ (headSpec w_MD_putRange { frames := 4, cells := Z.2.2.1 - s.heap.size, slots := Z.2.2.2 - k1, locals := 91 }).room.frames ∧ 91 ≤ (headSpec w_MD_putRange { frames := 4, cells := Z.2.2.1 - s.heap.size, slots := Z.2.2.2 - k1, locals := 91 }).room.locals := ⟨Nat.le_refl _, Nat.le_refl _⟩
  generalize (headSpec w_MD_putRange { frames := 4, cells := Z.2.2.1 - s.heap.size, slots := Z.2.2.2 - k1, locals := 91 }).room = R at hret hR hRf ⊢
  generalize (MQ below (hm_Q D dA hCl (hTy dA) sT aK aV z none Z.2) args s (Z.2.2.1 - s.heap.size) (Z.2.2.2 - k1) (fun q => z ≤ q)) = Q at hret ⊢
  rw [e_MD_putRange] at hf
  obtain ⟨J39, eJ39, hf⟩ := b_let_inv hf
  have w39 : ∀  (M : hM) (H : Heap) (locs : List Loc) (ls : Array Slot) (cells slots : Nat), (J39).1 M = some Z → hm_I D dA hCl z k1 s M H locs cells slots → lv_has ls 2 [(0, .ref h0), (1, .int p0)] → W p l e R s m args below meth c H locs cells slots Q (F0 m 39 ls []) := by
    intro M H locs ls cells slots hf hI hl
    rw [eJ39] at hf
    obtain ⟨J98, eJ98, hf⟩ := b_let_inv hf
    have w98 : ∀  (M : hM) (H : Heap) (locs : List Loc) (ls : Array Slot) (cells slots : Nat), (J98).1 M = some Z → hm_I D dA hCl z k1 s M H locs cells slots → lv_has ls 2 [(0, .ref h0), (1, .int p0)] → W p l e R s m args below meth c H locs cells slots Q (F0 m 98 ls []) := by
      intro M H locs ls cells slots hf hI hl
      rw [eJ98] at hf
      refine lv_aload_n S.1 S.2.1 d_MD_putRange_98 rfl (lv_at hl 0 rfl) ?_
      refine x_getR (ci := 1) (k := 26) S hK hI (fun w h => List.mem_cons_of_mem _ (i_MD w h)) rfl (by decide) (List.mem_cons_of_mem _ wd_547) rfl d_MD_putRange_99 hf (fun r1 hf => ?_)
      refine lv_iload_n S.1 S.2.1 d_MD_putRange_102 rfl (lv_at hl 1 rfl) ?_
      obtain ⟨a2, ea2, hg⟩ := b_nn_inv hf
      have hI0 := hI
      have hl0 := hl
      clear hf hI hl
      subst ea2
      have hf := hg
      have hI := hI0
      have hl := hl0
      clear hg hI0 hl0
      refine x_lald (t := 7) S hK hI rfl d_MD_putRange_103 hf (fun v3 hf => ?_)
      refine lv_ldc2 (v := 1000000000000000000) S.1 S.2.1 S.2.2.2.1 (S.2.2.2.2 _ (List.mem_cons_of_mem _ wd_612)) d_MD_putRange_104 ?_
      refine W.lcmp S.1 S.2.1 d_MD_putRange_107 ?_
      refine lv_if_eq (tgt := 124) S.1 S.2.1 d_MD_putRange_108 (by decide) (fun hc => ?_) (fun hc => ?_)
      · have hf := b_if_t hc hf
        exact hret _ _ _ _ _ _ _ d_MD_putRange_124 hf hI
      · have hf := b_if_f hc hf
        refine lv_aload_n S.1 S.2.1 d_MD_putRange_111 rfl (lv_at hl 0 rfl) ?_
        refine lv_bipush (v := 60) S.1 S.2.1 d_MD_putRange_112 (by decide) ?_
        refine lv_iconst (v := 0) S.1 S.2.1 d_MD_putRange_114 (by decide) ?_
        refine lv_aload_n S.1 S.2.1 d_MD_putRange_115 rfl (lv_at hl 0 rfl) ?_
        refine x_getR (ci := 1) (k := 26) S hK hI (fun w h => List.mem_cons_of_mem _ (i_MD w h)) rfl (by decide) (List.mem_cons_of_mem _ wd_547) rfl d_MD_putRange_116 hf (fun r4 hf => ?_)
        refine lv_iload_n S.1 S.2.1 d_MD_putRange_119 rfl (lv_at hl 1 rfl) ?_
        obtain ⟨a5, ea5, hg⟩ := b_nn_inv hf
        have hI0 := hI
        have hl0 := hl
        clear hf hI hl
        subst ea5
        have hf := hg
        have hI := hI0
        have hl := hl0
        clear hg hI0 hl0
        refine x_lald (t := 7) S hK hI rfl d_MD_putRange_120 hf (fun v6 hf => ?_)
        obtain ⟨⟨fs10, hefs10⟩, hf⟩ := b_is_inv hf
        obtain ⟨r7, N8, hg9, hf⟩ := b_call_inv hf
        refine x_call hI (hm_mo hg9) (va_runV (As := [.int 60, .int 0, .long v6]) (rest := []) S (c_MD_putBound l hg9) (cwV 3 S.2.2.2.2 (gi_V wd_769 wd_770 wd_771 wd_564 wd_772) rfl rfl rfl (by decide +kernel) ⟨Nat.le_trans (Nat.le_of_ble_eq_true rfl) hRf.1, Nat.le_trans (Nat.le_of_ble_eq_true rfl) hRf.2⟩) ⟨hm_B.blind, va_recv hK (hI.1.one hefs10) (ci := 1) (q0 := 0) rfl rfl, fun U hU hW => ⟨rfl, hm_B.of hK hG hI hU hW⟩⟩ rfl rfl hl.1 rfl (lv_room (Nat.le_of_ble_eq_true rfl)) d_MD_putRange_121 (hx_fit hI hR (hm_mo hg9) (hm_mo hf))) (fun H locs cells slots hI => ?_)
        refine W.eq (g2 := F0 m 124 ls []) rfl ?_
        exact hret _ _ _ _ _ _ _ d_MD_putRange_124 hf hI
    refine lv_aload_n S.1 S.2.1 d_MD_putRange_39 rfl (lv_at hl 0 rfl) ?_
    refine x_getR (ci := 1) (k := 26) S hK hI (fun w h => List.mem_cons_of_mem _ (i_MD w h)) rfl (by decide) (List.mem_cons_of_mem _ wd_547) rfl d_MD_putRange_40 hf (fun r11 hf => ?_)
    refine lv_iload_n S.1 S.2.1 d_MD_putRange_43 rfl (lv_at hl 1 rfl) ?_
    obtain ⟨a12, ea12, hg⟩ := b_nn_inv hf
    have hI0 := hI
    have hl0 := hl
    clear hf hI hl
    subst ea12
    have hf := hg
    have hI := hI0
    have hl := hl0
    clear hg hI0 hl0
    refine x_lald (t := 7) S hK hI rfl d_MD_putRange_44 hf (fun v13 hf => ?_)
    refine lv_aload_n S.1 S.2.1 d_MD_putRange_45 rfl (lv_at hl 0 rfl) ?_
    refine x_getR (ci := 1) (k := 25) S hK hI (fun w h => List.mem_cons_of_mem _ (i_MD w h)) rfl (by decide) (List.mem_cons_of_mem _ wd_546) rfl d_MD_putRange_46 hf (fun r14 hf => ?_)
    refine lv_iload_n S.1 S.2.1 d_MD_putRange_49 rfl (lv_at hl 1 rfl) ?_
    obtain ⟨a15, ea15, hg⟩ := b_nn_inv hf
    have hI0 := hI
    have hl0 := hl
    clear hf hI hl
    subst ea15
    have hf := hg
    have hI := hI0
    have hl := hl0
    clear hg hI0 hl0
    refine x_lald (t := 7) S hK hI rfl d_MD_putRange_50 hf (fun v16 hf => ?_)
    refine lv_lconst (v := 1) S.1 S.2.1 d_MD_putRange_51 (by decide) ?_
    refine lv_ladd S.1 S.2.1 d_MD_putRange_52 ?_
    refine W.lcmp S.1 S.2.1 d_MD_putRange_53 ?_
    refine lv_if_ne (tgt := 73) S.1 S.2.1 d_MD_putRange_54 (by decide) (fun hc => ?_) (fun hc => ?_)
    · have hf := b_if_f hc hf
      refine lv_aload_n S.1 S.2.1 d_MD_putRange_73 rfl (lv_at hl 0 rfl) ?_
      refine x_getR (ci := 1) (k := 25) S hK hI (fun w h => List.mem_cons_of_mem _ (i_MD w h)) rfl (by decide) (List.mem_cons_of_mem _ wd_546) rfl d_MD_putRange_74 hf (fun r17 hf => ?_)
      refine lv_iload_n S.1 S.2.1 d_MD_putRange_77 rfl (lv_at hl 1 rfl) ?_
      obtain ⟨a18, ea18, hg⟩ := b_nn_inv hf
      have hI0 := hI
      have hl0 := hl
      clear hf hI hl
      subst ea18
      have hf := hg
      have hI := hI0
      have hl := hl0
      clear hg hI0 hl0
      refine x_lald (t := 7) S hK hI rfl d_MD_putRange_78 hf (fun v19 hf => ?_)
      refine lv_lconst (v := 0) S.1 S.2.1 d_MD_putRange_79 (by decide) ?_
      refine W.lcmp S.1 S.2.1 d_MD_putRange_80 ?_
      refine lv_if_eq (tgt := 98) S.1 S.2.1 d_MD_putRange_81 (by decide) (fun hc => ?_) (fun hc => ?_)
      · have hf := b_if_t hc hf
        exact w98  _ _ _ _ _ _ hf hI (lv_sub hl [0, 1] rfl)
      · have hf := b_if_f hc hf
        refine lv_aload_n S.1 S.2.1 d_MD_putRange_84 rfl (lv_at hl 0 rfl) ?_
        refine lv_bipush (v := 62) S.1 S.2.1 d_MD_putRange_85 (by decide) ?_
        refine lv_bipush (v := 61) S.1 S.2.1 d_MD_putRange_87 (by decide) ?_
        refine lv_aload_n S.1 S.2.1 d_MD_putRange_89 rfl (lv_at hl 0 rfl) ?_
        refine x_getR (ci := 1) (k := 25) S hK hI (fun w h => List.mem_cons_of_mem _ (i_MD w h)) rfl (by decide) (List.mem_cons_of_mem _ wd_546) rfl d_MD_putRange_90 hf (fun r20 hf => ?_)
        refine lv_iload_n S.1 S.2.1 d_MD_putRange_93 rfl (lv_at hl 1 rfl) ?_
        obtain ⟨a21, ea21, hg⟩ := b_nn_inv hf
        have hI0 := hI
        have hl0 := hl
        clear hf hI hl
        subst ea21
        have hf := hg
        have hI := hI0
        have hl := hl0
        clear hg hI0 hl0
        refine x_lald (t := 7) S hK hI rfl d_MD_putRange_94 hf (fun v22 hf => ?_)
        obtain ⟨⟨fs26, hefs26⟩, hf⟩ := b_is_inv hf
        obtain ⟨r23, N24, hg25, hf⟩ := b_call_inv hf
        refine x_call hI (hm_mo hg25) (va_runV (As := [.int 62, .int 61, .long v22]) (rest := []) S (c_MD_putBound l hg25) (cwV 3 S.2.2.2.2 (gi_V wd_769 wd_770 wd_771 wd_564 wd_772) rfl rfl rfl (by decide +kernel) ⟨Nat.le_trans (Nat.le_of_ble_eq_true rfl) hRf.1, Nat.le_trans (Nat.le_of_ble_eq_true rfl) hRf.2⟩) ⟨hm_B.blind, va_recv hK (hI.1.one hefs26) (ci := 1) (q0 := 0) rfl rfl, fun U hU hW => ⟨rfl, hm_B.of hK hG hI hU hW⟩⟩ rfl rfl hl.1 rfl (lv_room (Nat.le_of_ble_eq_true rfl)) d_MD_putRange_95 (hx_fit hI hR (hm_mo hg25) (hm_mo hf))) (fun H locs cells slots hI => ?_)
        refine W.eq (g2 := F0 m 98 ls []) rfl ?_
        exact w98  _ _ _ _ _ _ hf hI (lv_sub hl [0, 1] rfl)
    · have hf := b_if_t hc hf
      refine lv_aload_n S.1 S.2.1 d_MD_putRange_57 rfl (lv_at hl 0 rfl) ?_
      refine lv_bipush (v := 61) S.1 S.2.1 d_MD_putRange_58 (by decide) ?_
      refine lv_iconst (v := 0) S.1 S.2.1 d_MD_putRange_60 (by decide) ?_
      refine lv_aload_n S.1 S.2.1 d_MD_putRange_61 rfl (lv_at hl 0 rfl) ?_
      refine x_getR (ci := 1) (k := 25) S hK hI (fun w h => List.mem_cons_of_mem _ (i_MD w h)) rfl (by decide) (List.mem_cons_of_mem _ wd_546) rfl d_MD_putRange_62 hf (fun r27 hf => ?_)
      refine lv_iload_n S.1 S.2.1 d_MD_putRange_65 rfl (lv_at hl 1 rfl) ?_
      obtain ⟨a28, ea28, hg⟩ := b_nn_inv hf
      have hI0 := hI
      have hl0 := hl
      clear hf hI hl
      subst ea28
      have hf := hg
      have hI := hI0
      have hl := hl0
      clear hg hI0 hl0
      refine x_lald (t := 7) S hK hI rfl d_MD_putRange_66 hf (fun v29 hf => ?_)
      obtain ⟨⟨fs33, hefs33⟩, hf⟩ := b_is_inv hf
      obtain ⟨r30, N31, hg32, hf⟩ := b_call_inv hf
      refine x_call hI (hm_mo hg32) (va_runV (As := [.int 61, .int 0, .long v29]) (rest := []) S (c_MD_putBound l hg32) (cwV 3 S.2.2.2.2 (gi_V wd_769 wd_770 wd_771 wd_564 wd_772) rfl rfl rfl (by decide +kernel) ⟨Nat.le_trans (Nat.le_of_ble_eq_true rfl) hRf.1, Nat.le_trans (Nat.le_of_ble_eq_true rfl) hRf.2⟩) ⟨hm_B.blind, va_recv hK (hI.1.one hefs33) (ci := 1) (q0 := 0) rfl rfl, fun U hU hW => ⟨rfl, hm_B.of hK hG hI hU hW⟩⟩ rfl rfl hl.1 rfl (lv_room (Nat.le_of_ble_eq_true rfl)) d_MD_putRange_67 (hx_fit hI hR (hm_mo hg32) (hm_mo hf))) (fun H locs cells slots hI => ?_)
      refine W.eq (g2 := F0 m 70 ls []) rfl ?_
      refine lv_goto (tgt := 124) S.1 S.2.1 d_MD_putRange_70 (by decide) ?_
      exact hret _ _ _ _ _ _ _ d_MD_putRange_124 hf hI
  refine lv_aload_n S.1 S.2.1 d_MD_putRange_0 rfl (lv_at hl 0 rfl) ?_
  refine x_getR (ci := 1) (k := 25) S hK hI (fun w h => List.mem_cons_of_mem _ (i_MD w h)) rfl (by decide) (List.mem_cons_of_mem _ wd_546) rfl d_MD_putRange_1 hf (fun r34 hf => ?_)
  refine lv_iload_n S.1 S.2.1 d_MD_putRange_4 rfl (lv_at hl 1 rfl) ?_
  obtain ⟨a35, ea35, hg⟩ := b_nn_inv hf
  have hI0 := hI
  have hl0 := hl
  clear hf hI hl
  subst ea35
  have hf := hg
  have hI := hI0
  have hl := hl0
  clear hg hI0 hl0
  refine x_lald (t := 7) S hK hI rfl d_MD_putRange_5 hf (fun v36 hf => ?_)
  refine lv_lconst (v := 0) S.1 S.2.1 d_MD_putRange_6 (by decide) ?_
  refine W.lcmp S.1 S.2.1 d_MD_putRange_7 ?_
  refine lv_if_ne (tgt := 39) S.1 S.2.1 d_MD_putRange_8 (by decide) (fun hc => ?_) (fun hc => ?_)
  · have hf := b_if_f hc hf
    exact w39  _ _ _ _ _ _ hf hI (lv_sub hl [0, 1] rfl)
  · have hf := b_if_t hc hf
    refine lv_aload_n S.1 S.2.1 d_MD_putRange_11 rfl (lv_at hl 0 rfl) ?_
    refine x_getR (ci := 1) (k := 26) S hK hI (fun w h => List.mem_cons_of_mem _ (i_MD w h)) rfl (by decide) (List.mem_cons_of_mem _ wd_547) rfl d_MD_putRange_12 hf (fun r37 hf => ?_)
    refine lv_iload_n S.1 S.2.1 d_MD_putRange_15 rfl (lv_at hl 1 rfl) ?_
    obtain ⟨a38, ea38, hg⟩ := b_nn_inv hf
    have hI0 := hI
    have hl0 := hl
    clear hf hI hl
    subst ea38
    have hf := hg
    have hI := hI0
    have hl := hl0
    clear hg hI0 hl0
    refine x_lald (t := 7) S hK hI rfl d_MD_putRange_16 hf (fun v39 hf => ?_)
    refine lv_ldc2 (v := 1000000000000000000) S.1 S.2.1 S.2.2.2.1 (S.2.2.2.2 _ (List.mem_cons_of_mem _ wd_612)) d_MD_putRange_17 ?_
    refine W.lcmp S.1 S.2.1 d_MD_putRange_20 ?_
    refine lv_if_ne (tgt := 39) S.1 S.2.1 d_MD_putRange_21 (by decide) (fun hc => ?_) (fun hc => ?_)
    · have hf := b_if_f hc hf
      exact w39  _ _ _ _ _ _ hf hI (lv_sub hl [0, 1] rfl)
    · have hf := b_if_t hc hf
      refine lv_aload_n S.1 S.2.1 d_MD_putRange_24 rfl (lv_at hl 0 rfl) ?_
      refine lv_bipush (v := 32) S.1 S.2.1 d_MD_putRange_25 (by decide) ?_
      obtain ⟨⟨fs43, hefs43⟩, hf⟩ := b_is_inv hf
      obtain ⟨r40, N41, hg42, hf⟩ := b_call_inv hf
      refine x_call hI (hm_mo hg42) (va_runV (As := [.int 32]) (rest := []) S (c_MD_put l hg42) (cwV 1 S.2.2.2.2 (gi_V wd_755 wd_756 wd_757 wd_564 wd_758) rfl rfl rfl (by decide +kernel) ⟨Nat.le_trans (Nat.le_of_ble_eq_true rfl) hRf.1, Nat.le_trans (Nat.le_of_ble_eq_true rfl) hRf.2⟩) ⟨hm_B.blind, va_recv hK (hI.1.one hefs43) (ci := 1) (q0 := 0) rfl rfl, fun U hU hW => ⟨rfl, hm_B.of hK hG hI hU hW⟩⟩ rfl rfl hl.1 rfl (lv_room (Nat.le_of_ble_eq_true rfl)) d_MD_putRange_27 (hx_fit hI hR (hm_mo hg42) (hm_mo hf))) (fun H locs cells slots hI => ?_)
      refine W.eq (g2 := F0 m 30 ls []) rfl ?_
      refine lv_aload_n S.1 S.2.1 d_MD_putRange_30 rfl (lv_at hl 0 rfl) ?_
      refine lv_bipush (v := 42) S.1 S.2.1 d_MD_putRange_31 (by decide) ?_
      obtain ⟨⟨fs47, hefs47⟩, hf⟩ := b_is_inv hf
      obtain ⟨r44, N45, hg46, hf⟩ := b_call_inv hf
      refine x_call hI (hm_mo hg46) (va_runV (As := [.int 42]) (rest := []) S (c_MD_put l hg46) (cwV 1 S.2.2.2.2 (gi_V wd_755 wd_756 wd_757 wd_564 wd_758) rfl rfl rfl (by decide +kernel) ⟨Nat.le_trans (Nat.le_of_ble_eq_true rfl) hRf.1, Nat.le_trans (Nat.le_of_ble_eq_true rfl) hRf.2⟩) ⟨hm_B.blind, va_recv hK (hI.1.one hefs47) (ci := 1) (q0 := 0) rfl rfl, fun U hU hW => ⟨rfl, hm_B.of hK hG hI hU hW⟩⟩ rfl rfl hl.1 rfl (lv_room (Nat.le_of_ble_eq_true rfl)) d_MD_putRange_33 (hx_fit hI hR (hm_mo hg46) (hm_mo hf))) (fun H locs cells slots hI => ?_)
      refine W.eq (g2 := F0 m 36 ls []) rfl ?_
      refine lv_goto (tgt := 124) S.1 S.2.1 d_MD_putRange_36 (by decide) ?_
      exact hret _ _ _ _ _ _ _ d_MD_putRange_124 hf hI
set_option maxHeartbeats 4000000 in
set_option maxRecDepth 100000 in
theorem c_MD_keyOf (l : Launch) {D : va_G} {dA : Nat → ClassId} {aK aV : Nat → Nat} {z : Nat} {N : Nat} {h0 : Nat} {p0 : Int32} {M : hM} {Z : Int64 × hM} (hf : (f_MD_keyOf N h0 p0).1 M = some Z) : Met l y_MD_keyOf w_MD_keyOf ({ frames := 0, cells := Z.2.2.1 - M.2.1, slots := Z.2.2.2 - M.2.2, locals := 0 }) (va_Pc [.ref h0, .int p0] (hm_B D dA hCl (hTy dA) sT aK aV z M)) (hm_Q D dA hCl (hTy dA) sT aK aV z (some (.long Z.1)) Z.2) (Z.2.2.1 - M.2.1) (Z.2.2.2 - M.2.2) (fun q => z ≤ q) := by
  refine Met.ofW (cc := b_MD_keyOf) (maxL := 3) (ret := (some .long)) (by decide) rfl ?_
  intro p e s m args below meth c s₁ B hml hv
  obtain ⟨hav, hB⟩ := hv
  have S : CallFix p m c b_MD_keyOf 3 s args w_MD_keyOf R_MD := ⟨B.exec, B.bytes, hml, findClass_of_methodNamed B.named, atoms_spec (ws := w_MD_keyOf) B.pre⟩
  have hr : meth.sig.returnType = (some .long) := B.returns
  have hlocks := B.notSynchronized
  have hK := hB.2.2.1
  have hG := hB.2.2.2.2.2
  have hI := hm_I.start hB
  rw [← hB.2.1]
  generalize M.2.2 = k1 at hI ⊢
  refine W.eq (g2 := F0 m 0 ((lg_sl ([.ref h0, .int p0]) ++ List.replicate (3 - (lg_sl ([.ref h0, .int p0])).length) Slot.unset).toArray) []) (by rw [hav]; exact lg_entry_eq m ([.ref h0, .int p0]) 3) ?_
  have hl := lv_entry ([.ref h0, .int p0]) (n := 3) (Nat.le_of_ble_eq_true rfl)
  generalize (lg_sl ([.ref h0, .int p0]) ++ List.replicate (3 - (lg_sl ([.ref h0, .int p0])).length) Slot.unset).toArray = ls at hl ⊢
  simp only [lvA_nil, lvA_i, lvA_l, lvA_a, lvA_r, Nat.zero_add, Nat.reduceAdd] at hl
  have hret : ∀ (v : Int64) (M : hM) (H : Heap) (locs : List Loc) (cells slots : Nat) (ls : Array Slot) (pc : Nat), decode b_MD_keyOf pc = .ok (.lreturn, 1) → (b_ret v).1 M = some Z → hm_I D dA hCl z k1 s M H locs cells slots → W p l e (headSpec w_MD_keyOf { frames := 0, cells := Z.2.2.1 - s.heap.size, slots := Z.2.2.2 - k1, locals := 0 }).room s m args below meth c H locs cells slots (MQ below (hm_Q D dA hCl (hTy dA) sT aK aV z (some (.long Z.1)) Z.2) args s (Z.2.2.1 - s.heap.size) (Z.2.2.2 - k1) (fun q => z ≤ q)) (F0 m pc ls [.long v]) := fun v M H locs cells slots ls pc hdg hf hI => x_retl S hK hG hI hr hlocks hdg hf
  have hR : Z.2.2.1 - s.heap.size ≤ (headSpec w_MD_keyOf { frames := 0, cells := Z.2.2.1 - s.heap.size, slots := Z.2.2.2 - k1, locals := 0 }).room.cells ∧ Z.2.2.2 - k1 ≤ (headSpec w_MD_keyOf { frames := 0, cells := Z.2.2.1 - s.heap.size, slots := Z.2.2.2 - k1, locals := 0 }).room.slots := ⟨Nat.le_refl _, Nat.le_refl _⟩
  have hRf : 0 ≤ (headSpec w_MD_keyOf { frames := 0, cells := Z.2.2.1 - s.heap.size, slots := Z.2.2.2 - k1, locals := 0 }).room.frames ∧ 0 ≤ (headSpec w_MD_keyOf { frames := 0, cells := Z.2.2.1 - s.heap.size, slots := Z.2.2.2 - k1, locals := 0 }).room.locals := ⟨Nat.le_refl _, Nat.le_refl _⟩
  generalize (headSpec w_MD_keyOf { frames := 0, cells := Z.2.2.1 - s.heap.size, slots := Z.2.2.2 - k1, locals := 0 }).room = R at hret hR hRf ⊢
  generalize (MQ below (hm_Q D dA hCl (hTy dA) sT aK aV z (some (.long Z.1)) Z.2) args s (Z.2.2.1 - s.heap.size) (Z.2.2.2 - k1) (fun q => z ≤ q)) = Q at hret ⊢
  rw [e_MD_keyOf] at hf
  have w2 : ∀ (n : Nat) (x2 : Int32) (M : hM) (H : Heap) (locs : List Loc) (ls : Array Slot) (cells slots : Nat), (f_MD_keyOf_2 N h0 p0  n x2).1 M = some Z → hm_I D dA hCl z k1 s M H locs cells slots → lv_has ls 3 [(0, .ref h0), (1, .int p0), (2, .int x2)] → W p l e R s m args below meth c H locs cells slots Q (F0 m 2 ls []) := by
    intro n
    induction n with
    | zero => intro x2 M H locs ls cells slots hf hI hl; cases hf
    | succ n2 ih2 =>
      intro x2 M H locs ls cells slots hf hI hl
      rw [e_MD_keyOf_2] at hf
      refine lv_iload_n S.1 S.2.1 d_MD_keyOf_2 rfl (lv_at hl 2 rfl) ?_
      refine lv_bipush (v := 12) S.1 S.2.1 d_MD_keyOf_3 (by decide) ?_
      refine lv_icmp_ge (tgt := 31) S.1 S.2.1 d_MD_keyOf_5 (by decide) (fun hc => ?_) (fun hc => ?_)
      · have hf := b_if_t hc hf
        refine lv_ldc2 (v := 1852138852) S.1 S.2.1 S.2.2.2.1 (S.2.2.2.2 _ (List.mem_cons_of_mem _ wd_517)) d_MD_keyOf_31 ?_
        exact hret _ _ _ _ _ _ _ _ d_MD_keyOf_34 hf hI
      · have hf := b_if_f hc hf
        refine lv_aload_n S.1 S.2.1 d_MD_keyOf_8 rfl (lv_at hl 0 rfl) ?_
        refine x_getR (ci := 1) (k := 10) S hK hI (fun w h => List.mem_cons_of_mem _ (i_MD w h)) rfl (by decide) (List.mem_cons_of_mem _ wd_530) rfl d_MD_keyOf_9 hf (fun r1 hf => ?_)
        refine lv_iload_n S.1 S.2.1 d_MD_keyOf_12 rfl (lv_at hl 2 rfl) ?_
        obtain ⟨a2, ea2, hg⟩ := b_nn_inv hf
        have hI0 := hI
        have hl0 := hl
        clear hf hI hl
        subst ea2
        have hf := hg
        have hI := hI0
        have hl := hl0
        clear hg hI0 hl0
        refine x_iald (t := 2) S hK hI rfl d_MD_keyOf_13 hf (fun v3 hf => ?_)
        refine lv_iload_n S.1 S.2.1 d_MD_keyOf_14 rfl (lv_at hl 1 rfl) ?_
        refine lv_icmp_ne (tgt := 25) S.1 S.2.1 d_MD_keyOf_15 (by decide) (fun hc => ?_) (fun hc => ?_)
        · have hf := b_if_f hc hf
          refine x_iinc (v := 1) (lv2 := [(0, .ref h0), (1, .int p0)]) S d_MD_keyOf_25 hl 2 rfl (by decide) (by decide) [0, 1] rfl ⟨⟨(by decide : (0 : Nat) ≠ 2), fun h => absurd (show (0 : Nat) + 1 = 2 from h) (by decide)⟩, ⟨⟨(by decide : (1 : Nat) ≠ 2), fun _ => rfl⟩, trivial⟩⟩ (fun ls hl => ?_)
          refine lv_goto (tgt := 2) S.1 S.2.1 d_MD_keyOf_28 (by decide) ?_
          exact ih2 (x2 + 1) _ _ _ _ _ _ hf hI (lv_sub hl [1, 2, 0] rfl)
        · have hf := b_if_t hc hf
          refine lv_aload_n S.1 S.2.1 d_MD_keyOf_18 rfl (lv_at hl 0 rfl) ?_
          refine x_getR (ci := 1) (k := 9) S hK hI (fun w h => List.mem_cons_of_mem _ (i_MD w h)) rfl (by decide) (List.mem_cons_of_mem _ wd_529) rfl d_MD_keyOf_19 hf (fun r4 hf => ?_)
          refine lv_iload_n S.1 S.2.1 d_MD_keyOf_22 rfl (lv_at hl 2 rfl) ?_
          obtain ⟨a5, ea5, hg⟩ := b_nn_inv hf
          have hI0 := hI
          have hl0 := hl
          clear hf hI hl
          subst ea5
          have hf := hg
          have hI := hI0
          have hl := hl0
          clear hg hI0 hl0
          refine x_lald (t := 7) S hK hI rfl d_MD_keyOf_23 hf (fun v6 hf => ?_)
          exact hret _ _ _ _ _ _ _ _ d_MD_keyOf_24 hf hI
  refine lv_iconst (v := 0) S.1 S.2.1 d_MD_keyOf_0 (by decide) ?_
  refine x_istore_n (lv2 := [(0, .ref h0), (1, .int p0)]) S d_MD_keyOf_1 rfl hl (by decide) [0, 1] rfl ⟨⟨(by decide : (0 : Nat) ≠ 2), fun h => absurd (show (0 : Nat) + 1 = 2 from h) (by decide)⟩, ⟨⟨(by decide : (1 : Nat) ≠ 2), fun _ => rfl⟩, trivial⟩⟩ (fun ls hl => ?_)
  exact w2 N 0 _ _ _ _ _ _ hf hI (lv_sub hl [1, 2, 0] rfl)
set_option maxHeartbeats 4000000 in
set_option maxRecDepth 100000 in
theorem c_MD_goesOn (l : Launch) {D : va_G} {dA : Nat → ClassId} {aK aV : Nat → Nat} {z : Nat} {N : Nat} {h0 : Nat} {p0 : Int32} {p1 : Int32} {M : hM} {Z : Int32 × hM} (hf : (f_MD_goesOn N h0 p0 p1).1 M = some Z) : Met l y_MD_goesOn w_MD_goesOn ({ frames := 3, cells := Z.2.2.1 - M.2.1, slots := Z.2.2.2 - M.2.2, locals := 75 }) (va_Pc [.ref h0, .int p0, .int p1] (hm_B D dA hCl (hTy dA) sT aK aV z M)) (hm_Q D dA hCl (hTy dA) sT aK aV z (some (.int Z.1)) Z.2) (Z.2.2.1 - M.2.1) (Z.2.2.2 - M.2.2) (fun q => z ≤ q) := by
  refine Met.ofW (cc := b_MD_goesOn) (maxL := 4) (ret := (some .boolean)) (by decide) rfl ?_
  intro p e s m args below meth c s₁ B hml hv
  obtain ⟨hav, hB⟩ := hv
  have S : CallFix p m c b_MD_goesOn 4 s args w_MD_goesOn R_MD := ⟨B.exec, B.bytes, hml, findClass_of_methodNamed B.named, atoms_spec (ws := w_MD_goesOn) B.pre⟩
  have hr : meth.sig.returnType = (some .boolean) := B.returns
  have hlocks := B.notSynchronized
  have hK := hB.2.2.1
  have hG := hB.2.2.2.2.2
  have hI := hm_I.start hB
  rw [← hB.2.1]
  generalize M.2.2 = k1 at hI ⊢
  refine W.eq (g2 := F0 m 0 ((lg_sl ([.ref h0, .int p0, .int p1]) ++ List.replicate (4 - (lg_sl ([.ref h0, .int p0, .int p1])).length) Slot.unset).toArray) []) (by rw [hav]; exact lg_entry_eq m ([.ref h0, .int p0, .int p1]) 4) ?_
  have hl := lv_entry ([.ref h0, .int p0, .int p1]) (n := 4) (Nat.le_of_ble_eq_true rfl)
  generalize (lg_sl ([.ref h0, .int p0, .int p1]) ++ List.replicate (4 - (lg_sl ([.ref h0, .int p0, .int p1])).length) Slot.unset).toArray = ls at hl ⊢
  simp only [lvA_nil, lvA_i, lvA_l, lvA_a, lvA_r, Nat.zero_add, Nat.reduceAdd] at hl
  have hret : ∀ (v : Int32) (M : hM) (H : Heap) (locs : List Loc) (cells slots : Nat) (ls : Array Slot) (pc : Nat), decode b_MD_goesOn pc = .ok (.ireturn, 1) → (b_retN .boolean v).1 M = some Z → hm_I D dA hCl z k1 s M H locs cells slots → W p l e (headSpec w_MD_goesOn { frames := 3, cells := Z.2.2.1 - s.heap.size, slots := Z.2.2.2 - k1, locals := 75 }).room s m args below meth c H locs cells slots (MQ below (hm_Q D dA hCl (hTy dA) sT aK aV z (some (.int Z.1)) Z.2) args s (Z.2.2.1 - s.heap.size) (Z.2.2.2 - k1) (fun q => z ≤ q)) (F0 m pc ls [.int v]) := fun v M H locs cells slots ls pc hdg hf hI => x_retn S hK hG hI hr hlocks hdg hf
  have hR : Z.2.2.1 - s.heap.size ≤ (headSpec w_MD_goesOn { frames := 3, cells := Z.2.2.1 - s.heap.size, slots := Z.2.2.2 - k1, locals := 75 }).room.cells ∧ Z.2.2.2 - k1 ≤ (headSpec w_MD_goesOn { frames := 3, cells := Z.2.2.1 - s.heap.size, slots := Z.2.2.2 - k1, locals := 75 }).room.slots := ⟨Nat.le_refl _, Nat.le_refl _⟩
  have hRf : 3 ≤ (headSpec w_MD_goesOn { frames := 3, cells := Z.2.2.1 - s.heap.size, slots := Z.2.2.2 - k1, locals := 75 }).room.frames ∧ 75 ≤ (headSpec w_MD_goesOn { frames := 3, cells := Z.2.2.1 - s.heap.size, slots := Z.2.2.2 - k1, locals := 75 }).room.locals := ⟨Nat.le_refl _, Nat.le_refl _⟩
  generalize (headSpec w_MD_goesOn { frames := 3, cells := Z.2.2.1 - s.heap.size, slots := Z.2.2.2 - k1, locals := 75 }).room = R at hret hR hRf ⊢
  generalize (MQ below (hm_Q D dA hCl (hTy dA) sT aK aV z (some (.int Z.1)) Z.2) args s (Z.2.2.1 - s.heap.size) (Z.2.2.2 - k1) (fun q => z ≤ q)) = Q at hret ⊢
  rw [e_MD_goesOn] at hf
  obtain ⟨J85, eJ85, hf⟩ := b_let_inv hf
  have w85 : ∀ (y0 : Int32) (M : hM) (H : Heap) (locs : List Loc) (ls : Array Slot) (cells slots : Nat), (J85 y0).1 M = some Z → hm_I D dA hCl z k1 s M H locs cells slots → lv_has ls 4 [] → W p l e R s m args below meth c H locs cells slots Q (F0 m 85 ls [.int y0]) := by
    intro y0 M H locs ls cells slots hf hI hl
    rw [eJ85] at hf
    exact hret _ _ _ _ _ _ _ _ d_MD_goesOn_85 hf hI
  obtain ⟨J134, eJ134, hf⟩ := b_let_inv hf
  have w134 : ∀ (y0 : Int32) (M : hM) (H : Heap) (locs : List Loc) (ls : Array Slot) (cells slots : Nat), (J134 y0).1 M = some Z → hm_I D dA hCl z k1 s M H locs cells slots → lv_has ls 4 [] → W p l e R s m args below meth c H locs cells slots Q (F0 m 134 ls [.int y0]) := by
    intro y0 M H locs ls cells slots hf hI hl
    rw [eJ134] at hf
    exact hret _ _ _ _ _ _ _ _ d_MD_goesOn_134 hf hI
  obtain ⟨J133, eJ133, hf⟩ := b_let_inv hf
  have w133 : ∀  (M : hM) (H : Heap) (locs : List Loc) (ls : Array Slot) (cells slots : Nat), (J133).1 M = some Z → hm_I D dA hCl z k1 s M H locs cells slots → lv_has ls 4 [] → W p l e R s m args below meth c H locs cells slots Q (F0 m 133 ls []) := by
    intro M H locs ls cells slots hf hI hl
    rw [eJ133] at hf
    refine lv_iconst (v := 0) S.1 S.2.1 d_MD_goesOn_133 (by decide) ?_
    exact w134 0 _ _ _ _ _ _ hf hI (lv_sub hl [] rfl)
  refine lv_iload_n S.1 S.2.1 d_MD_goesOn_0 rfl (lv_at hl 2 rfl) ?_
  refine lv_sipush (v := 200) S.1 S.2.1 d_MD_goesOn_1 (by decide) ?_
  refine lv_iload_n S.1 S.2.1 d_MD_goesOn_4 rfl (lv_at hl 1 rfl) ?_
  refine lv_imul S.1 S.2.1 d_MD_goesOn_5 ?_
  refine lv_icmp_eq (tgt := 26) S.1 S.2.1 d_MD_goesOn_6 (by decide) (fun hc => ?_) (fun hc => ?_)
  · have hf := b_if_t hc hf
    refine lv_iconst (v := 0) S.1 S.2.1 d_MD_goesOn_26 (by decide) ?_
    exact hret _ _ _ _ _ _ _ _ d_MD_goesOn_27 hf hI
  · have hf := b_if_f hc hf
    refine lv_aload_n S.1 S.2.1 d_MD_goesOn_9 rfl (lv_at hl 0 rfl) ?_
    refine x_getR (ci := 1) (k := 19) S hK hI (fun w h => List.mem_cons_of_mem _ (i_MD w h)) rfl (by decide) (List.mem_cons_of_mem _ wd_539) rfl d_MD_goesOn_10 hf (fun r1 hf => ?_)
    refine lv_iload_n S.1 S.2.1 d_MD_goesOn_13 rfl (lv_at hl 2 rfl) ?_
    refine lv_iconst (v := 1) S.1 S.2.1 d_MD_goesOn_14 (by decide) ?_
    refine lv_isub S.1 S.2.1 d_MD_goesOn_15 ?_
    obtain ⟨a2, ea2, hg⟩ := b_nn_inv hf
    have hI0 := hI
    have hl0 := hl
    clear hf hI hl
    subst ea2
    have hf := hg
    have hI := hI0
    have hl := hl0
    clear hg hI0 hl0
    refine x_bald (t := 6) S hK hI rfl d_MD_goesOn_16 hf (fun v3 hf => ?_)
    refine lv_aload_n S.1 S.2.1 d_MD_goesOn_17 rfl (lv_at hl 0 rfl) ?_
    refine x_getR (ci := 1) (k := 19) S hK hI (fun w h => List.mem_cons_of_mem _ (i_MD w h)) rfl (by decide) (List.mem_cons_of_mem _ wd_539) rfl d_MD_goesOn_18 hf (fun r4 hf => ?_)
    refine lv_iload_n S.1 S.2.1 d_MD_goesOn_21 rfl (lv_at hl 2 rfl) ?_
    obtain ⟨a5, ea5, hg⟩ := b_nn_inv hf
    have hI0 := hI
    have hl0 := hl
    clear hf hI hl
    subst ea5
    have hf := hg
    have hI := hI0
    have hl := hl0
    clear hg hI0 hl0
    refine x_bald (t := 6) S hK hI rfl d_MD_goesOn_22 hf (fun v6 hf => ?_)
    refine lv_icmp_eq (tgt := 28) S.1 S.2.1 d_MD_goesOn_23 (by decide) (fun hc => ?_) (fun hc => ?_)
    · have hf := b_if_t hc hf
      refine lv_aload_n S.1 S.2.1 d_MD_goesOn_28 rfl (lv_at hl 0 rfl) ?_
      refine x_getR (ci := 1) (k := 19) S hK hI (fun w h => List.mem_cons_of_mem _ (i_MD w h)) rfl (by decide) (List.mem_cons_of_mem _ wd_539) rfl d_MD_goesOn_29 hf (fun r7 hf => ?_)
      refine lv_iload_n S.1 S.2.1 d_MD_goesOn_32 rfl (lv_at hl 2 rfl) ?_
      obtain ⟨a8, ea8, hg⟩ := b_nn_inv hf
      have hI0 := hI
      have hl0 := hl
      clear hf hI hl
      subst ea8
      have hf := hg
      have hI := hI0
      have hl := hl0
      clear hg hI0 hl0
      refine x_bald (t := 6) S hK hI rfl d_MD_goesOn_33 hf (fun v9 hf => ?_)
      refine x_istore_n (lv2 := [(0, .ref h0), (1, .int p0), (2, .int p1)]) S d_MD_goesOn_34 rfl hl (by decide) [0, 1, 2] rfl ⟨⟨(by decide : (0 : Nat) ≠ 3), fun h => absurd (show (0 : Nat) + 1 = 3 from h) (by decide)⟩, ⟨⟨(by decide : (1 : Nat) ≠ 3), fun h => absurd (show (1 : Nat) + 1 = 3 from h) (by decide)⟩, ⟨⟨(by decide : (2 : Nat) ≠ 3), fun _ => rfl⟩, trivial⟩⟩⟩ (fun ls hl => ?_)
      refine lv_iload_n S.1 S.2.1 d_MD_goesOn_35 rfl (lv_at hl 0 rfl) ?_
      refine lv_bipush (v := 9) S.1 S.2.1 d_MD_goesOn_36 (by decide) ?_
      refine lv_icmp_ne (tgt := 86) S.1 S.2.1 d_MD_goesOn_38 (by decide) (fun hc => ?_) (fun hc => ?_)
      · have hf := b_if_f hc hf
        refine lv_iload_n S.1 S.2.1 d_MD_goesOn_86 rfl (lv_at hl 0 rfl) ?_
        refine lv_bipush (v := 8) S.1 S.2.1 d_MD_goesOn_87 (by decide) ?_
        refine lv_icmp_ne (tgt := 117) S.1 S.2.1 d_MD_goesOn_89 (by decide) (fun hc => ?_) (fun hc => ?_)
        · have hf := b_if_f hc hf
          refine lv_iload_n S.1 S.2.1 d_MD_goesOn_117 rfl (lv_at hl 0 rfl) ?_
          refine lv_bipush (v := 9) S.1 S.2.1 d_MD_goesOn_118 (by decide) ?_
          refine lv_icmp_le (tgt := 133) S.1 S.2.1 d_MD_goesOn_120 (by decide) (fun hc => ?_) (fun hc => ?_)
          · have hf := b_if_t hc hf
            exact w133  _ _ _ _ _ _ hf hI (lv_sub hl [] rfl)
          · have hf := b_if_f hc hf
            refine lv_iload_n S.1 S.2.1 d_MD_goesOn_123 rfl (lv_at hl 0 rfl) ?_
            refine lv_bipush (v := 14) S.1 S.2.1 d_MD_goesOn_124 (by decide) ?_
            refine lv_icmp_ge (tgt := 133) S.1 S.2.1 d_MD_goesOn_126 (by decide) (fun hc => ?_) (fun hc => ?_)
            · have hf := b_if_t hc hf
              exact w133  _ _ _ _ _ _ hf hI (lv_sub hl [] rfl)
            · have hf := b_if_f hc hf
              refine lv_iconst (v := 1) S.1 S.2.1 d_MD_goesOn_129 (by decide) ?_
              refine lv_goto (tgt := 134) S.1 S.2.1 d_MD_goesOn_130 (by decide) ?_
              exact w134 1 _ _ _ _ _ _ hf hI (lv_sub hl [] rfl)
        · have hf := b_if_t hc hf
          refine lv_aload_n S.1 S.2.1 d_MD_goesOn_92 rfl (lv_at hl 1 rfl) ?_
          refine x_getR (ci := 1) (k := 20) S hK hI (fun w h => List.mem_cons_of_mem _ (i_MD w h)) rfl (by decide) (List.mem_cons_of_mem _ wd_540) rfl d_MD_goesOn_93 hf (fun r10 hf => ?_)
          refine lv_iload_n S.1 S.2.1 d_MD_goesOn_96 rfl (lv_at hl 3 rfl) ?_
          obtain ⟨a11, ea11, hg⟩ := b_nn_inv hf
          have hI0 := hI
          have hl0 := hl
          clear hf hI hl
          subst ea11
          have hf := hg
          have hI := hI0
          have hl := hl0
          clear hg hI0 hl0
          refine x_iald (t := 2) S hK hI rfl d_MD_goesOn_97 hf (fun v12 hf => ?_)
          refine lv_aload_n S.1 S.2.1 d_MD_goesOn_98 rfl (lv_at hl 1 rfl) ?_
          refine x_getR (ci := 1) (k := 20) S hK hI (fun w h => List.mem_cons_of_mem _ (i_MD w h)) rfl (by decide) (List.mem_cons_of_mem _ wd_540) rfl d_MD_goesOn_99 hf (fun r13 hf => ?_)
          refine lv_iload_n S.1 S.2.1 d_MD_goesOn_102 rfl (lv_at hl 3 rfl) ?_
          refine lv_iconst (v := 1) S.1 S.2.1 d_MD_goesOn_103 (by decide) ?_
          refine lv_isub S.1 S.2.1 d_MD_goesOn_104 ?_
          obtain ⟨a14, ea14, hg⟩ := b_nn_inv hf
          have hI0 := hI
          have hl0 := hl
          clear hf hI hl
          subst ea14
          have hf := hg
          have hI := hI0
          have hl := hl0
          clear hg hI0 hl0
          refine x_iald (t := 2) S hK hI rfl d_MD_goesOn_105 hf (fun v15 hf => ?_)
          refine lv_icmp_ne (tgt := 113) S.1 S.2.1 d_MD_goesOn_106 (by decide) (fun hc => ?_) (fun hc => ?_)
          · have hf := b_if_f hc hf
            refine lv_iconst (v := 0) S.1 S.2.1 d_MD_goesOn_113 (by decide) ?_
            refine lv_goto (tgt := 134) S.1 S.2.1 d_MD_goesOn_114 (by decide) ?_
            exact w134 0 _ _ _ _ _ _ hf hI (lv_sub hl [] rfl)
          · have hf := b_if_t hc hf
            refine lv_iconst (v := 1) S.1 S.2.1 d_MD_goesOn_109 (by decide) ?_
            refine lv_goto (tgt := 134) S.1 S.2.1 d_MD_goesOn_110 (by decide) ?_
            exact w134 1 _ _ _ _ _ _ hf hI (lv_sub hl [] rfl)
      · have hf := b_if_t hc hf
        refine lv_aload_n S.1 S.2.1 d_MD_goesOn_41 rfl (lv_at hl 1 rfl) ?_
        refine lv_aload_n S.1 S.2.1 d_MD_goesOn_42 rfl (lv_at hl 1 rfl) ?_
        refine x_getR (ci := 1) (k := 24) S hK hI (fun w h => List.mem_cons_of_mem _ (i_MD w h)) rfl (by decide) (List.mem_cons_of_mem _ wd_545) rfl d_MD_goesOn_43 hf (fun r16 hf => ?_)
        refine lv_bipush (v := 20) S.1 S.2.1 d_MD_goesOn_46 (by decide) ?_
        refine lv_iload_n S.1 S.2.1 d_MD_goesOn_48 rfl (lv_at hl 3 rfl) ?_
        refine lv_imul S.1 S.2.1 d_MD_goesOn_49 ?_
        refine lv_aload_n S.1 S.2.1 d_MD_goesOn_50 rfl (lv_at hl 1 rfl) ?_
        refine x_getR (ci := 1) (k := 22) S hK hI (fun w h => List.mem_cons_of_mem _ (i_MD w h)) rfl (by decide) (List.mem_cons_of_mem _ wd_542) rfl d_MD_goesOn_51 hf (fun r17 hf => ?_)
        refine lv_iload_n S.1 S.2.1 d_MD_goesOn_54 rfl (lv_at hl 3 rfl) ?_
        obtain ⟨a18, ea18, hg⟩ := b_nn_inv hf
        have hI0 := hI
        have hl0 := hl
        clear hf hI hl
        subst ea18
        have hf := hg
        have hI := hI0
        have hl := hl0
        clear hg hI0 hl0
        refine x_iald (t := 2) S hK hI rfl d_MD_goesOn_55 hf (fun v19 hf => ?_)
        refine lv_aload_n S.1 S.2.1 d_MD_goesOn_56 rfl (lv_at hl 1 rfl) ?_
        refine x_getR (ci := 1) (k := 24) S hK hI (fun w h => List.mem_cons_of_mem _ (i_MD w h)) rfl (by decide) (List.mem_cons_of_mem _ wd_545) rfl d_MD_goesOn_57 hf (fun r20 hf => ?_)
        refine lv_bipush (v := 20) S.1 S.2.1 d_MD_goesOn_60 (by decide) ?_
        refine lv_iload_n S.1 S.2.1 d_MD_goesOn_62 rfl (lv_at hl 3 rfl) ?_
        refine lv_iconst (v := 1) S.1 S.2.1 d_MD_goesOn_63 (by decide) ?_
        refine lv_isub S.1 S.2.1 d_MD_goesOn_64 ?_
        refine lv_imul S.1 S.2.1 d_MD_goesOn_65 ?_
        refine lv_aload_n S.1 S.2.1 d_MD_goesOn_66 rfl (lv_at hl 1 rfl) ?_
        refine x_getR (ci := 1) (k := 22) S hK hI (fun w h => List.mem_cons_of_mem _ (i_MD w h)) rfl (by decide) (List.mem_cons_of_mem _ wd_542) rfl d_MD_goesOn_67 hf (fun r21 hf => ?_)
        refine lv_iload_n S.1 S.2.1 d_MD_goesOn_70 rfl (lv_at hl 3 rfl) ?_
        refine lv_iconst (v := 1) S.1 S.2.1 d_MD_goesOn_71 (by decide) ?_
        refine lv_isub S.1 S.2.1 d_MD_goesOn_72 ?_
        obtain ⟨a22, ea22, hg⟩ := b_nn_inv hf
        have hI0 := hI
        have hl0 := hl
        clear hf hI hl
        subst ea22
        have hf := hg
        have hI := hI0
        have hl := hl0
        clear hg hI0 hl0
        refine x_iald (t := 2) S hK hI rfl d_MD_goesOn_73 hf (fun v23 hf => ?_)
        obtain ⟨⟨fs27, hefs27⟩, hf⟩ := b_is_inv hf
        obtain ⟨v24, N25, hg26, hf⟩ := b_call_inv hf
        refine x_call hI (hm_mo hg26) (va_runV (As := [va_rf r16, .int (20 * p1), .int v19, va_rf r20, .int (20 * (p1 - 1)), .int v23]) (rest := []) S (c_MD_compare l hg26) (cwV 6 S.2.2.2.2 (gi_V wd_684 wd_685 wd_686 wd_564 wd_687) rfl rfl rfl (by decide +kernel) ⟨Nat.le_trans (Nat.le_of_ble_eq_true rfl) hRf.1, Nat.le_trans (Nat.le_of_ble_eq_true rfl) hRf.2⟩) ⟨hm_B.blind, va_recv hK (hI.1.one hefs27) (ci := 1) (q0 := 0) rfl rfl, fun U hU hW => ⟨rfl, hm_B.of hK hG hI hU hW⟩⟩ rfl rfl hl.1 rfl (lv_room (Nat.le_of_ble_eq_true rfl)) d_MD_goesOn_74 (hx_fit hI hR (hm_mo hg26) (hm_mo hf))) (fun H locs cells slots hI => ?_)
        refine W.eq (g2 := F0 m 77 ls [.int v24]) rfl ?_
        refine lv_if_ne (tgt := 84) S.1 S.2.1 d_MD_goesOn_77 (by decide) (fun hc => ?_) (fun hc => ?_)
        · have hf := b_if_f hc hf
          refine lv_iconst (v := 0) S.1 S.2.1 d_MD_goesOn_84 (by decide) ?_
          exact w85 0 _ _ _ _ _ _ hf hI (lv_sub hl [] rfl)
        · have hf := b_if_t hc hf
          refine lv_iconst (v := 1) S.1 S.2.1 d_MD_goesOn_80 (by decide) ?_
          refine lv_goto (tgt := 85) S.1 S.2.1 d_MD_goesOn_81 (by decide) ?_
          exact w85 1 _ _ _ _ _ _ hf hI (lv_sub hl [] rfl)
    · have hf := b_if_f hc hf
      refine lv_iconst (v := 0) S.1 S.2.1 d_MD_goesOn_26 (by decide) ?_
      exact hret _ _ _ _ _ _ _ _ d_MD_goesOn_27 hf hI
set_option maxHeartbeats 4000000 in
set_option maxRecDepth 100000 in
theorem c_MD_putBegin (l : Launch) {D : va_G} {dA : Nat → ClassId} {aK aV : Nat → Nat} {z : Nat} {N : Nat} {h0 : Nat} {p0 : Int32} {M : hM} {Z : Unit × hM} (hf : (f_MD_putBegin N h0 p0).1 M = some Z) : Met l y_MD_putBegin w_MD_putBegin ({ frames := 2, cells := Z.2.2.1 - M.2.1, slots := Z.2.2.2 - M.2.2, locals := 45 }) (va_Pc [.ref h0, .int p0] (hm_B D dA hCl (hTy dA) sT aK aV z M)) (hm_Q D dA hCl (hTy dA) sT aK aV z none Z.2) (Z.2.2.1 - M.2.1) (Z.2.2.2 - M.2.2) (fun q => z ≤ q) := by
  refine Met.ofW (cc := b_MD_putBegin) (maxL := 3) (ret := none) (by decide) rfl ?_
  intro p e s m args below meth c s₁ B hml hv
  obtain ⟨hav, hB⟩ := hv
  have S : CallFix p m c b_MD_putBegin 3 s args w_MD_putBegin R_MD := ⟨B.exec, B.bytes, hml, findClass_of_methodNamed B.named, atoms_spec (ws := w_MD_putBegin) B.pre⟩
  have hr : meth.sig.returnType = none := B.returns
  have hlocks := B.notSynchronized
  have hK := hB.2.2.1
  have hG := hB.2.2.2.2.2
  have hI := hm_I.start hB
  rw [← hB.2.1]
  generalize M.2.2 = k1 at hI ⊢
  refine W.eq (g2 := F0 m 0 ((lg_sl ([.ref h0, .int p0]) ++ List.replicate (3 - (lg_sl ([.ref h0, .int p0])).length) Slot.unset).toArray) []) (by rw [hav]; exact lg_entry_eq m ([.ref h0, .int p0]) 3) ?_
  have hl := lv_entry ([.ref h0, .int p0]) (n := 3) (Nat.le_of_ble_eq_true rfl)
  generalize (lg_sl ([.ref h0, .int p0]) ++ List.replicate (3 - (lg_sl ([.ref h0, .int p0])).length) Slot.unset).toArray = ls at hl ⊢
  simp only [lvA_nil, lvA_i, lvA_l, lvA_a, lvA_r, Nat.zero_add, Nat.reduceAdd] at hl
  have hret : ∀ (M : hM) (H : Heap) (locs : List Loc) (cells slots : Nat) (ls : Array Slot) (pc : Nat), decode b_MD_putBegin pc = .ok (.return_, 1) → (b_ret ()).1 M = some Z → hm_I D dA hCl z k1 s M H locs cells slots → W p l e (headSpec w_MD_putBegin { frames := 2, cells := Z.2.2.1 - s.heap.size, slots := Z.2.2.2 - k1, locals := 45 }).room s m args below meth c H locs cells slots (MQ below (hm_Q D dA hCl (hTy dA) sT aK aV z none Z.2) args s (Z.2.2.1 - s.heap.size) (Z.2.2.2 - k1) (fun q => z ≤ q)) (F0 m pc ls []) := fun M H locs cells slots ls pc hdg hf hI => x_retv S hK hG hI hr hlocks hdg hf
  have hR : Z.2.2.1 - s.heap.size ≤ (headSpec w_MD_putBegin { frames := 2, cells := Z.2.2.1 - s.heap.size, slots := Z.2.2.2 - k1, locals := 45 }).room.cells ∧ Z.2.2.2 - k1 ≤ (headSpec w_MD_putBegin { frames := 2, cells := Z.2.2.1 - s.heap.size, slots := Z.2.2.2 - k1, locals := 45 }).room.slots := ⟨Nat.le_refl _, Nat.le_refl _⟩
  have hRf : 2 ≤ (headSpec w_MD_putBegin { frames := 2, cells := Z.2.2.1 - s.heap.size, slots := Z.2.2.2 - k1, locals := 45 }).room.frames ∧ 45 ≤ (headSpec w_MD_putBegin { frames := 2, cells := Z.2.2.1 - s.heap.size, slots := Z.2.2.2 - k1, locals := 45 }).room.locals := ⟨Nat.le_refl _, Nat.le_refl _⟩
  generalize (headSpec w_MD_putBegin { frames := 2, cells := Z.2.2.1 - s.heap.size, slots := Z.2.2.2 - k1, locals := 45 }).room = R at hret hR hRf ⊢
  generalize (MQ below (hm_Q D dA hCl (hTy dA) sT aK aV z none Z.2) args s (Z.2.2.1 - s.heap.size) (Z.2.2.2 - k1) (fun q => z ≤ q)) = Q at hret ⊢
  rw [e_MD_putBegin] at hf
  obtain ⟨J19, eJ19, hf⟩ := b_let_inv hf
  have w19 : ∀ (x2 : Int32) (y0 : Int32) (y1 : Option Nat) (y2 : Option Nat) (M : hM) (H : Heap) (locs : List Loc) (ls : Array Slot) (cells slots : Nat), (J19 x2 y0 y1 y2).1 M = some Z → hm_I D dA hCl z k1 s M H locs cells slots → lv_has ls 3 [(0, .ref h0), (1, .int p0), (2, .int x2)] → W p l e R s m args below meth c H locs cells slots Q (F0 m 19 ls [.int y0, va_rf y1, va_rf y2]) := by
    intro x2 y0 y1 y2 M H locs ls cells slots hf hI hl
    rw [eJ19] at hf
    obtain ⟨J40, eJ40, hf⟩ := b_let_inv hf
    have w40 : ∀ (x2 : Int32) (M : hM) (H : Heap) (locs : List Loc) (ls : Array Slot) (cells slots : Nat), (J40 x2).1 M = some Z → hm_I D dA hCl z k1 s M H locs cells slots → lv_has ls 3 [(0, .ref h0), (1, .int p0), (2, .int x2)] → W p l e R s m args below meth c H locs cells slots Q (F0 m 40 ls []) := by
      intro x2 M H locs ls cells slots hf hI hl
      rw [eJ40] at hf
      refine lv_iload_n S.1 S.2.1 d_MD_putBegin_40 rfl (lv_at hl 2 rfl) ?_
      refine lv_bipush (v := 9) S.1 S.2.1 d_MD_putBegin_41 (by decide) ?_
      refine lv_icmp_ne (tgt := 76) S.1 S.2.1 d_MD_putBegin_43 (by decide) (fun hc => ?_) (fun hc => ?_)
      · have hf := b_if_f hc hf
        exact hret _ _ _ _ _ _ _ d_MD_putBegin_76 hf hI
      · have hf := b_if_t hc hf
        refine lv_aload_n S.1 S.2.1 d_MD_putBegin_46 rfl (lv_at hl 0 rfl) ?_
        refine lv_bipush (v := 32) S.1 S.2.1 d_MD_putBegin_47 (by decide) ?_
        obtain ⟨⟨fs4, hefs4⟩, hf⟩ := b_is_inv hf
        obtain ⟨r1, N2, hg3, hf⟩ := b_call_inv hf
        refine x_call hI (hm_mo hg3) (va_runV (As := [.int 32]) (rest := []) S (c_MD_put l hg3) (cwV 1 S.2.2.2.2 (gi_V wd_755 wd_756 wd_757 wd_564 wd_758) rfl rfl rfl (by decide +kernel) ⟨Nat.le_trans (Nat.le_of_ble_eq_true rfl) hRf.1, Nat.le_trans (Nat.le_of_ble_eq_true rfl) hRf.2⟩) ⟨hm_B.blind, va_recv hK (hI.1.one hefs4) (ci := 1) (q0 := 0) rfl rfl, fun U hU hW => ⟨rfl, hm_B.of hK hG hI hU hW⟩⟩ rfl rfl hl.1 rfl (lv_room (Nat.le_of_ble_eq_true rfl)) d_MD_putBegin_49 (hx_fit hI hR (hm_mo hg3) (hm_mo hf))) (fun H locs cells slots hI => ?_)
        refine W.eq (g2 := F0 m 52 ls []) rfl ?_
        refine lv_aload_n S.1 S.2.1 d_MD_putBegin_52 rfl (lv_at hl 0 rfl) ?_
        refine lv_aload_n S.1 S.2.1 d_MD_putBegin_53 rfl (lv_at hl 0 rfl) ?_
        refine x_getR (ci := 1) (k := 24) S hK hI (fun w h => List.mem_cons_of_mem _ (i_MD w h)) rfl (by decide) (List.mem_cons_of_mem _ wd_545) rfl d_MD_putBegin_54 hf (fun r5 hf => ?_)
        refine lv_bipush (v := 20) S.1 S.2.1 d_MD_putBegin_57 (by decide) ?_
        refine lv_iload_n S.1 S.2.1 d_MD_putBegin_59 rfl (lv_at hl 1 rfl) ?_
        refine lv_imul S.1 S.2.1 d_MD_putBegin_60 ?_
        refine lv_aload_n S.1 S.2.1 d_MD_putBegin_61 rfl (lv_at hl 0 rfl) ?_
        refine x_getR (ci := 1) (k := 22) S hK hI (fun w h => List.mem_cons_of_mem _ (i_MD w h)) rfl (by decide) (List.mem_cons_of_mem _ wd_542) rfl d_MD_putBegin_62 hf (fun r6 hf => ?_)
        refine lv_iload_n S.1 S.2.1 d_MD_putBegin_65 rfl (lv_at hl 1 rfl) ?_
        obtain ⟨a7, ea7, hg⟩ := b_nn_inv hf
        have hI0 := hI
        have hl0 := hl
        clear hf hI hl
        subst ea7
        have hf := hg
        have hI := hI0
        have hl := hl0
        clear hg hI0 hl0
        refine x_iald (t := 2) S hK hI rfl d_MD_putBegin_66 hf (fun v8 hf => ?_)
        obtain ⟨⟨fs12, hefs12⟩, hf⟩ := b_is_inv hf
        obtain ⟨r9, N10, hg11, hf⟩ := b_call_inv hf
        refine x_call hI (hm_mo hg11) (va_runV (As := [va_rf r5, .int (20 * p0), .int v8]) (rest := []) S (c_MD_putName l hg11) (cwV 3 S.2.2.2.2 (gi_V wd_773 wd_774 wd_775 wd_564 wd_776) rfl rfl rfl (by decide +kernel) ⟨Nat.le_trans (Nat.le_of_ble_eq_true rfl) hRf.1, Nat.le_trans (Nat.le_of_ble_eq_true rfl) hRf.2⟩) ⟨hm_B.blind, va_recv hK (hI.1.one hefs12) (ci := 1) (q0 := 0) rfl rfl, fun U hU hW => ⟨rfl, hm_B.of hK hG hI hU hW⟩⟩ rfl rfl hl.1 rfl (lv_room (Nat.le_of_ble_eq_true rfl)) d_MD_putBegin_67 (hx_fit hI hR (hm_mo hg11) (hm_mo hf))) (fun H locs cells slots hI => ?_)
        refine W.eq (g2 := F0 m 70 ls []) rfl ?_
        refine lv_aload_n S.1 S.2.1 d_MD_putBegin_70 rfl (lv_at hl 0 rfl) ?_
        refine lv_bipush (v := 58) S.1 S.2.1 d_MD_putBegin_71 (by decide) ?_
        obtain ⟨⟨fs16, hefs16⟩, hf⟩ := b_is_inv hf
        obtain ⟨r13, N14, hg15, hf⟩ := b_call_inv hf
        refine x_call hI (hm_mo hg15) (va_runV (As := [.int 58]) (rest := []) S (c_MD_put l hg15) (cwV 1 S.2.2.2.2 (gi_V wd_755 wd_756 wd_757 wd_564 wd_758) rfl rfl rfl (by decide +kernel) ⟨Nat.le_trans (Nat.le_of_ble_eq_true rfl) hRf.1, Nat.le_trans (Nat.le_of_ble_eq_true rfl) hRf.2⟩) ⟨hm_B.blind, va_recv hK (hI.1.one hefs16) (ci := 1) (q0 := 0) rfl rfl, fun U hU hW => ⟨rfl, hm_B.of hK hG hI hU hW⟩⟩ rfl rfl hl.1 rfl (lv_room (Nat.le_of_ble_eq_true rfl)) d_MD_putBegin_73 (hx_fit hI hR (hm_mo hg15) (hm_mo hf))) (fun H locs cells slots hI => ?_)
        refine W.eq (g2 := F0 m 76 ls []) rfl ?_
        exact hret _ _ _ _ _ _ _ d_MD_putBegin_76 hf hI
    obtain ⟨a17, ea17, hg⟩ := b_nn_inv hf
    have hI0 := hI
    have hl0 := hl
    clear hf hI hl
    subst ea17
    have hf := hg
    have hI := hI0
    have hl := hl0
    clear hg hI0 hl0
    obtain ⟨⟨fs21, hefs21⟩, hf⟩ := b_is_inv hf
    obtain ⟨v18, N19, hg20, hf⟩ := b_call_inv hf
    refine x_call hI (hm_mo hg20) (va_runV (As := [.int y0]) (rest := [va_rf y2]) S (c_MD_keyOf l hg20) (cwV 1 S.2.2.2.2 (gi_V wd_777 wd_778 wd_779 wd_564 wd_780) rfl rfl rfl (by decide +kernel) ⟨Nat.le_trans (Nat.le_of_ble_eq_true rfl) hRf.1, Nat.le_trans (Nat.le_of_ble_eq_true rfl) hRf.2⟩) ⟨hm_B.blind, va_recv hK (hI.1.one hefs21) (ci := 1) (q0 := 0) rfl rfl, fun U hU hW => ⟨rfl, hm_B.of hK hG hI hU hW⟩⟩ rfl rfl hl.1 rfl (lv_room (by simp only [List.map_cons, List.map_nil, List.sum_cons, List.sum_nil, rf_cat, cat_i, cat_l, cat_a, cat_n]; exact Nat.le_of_ble_eq_true rfl)) d_MD_putBegin_19 (hx_fit hI hR (hm_mo hg20) (hm_mo hf))) (fun H locs cells slots hI => ?_)
    refine W.eq (g2 := F0 m 22 ls [.long v18, va_rf y2]) rfl ?_
    obtain ⟨a22, ea22, hg⟩ := b_nn_inv hf
    have hI0 := hI
    have hl0 := hl
    clear hf hI hl
    subst ea22
    have hf := hg
    have hI := hI0
    have hl := hl0
    clear hg hI0 hl0
    obtain ⟨⟨fs26, hefs26⟩, hf⟩ := b_is_inv hf
    obtain ⟨r23, N24, hg25, hf⟩ := b_call_inv hf
    refine x_call hI (hm_mo hg25) (va_runV (As := [.long v18]) (rest := []) S (c_MD_putKey l hg25) (cwV 1 S.2.2.2.2 (gi_V wd_781 wd_782 wd_783 wd_564 wd_784) rfl rfl rfl (by decide +kernel) ⟨Nat.le_trans (Nat.le_of_ble_eq_true rfl) hRf.1, Nat.le_trans (Nat.le_of_ble_eq_true rfl) hRf.2⟩) ⟨hm_B.blind, va_recv hK (hI.1.one hefs26) (ci := 1) (q0 := 0) rfl rfl, fun U hU hW => ⟨rfl, hm_B.of hK hG hI hU hW⟩⟩ rfl rfl hl.1 rfl (lv_room (Nat.le_of_ble_eq_true rfl)) d_MD_putBegin_22 (hx_fit hI hR (hm_mo hg25) (hm_mo hf))) (fun H locs cells slots hI => ?_)
    refine W.eq (g2 := F0 m 25 ls []) rfl ?_
    refine lv_iload_n S.1 S.2.1 d_MD_putBegin_25 rfl (lv_at hl 2 rfl) ?_
    refine lv_iconst (v := 5) S.1 S.2.1 d_MD_putBegin_26 (by decide) ?_
    refine lv_icmp_ge (tgt := 40) S.1 S.2.1 d_MD_putBegin_27 (by decide) (fun hc => ?_) (fun hc => ?_)
    · have hf := b_if_t hc hf
      exact w40 x2 _ _ _ _ _ _ hf hI (lv_sub hl [0, 1, 2] rfl)
    · have hf := b_if_f hc hf
      refine lv_aload_n S.1 S.2.1 d_MD_putBegin_30 rfl (lv_at hl 0 rfl) ?_
      refine lv_aload_n S.1 S.2.1 d_MD_putBegin_31 rfl (lv_at hl 0 rfl) ?_
      refine x_getR (ci := 1) (k := 8) S hK hI (fun w h => List.mem_cons_of_mem _ (i_MD w h)) rfl (by decide) (List.mem_cons_of_mem _ wd_516) rfl d_MD_putBegin_32 hf (fun r27 hf => ?_)
      refine lv_iload_n S.1 S.2.1 d_MD_putBegin_35 rfl (lv_at hl 2 rfl) ?_
      obtain ⟨a28, ea28, hg⟩ := b_nn_inv hf
      have hI0 := hI
      have hl0 := hl
      clear hf hI hl
      subst ea28
      have hf := hg
      have hI := hI0
      have hl := hl0
      clear hg hI0 hl0
      refine x_lald (t := 7) S hK hI rfl d_MD_putBegin_36 hf (fun v29 hf => ?_)
      obtain ⟨⟨fs33, hefs33⟩, hf⟩ := b_is_inv hf
      obtain ⟨r30, N31, hg32, hf⟩ := b_call_inv hf
      refine x_call hI (hm_mo hg32) (va_runV (As := [.long v29]) (rest := []) S (c_MD_putKey l hg32) (cwV 1 S.2.2.2.2 (gi_V wd_781 wd_782 wd_783 wd_564 wd_784) rfl rfl rfl (by decide +kernel) ⟨Nat.le_trans (Nat.le_of_ble_eq_true rfl) hRf.1, Nat.le_trans (Nat.le_of_ble_eq_true rfl) hRf.2⟩) ⟨hm_B.blind, va_recv hK (hI.1.one hefs33) (ci := 1) (q0 := 0) rfl rfl, fun U hU hW => ⟨rfl, hm_B.of hK hG hI hU hW⟩⟩ rfl rfl hl.1 rfl (lv_room (Nat.le_of_ble_eq_true rfl)) d_MD_putBegin_37 (hx_fit hI hR (hm_mo hg32) (hm_mo hf))) (fun H locs cells slots hI => ?_)
      refine W.eq (g2 := F0 m 40 ls []) rfl ?_
      exact w40 x2 _ _ _ _ _ _ hf hI (lv_sub hl [0, 1, 2] rfl)
  refine lv_aload_n S.1 S.2.1 d_MD_putBegin_0 rfl (lv_at hl 0 rfl) ?_
  refine x_getR (ci := 1) (k := 19) S hK hI (fun w h => List.mem_cons_of_mem _ (i_MD w h)) rfl (by decide) (List.mem_cons_of_mem _ wd_539) rfl d_MD_putBegin_1 hf (fun r34 hf => ?_)
  refine lv_iload_n S.1 S.2.1 d_MD_putBegin_4 rfl (lv_at hl 1 rfl) ?_
  obtain ⟨a35, ea35, hg⟩ := b_nn_inv hf
  have hI0 := hI
  have hl0 := hl
  clear hf hI hl
  subst ea35
  have hf := hg
  have hI := hI0
  have hl := hl0
  clear hg hI0 hl0
  refine x_bald (t := 6) S hK hI rfl d_MD_putBegin_5 hf (fun v36 hf => ?_)
  refine x_istore_n (lv2 := [(0, .ref h0), (1, .int p0)]) S d_MD_putBegin_6 rfl hl (by decide) [0, 1] rfl ⟨⟨(by decide : (0 : Nat) ≠ 2), fun h => absurd (show (0 : Nat) + 1 = 2 from h) (by decide)⟩, ⟨⟨(by decide : (1 : Nat) ≠ 2), fun _ => rfl⟩, trivial⟩⟩ (fun ls hl => ?_)
  refine lv_aload_n S.1 S.2.1 d_MD_putBegin_7 rfl (lv_at hl 1 rfl) ?_
  refine lv_aload_n S.1 S.2.1 d_MD_putBegin_8 rfl (lv_at hl 1 rfl) ?_
  refine lv_iload_n S.1 S.2.1 d_MD_putBegin_9 rfl (lv_at hl 0 rfl) ?_
  refine lv_iconst (v := 5) S.1 S.2.1 d_MD_putBegin_10 (by decide) ?_
  refine lv_icmp_ge (tgt := 18) S.1 S.2.1 d_MD_putBegin_11 (by decide) (fun hc => ?_) (fun hc => ?_)
  · have hf := b_if_t hc hf
    refine lv_iload_n S.1 S.2.1 d_MD_putBegin_18 rfl (lv_at hl 0 rfl) ?_
    exact w19 v36 v36 (some h0) (some h0) _ _ _ _ _ _ hf hI (lv_sub hl [1, 2, 0] rfl)
  · have hf := b_if_f hc hf
    refine lv_iconst (v := 0) S.1 S.2.1 d_MD_putBegin_14 (by decide) ?_
    refine lv_goto (tgt := 19) S.1 S.2.1 d_MD_putBegin_15 (by decide) ?_
    exact w19 v36 0 (some h0) (some h0) _ _ _ _ _ _ hf hI (lv_sub hl [1, 2, 0] rfl)
set_option maxHeartbeats 4000000 in
set_option maxRecDepth 100000 in
theorem c_MD_putRow (l : Launch) {D : va_G} {dA : Nat → ClassId} {aK aV : Nat → Nat} {z : Nat} {N : Nat} {h0 : Nat} {p0 : Int32} {p1 : Int32} {M : hM} {Z : Unit × hM} (hf : (f_MD_putRow N h0 p0 p1).1 M = some Z) : Met l y_MD_putRow w_MD_putRow ({ frames := 5, cells := Z.2.2.1 - M.2.1, slots := Z.2.2.2 - M.2.2, locals := 112 }) (va_Pc [.ref h0, .int p0, .int p1] (hm_B D dA hCl (hTy dA) sT aK aV z M)) (hm_Q D dA hCl (hTy dA) sT aK aV z none Z.2) (Z.2.2.1 - M.2.1) (Z.2.2.2 - M.2.2) (fun q => z ≤ q) := by
  refine Met.ofW (cc := b_MD_putRow) (maxL := 4) (ret := none) (by decide) rfl ?_
  intro p e s m args below meth c s₁ B hml hv
  obtain ⟨hav, hB⟩ := hv
  have S : CallFix p m c b_MD_putRow 4 s args w_MD_putRow R_MD := ⟨B.exec, B.bytes, hml, findClass_of_methodNamed B.named, atoms_spec (ws := w_MD_putRow) B.pre⟩
  have hr : meth.sig.returnType = none := B.returns
  have hlocks := B.notSynchronized
  have hK := hB.2.2.1
  have hG := hB.2.2.2.2.2
  have hI := hm_I.start hB
  rw [← hB.2.1]
  generalize M.2.2 = k1 at hI ⊢
  refine W.eq (g2 := F0 m 0 ((lg_sl ([.ref h0, .int p0, .int p1]) ++ List.replicate (4 - (lg_sl ([.ref h0, .int p0, .int p1])).length) Slot.unset).toArray) []) (by rw [hav]; exact lg_entry_eq m ([.ref h0, .int p0, .int p1]) 4) ?_
  have hl := lv_entry ([.ref h0, .int p0, .int p1]) (n := 4) (Nat.le_of_ble_eq_true rfl)
  generalize (lg_sl ([.ref h0, .int p0, .int p1]) ++ List.replicate (4 - (lg_sl ([.ref h0, .int p0, .int p1])).length) Slot.unset).toArray = ls at hl ⊢
  simp only [lvA_nil, lvA_i, lvA_l, lvA_a, lvA_r, Nat.zero_add, Nat.reduceAdd] at hl
  have hret : ∀ (M : hM) (H : Heap) (locs : List Loc) (cells slots : Nat) (ls : Array Slot) (pc : Nat), decode b_MD_putRow pc = .ok (.return_, 1) → (b_ret ()).1 M = some Z → hm_I D dA hCl z k1 s M H locs cells slots → W p l e (headSpec w_MD_putRow { frames := 5, cells := Z.2.2.1 - s.heap.size, slots := Z.2.2.2 - k1, locals := 112 }).room s m args below meth c H locs cells slots (MQ below (hm_Q D dA hCl (hTy dA) sT aK aV z none Z.2) args s (Z.2.2.1 - s.heap.size) (Z.2.2.2 - k1) (fun q => z ≤ q)) (F0 m pc ls []) := fun M H locs cells slots ls pc hdg hf hI => x_retv S hK hG hI hr hlocks hdg hf
  have hR : Z.2.2.1 - s.heap.size ≤ (headSpec w_MD_putRow { frames := 5, cells := Z.2.2.1 - s.heap.size, slots := Z.2.2.2 - k1, locals := 112 }).room.cells ∧ Z.2.2.2 - k1 ≤ (headSpec w_MD_putRow { frames := 5, cells := Z.2.2.1 - s.heap.size, slots := Z.2.2.2 - k1, locals := 112 }).room.slots := ⟨Nat.le_refl _, Nat.le_refl _⟩
  have hRf : 5 ≤ (headSpec w_MD_putRow { frames := 5, cells := Z.2.2.1 - s.heap.size, slots := Z.2.2.2 - k1, locals := 112 }).room.frames ∧ 112 ≤ (headSpec w_MD_putRow { frames := 5, cells := Z.2.2.1 - s.heap.size, slots := Z.2.2.2 - k1, locals := 112 }).room.locals := ⟨Nat.le_refl _, Nat.le_refl _⟩
  generalize (headSpec w_MD_putRow { frames := 5, cells := Z.2.2.1 - s.heap.size, slots := Z.2.2.2 - k1, locals := 112 }).room = R at hret hR hRf ⊢
  generalize (MQ below (hm_Q D dA hCl (hTy dA) sT aK aV z none Z.2) args s (Z.2.2.1 - s.heap.size) (Z.2.2.2 - k1) (fun q => z ≤ q)) = Q at hret ⊢
  rw [e_MD_putRow] at hf
  obtain ⟨J68, eJ68, hf⟩ := b_let_inv hf
  have w68 : ∀ (x3 : Int32) (M : hM) (H : Heap) (locs : List Loc) (ls : Array Slot) (cells slots : Nat), (J68 x3).1 M = some Z → hm_I D dA hCl z k1 s M H locs cells slots → lv_has ls 4 [(0, .ref h0), (2, .int p1), (3, .int x3)] → W p l e R s m args below meth c H locs cells slots Q (F0 m 68 ls []) := by
    intro x3 M H locs ls cells slots hf hI hl
    rw [eJ68] at hf
    obtain ⟨J104, eJ104, hf⟩ := b_let_inv hf
    have w104 : ∀  (M : hM) (H : Heap) (locs : List Loc) (ls : Array Slot) (cells slots : Nat), (J104).1 M = some Z → hm_I D dA hCl z k1 s M H locs cells slots → lv_has ls 4 [(0, .ref h0), (2, .int p1)] → W p l e R s m args below meth c H locs cells slots Q (F0 m 104 ls []) := by
      intro M H locs ls cells slots hf hI hl
      rw [eJ104] at hf
      refine lv_aload_n S.1 S.2.1 d_MD_putRow_104 rfl (lv_at hl 0 rfl) ?_
      refine lv_iload_n S.1 S.2.1 d_MD_putRow_105 rfl (lv_at hl 1 rfl) ?_
      obtain ⟨⟨fs4, hefs4⟩, hf⟩ := b_is_inv hf
      obtain ⟨r1, N2, hg3, hf⟩ := b_call_inv hf
      refine x_call hI (hm_mo hg3) (va_runV (As := [.int p1]) (rest := []) S (c_MD_putRange l hg3) (cwV 1 S.2.2.2.2 (gi_V wd_785 wd_786 wd_787 wd_564 wd_788) rfl rfl rfl (by decide +kernel) ⟨Nat.le_trans (Nat.le_of_ble_eq_true rfl) hRf.1, Nat.le_trans (Nat.le_of_ble_eq_true rfl) hRf.2⟩) ⟨hm_B.blind, va_recv hK (hI.1.one hefs4) (ci := 1) (q0 := 0) rfl rfl, fun U hU hW => ⟨rfl, hm_B.of hK hG hI hU hW⟩⟩ rfl rfl hl.1 rfl (lv_room (Nat.le_of_ble_eq_true rfl)) d_MD_putRow_106 (hx_fit hI hR (hm_mo hg3) (hm_mo hf))) (fun H locs cells slots hI => ?_)
      refine W.eq (g2 := F0 m 109 ls []) rfl ?_
      refine lv_goto (tgt := 192) S.1 S.2.1 d_MD_putRow_109 (by decide) ?_
      exact hret _ _ _ _ _ _ _ d_MD_putRow_192 hf hI
    refine lv_aload_n S.1 S.2.1 d_MD_putRow_68 rfl (lv_at hl 0 rfl) ?_
    refine lv_bipush (v := 32) S.1 S.2.1 d_MD_putRow_69 (by decide) ?_
    obtain ⟨⟨fs8, hefs8⟩, hf⟩ := b_is_inv hf
    obtain ⟨r5, N6, hg7, hf⟩ := b_call_inv hf
    refine x_call hI (hm_mo hg7) (va_runV (As := [.int 32]) (rest := []) S (c_MD_put l hg7) (cwV 1 S.2.2.2.2 (gi_V wd_755 wd_756 wd_757 wd_564 wd_758) rfl rfl rfl (by decide +kernel) ⟨Nat.le_trans (Nat.le_of_ble_eq_true rfl) hRf.1, Nat.le_trans (Nat.le_of_ble_eq_true rfl) hRf.2⟩) ⟨hm_B.blind, va_recv hK (hI.1.one hefs8) (ci := 1) (q0 := 0) rfl rfl, fun U hU hW => ⟨rfl, hm_B.of hK hG hI hU hW⟩⟩ rfl rfl hl.1 rfl (lv_room (Nat.le_of_ble_eq_true rfl)) d_MD_putRow_71 (hx_fit hI hR (hm_mo hg7) (hm_mo hf))) (fun H locs cells slots hI => ?_)
    refine W.eq (g2 := F0 m 74 ls []) rfl ?_
    refine lv_aload_n S.1 S.2.1 d_MD_putRow_74 rfl (lv_at hl 0 rfl) ?_
    refine lv_aload_n S.1 S.2.1 d_MD_putRow_75 rfl (lv_at hl 0 rfl) ?_
    refine x_getR (ci := 1) (k := 23) S hK hI (fun w h => List.mem_cons_of_mem _ (i_MD w h)) rfl (by decide) (List.mem_cons_of_mem _ wd_544) rfl d_MD_putRow_76 hf (fun r9 hf => ?_)
    refine lv_bipush (v := 20) S.1 S.2.1 d_MD_putRow_79 (by decide) ?_
    refine lv_iload_n S.1 S.2.1 d_MD_putRow_81 rfl (lv_at hl 1 rfl) ?_
    refine lv_imul S.1 S.2.1 d_MD_putRow_82 ?_
    refine lv_aload_n S.1 S.2.1 d_MD_putRow_83 rfl (lv_at hl 0 rfl) ?_
    refine x_getR (ci := 1) (k := 21) S hK hI (fun w h => List.mem_cons_of_mem _ (i_MD w h)) rfl (by decide) (List.mem_cons_of_mem _ wd_541) rfl d_MD_putRow_84 hf (fun r10 hf => ?_)
    refine lv_iload_n S.1 S.2.1 d_MD_putRow_87 rfl (lv_at hl 1 rfl) ?_
    obtain ⟨a11, ea11, hg⟩ := b_nn_inv hf
    have hI0 := hI
    have hl0 := hl
    clear hf hI hl
    subst ea11
    have hf := hg
    have hI := hI0
    have hl := hl0
    clear hg hI0 hl0
    refine x_iald (t := 2) S hK hI rfl d_MD_putRow_88 hf (fun v12 hf => ?_)
    obtain ⟨⟨fs16, hefs16⟩, hf⟩ := b_is_inv hf
    obtain ⟨r13, N14, hg15, hf⟩ := b_call_inv hf
    refine x_call hI (hm_mo hg15) (va_runV (As := [va_rf r9, .int (20 * p1), .int v12]) (rest := []) S (c_MD_putName l hg15) (cwV 3 S.2.2.2.2 (gi_V wd_773 wd_774 wd_775 wd_564 wd_776) rfl rfl rfl (by decide +kernel) ⟨Nat.le_trans (Nat.le_of_ble_eq_true rfl) hRf.1, Nat.le_trans (Nat.le_of_ble_eq_true rfl) hRf.2⟩) ⟨hm_B.blind, va_recv hK (hI.1.one hefs16) (ci := 1) (q0 := 0) rfl rfl, fun U hU hW => ⟨rfl, hm_B.of hK hG hI hU hW⟩⟩ rfl rfl hl.1 rfl (lv_room (Nat.le_of_ble_eq_true rfl)) d_MD_putRow_89 (hx_fit hI hR (hm_mo hg15) (hm_mo hf))) (fun H locs cells slots hI => ?_)
    refine W.eq (g2 := F0 m 92 ls []) rfl ?_
    refine lv_iload_n S.1 S.2.1 d_MD_putRow_92 rfl (lv_at hl 2 rfl) ?_
    refine lv_bipush (v := 7) S.1 S.2.1 d_MD_putRow_93 (by decide) ?_
    refine lv_icmp_lt (tgt := 104) S.1 S.2.1 d_MD_putRow_95 (by decide) (fun hc => ?_) (fun hc => ?_)
    · have hf := b_if_t hc hf
      exact w104  _ _ _ _ _ _ hf hI (lv_sub hl [0, 1] rfl)
    · have hf := b_if_f hc hf
      refine lv_iload_n S.1 S.2.1 d_MD_putRow_98 rfl (lv_at hl 2 rfl) ?_
      refine lv_bipush (v := 8) S.1 S.2.1 d_MD_putRow_99 (by decide) ?_
      refine lv_icmp_ne (tgt := 112) S.1 S.2.1 d_MD_putRow_101 (by decide) (fun hc => ?_) (fun hc => ?_)
      · have hf := b_if_f hc hf
        refine lv_iload_n S.1 S.2.1 d_MD_putRow_112 rfl (lv_at hl 2 rfl) ?_
        refine lv_bipush (v := 7) S.1 S.2.1 d_MD_putRow_113 (by decide) ?_
        refine lv_icmp_ne (tgt := 137) S.1 S.2.1 d_MD_putRow_115 (by decide) (fun hc => ?_) (fun hc => ?_)
        · have hf := b_if_f hc hf
          refine lv_iload_n S.1 S.2.1 d_MD_putRow_137 rfl (lv_at hl 2 rfl) ?_
          refine lv_bipush (v := 14) S.1 S.2.1 d_MD_putRow_138 (by decide) ?_
          refine lv_icmp_ne (tgt := 170) S.1 S.2.1 d_MD_putRow_140 (by decide) (fun hc => ?_) (fun hc => ?_)
          · have hf := b_if_f hc hf
            refine lv_iload_n S.1 S.2.1 d_MD_putRow_170 rfl (lv_at hl 2 rfl) ?_
            refine lv_bipush (v := 15) S.1 S.2.1 d_MD_putRow_171 (by decide) ?_
            refine lv_icmp_ne (tgt := 192) S.1 S.2.1 d_MD_putRow_173 (by decide) (fun hc => ?_) (fun hc => ?_)
            · have hf := b_if_f hc hf
              exact hret _ _ _ _ _ _ _ d_MD_putRow_192 hf hI
            · have hf := b_if_t hc hf
              refine lv_aload_n S.1 S.2.1 d_MD_putRow_176 rfl (lv_at hl 0 rfl) ?_
              refine lv_bipush (v := 32) S.1 S.2.1 d_MD_putRow_177 (by decide) ?_
              obtain ⟨⟨fs20, hefs20⟩, hf⟩ := b_is_inv hf
              obtain ⟨r17, N18, hg19, hf⟩ := b_call_inv hf
              refine x_call hI (hm_mo hg19) (va_runV (As := [.int 32]) (rest := []) S (c_MD_put l hg19) (cwV 1 S.2.2.2.2 (gi_V wd_755 wd_756 wd_757 wd_564 wd_758) rfl rfl rfl (by decide +kernel) ⟨Nat.le_trans (Nat.le_of_ble_eq_true rfl) hRf.1, Nat.le_trans (Nat.le_of_ble_eq_true rfl) hRf.2⟩) ⟨hm_B.blind, va_recv hK (hI.1.one hefs20) (ci := 1) (q0 := 0) rfl rfl, fun U hU hW => ⟨rfl, hm_B.of hK hG hI hU hW⟩⟩ rfl rfl hl.1 rfl (lv_room (Nat.le_of_ble_eq_true rfl)) d_MD_putRow_179 (hx_fit hI hR (hm_mo hg19) (hm_mo hf))) (fun H locs cells slots hI => ?_)
              refine W.eq (g2 := F0 m 182 ls []) rfl ?_
              refine lv_aload_n S.1 S.2.1 d_MD_putRow_182 rfl (lv_at hl 0 rfl) ?_
              refine lv_aload_n S.1 S.2.1 d_MD_putRow_183 rfl (lv_at hl 0 rfl) ?_
              refine x_getR (ci := 1) (k := 25) S hK hI (fun w h => List.mem_cons_of_mem _ (i_MD w h)) rfl (by decide) (List.mem_cons_of_mem _ wd_546) rfl d_MD_putRow_184 hf (fun r21 hf => ?_)
              refine lv_iload_n S.1 S.2.1 d_MD_putRow_187 rfl (lv_at hl 1 rfl) ?_
              obtain ⟨a22, ea22, hg⟩ := b_nn_inv hf
              have hI0 := hI
              have hl0 := hl
              clear hf hI hl
              subst ea22
              have hf := hg
              have hI := hI0
              have hl := hl0
              clear hg hI0 hl0
              refine x_lald (t := 7) S hK hI rfl d_MD_putRow_188 hf (fun v23 hf => ?_)
              obtain ⟨⟨fs27, hefs27⟩, hf⟩ := b_is_inv hf
              obtain ⟨r24, N25, hg26, hf⟩ := b_call_inv hf
              refine x_call hI (hm_mo hg26) (va_runV (As := [.long v23]) (rest := []) S (c_MD_putNumber l hg26) (cwV 1 S.2.2.2.2 (gi_V wd_761 wd_762 wd_763 wd_564 wd_764) rfl rfl rfl (by decide +kernel) ⟨Nat.le_trans (Nat.le_of_ble_eq_true rfl) hRf.1, Nat.le_trans (Nat.le_of_ble_eq_true rfl) hRf.2⟩) ⟨hm_B.blind, va_recv hK (hI.1.one hefs27) (ci := 1) (q0 := 0) rfl rfl, fun U hU hW => ⟨rfl, hm_B.of hK hG hI hU hW⟩⟩ rfl rfl hl.1 rfl (lv_room (Nat.le_of_ble_eq_true rfl)) d_MD_putRow_189 (hx_fit hI hR (hm_mo hg26) (hm_mo hf))) (fun H locs cells slots hI => ?_)
              refine W.eq (g2 := F0 m 192 ls []) rfl ?_
              exact hret _ _ _ _ _ _ _ d_MD_putRow_192 hf hI
          · have hf := b_if_t hc hf
            refine lv_aload_n S.1 S.2.1 d_MD_putRow_143 rfl (lv_at hl 0 rfl) ?_
            refine lv_bipush (v := 32) S.1 S.2.1 d_MD_putRow_144 (by decide) ?_
            obtain ⟨⟨fs31, hefs31⟩, hf⟩ := b_is_inv hf
            obtain ⟨r28, N29, hg30, hf⟩ := b_call_inv hf
            refine x_call hI (hm_mo hg30) (va_runV (As := [.int 32]) (rest := []) S (c_MD_put l hg30) (cwV 1 S.2.2.2.2 (gi_V wd_755 wd_756 wd_757 wd_564 wd_758) rfl rfl rfl (by decide +kernel) ⟨Nat.le_trans (Nat.le_of_ble_eq_true rfl) hRf.1, Nat.le_trans (Nat.le_of_ble_eq_true rfl) hRf.2⟩) ⟨hm_B.blind, va_recv hK (hI.1.one hefs31) (ci := 1) (q0 := 0) rfl rfl, fun U hU hW => ⟨rfl, hm_B.of hK hG hI hU hW⟩⟩ rfl rfl hl.1 rfl (lv_room (Nat.le_of_ble_eq_true rfl)) d_MD_putRow_146 (hx_fit hI hR (hm_mo hg30) (hm_mo hf))) (fun H locs cells slots hI => ?_)
            refine W.eq (g2 := F0 m 149 ls []) rfl ?_
            refine lv_aload_n S.1 S.2.1 d_MD_putRow_149 rfl (lv_at hl 0 rfl) ?_
            refine lv_aload_n S.1 S.2.1 d_MD_putRow_150 rfl (lv_at hl 0 rfl) ?_
            refine x_getR (ci := 1) (k := 24) S hK hI (fun w h => List.mem_cons_of_mem _ (i_MD w h)) rfl (by decide) (List.mem_cons_of_mem _ wd_545) rfl d_MD_putRow_151 hf (fun r32 hf => ?_)
            refine lv_bipush (v := 20) S.1 S.2.1 d_MD_putRow_154 (by decide) ?_
            refine lv_iload_n S.1 S.2.1 d_MD_putRow_156 rfl (lv_at hl 1 rfl) ?_
            refine lv_imul S.1 S.2.1 d_MD_putRow_157 ?_
            refine lv_aload_n S.1 S.2.1 d_MD_putRow_158 rfl (lv_at hl 0 rfl) ?_
            refine x_getR (ci := 1) (k := 22) S hK hI (fun w h => List.mem_cons_of_mem _ (i_MD w h)) rfl (by decide) (List.mem_cons_of_mem _ wd_542) rfl d_MD_putRow_159 hf (fun r33 hf => ?_)
            refine lv_iload_n S.1 S.2.1 d_MD_putRow_162 rfl (lv_at hl 1 rfl) ?_
            obtain ⟨a34, ea34, hg⟩ := b_nn_inv hf
            have hI0 := hI
            have hl0 := hl
            clear hf hI hl
            subst ea34
            have hf := hg
            have hI := hI0
            have hl := hl0
            clear hg hI0 hl0
            refine x_iald (t := 2) S hK hI rfl d_MD_putRow_163 hf (fun v35 hf => ?_)
            obtain ⟨⟨fs39, hefs39⟩, hf⟩ := b_is_inv hf
            obtain ⟨r36, N37, hg38, hf⟩ := b_call_inv hf
            refine x_call hI (hm_mo hg38) (va_runV (As := [va_rf r32, .int (20 * p1), .int v35]) (rest := []) S (c_MD_putName l hg38) (cwV 3 S.2.2.2.2 (gi_V wd_773 wd_774 wd_775 wd_564 wd_776) rfl rfl rfl (by decide +kernel) ⟨Nat.le_trans (Nat.le_of_ble_eq_true rfl) hRf.1, Nat.le_trans (Nat.le_of_ble_eq_true rfl) hRf.2⟩) ⟨hm_B.blind, va_recv hK (hI.1.one hefs39) (ci := 1) (q0 := 0) rfl rfl, fun U hU hW => ⟨rfl, hm_B.of hK hG hI hU hW⟩⟩ rfl rfl hl.1 rfl (lv_room (Nat.le_of_ble_eq_true rfl)) d_MD_putRow_164 (hx_fit hI hR (hm_mo hg38) (hm_mo hf))) (fun H locs cells slots hI => ?_)
            refine W.eq (g2 := F0 m 167 ls []) rfl ?_
            refine lv_goto (tgt := 192) S.1 S.2.1 d_MD_putRow_167 (by decide) ?_
            exact hret _ _ _ _ _ _ _ d_MD_putRow_192 hf hI
        · have hf := b_if_t hc hf
          refine lv_aload_n S.1 S.2.1 d_MD_putRow_118 rfl (lv_at hl 0 rfl) ?_
          refine lv_bipush (v := 32) S.1 S.2.1 d_MD_putRow_119 (by decide) ?_
          obtain ⟨⟨fs43, hefs43⟩, hf⟩ := b_is_inv hf
          obtain ⟨r40, N41, hg42, hf⟩ := b_call_inv hf
          refine x_call hI (hm_mo hg42) (va_runV (As := [.int 32]) (rest := []) S (c_MD_put l hg42) (cwV 1 S.2.2.2.2 (gi_V wd_755 wd_756 wd_757 wd_564 wd_758) rfl rfl rfl (by decide +kernel) ⟨Nat.le_trans (Nat.le_of_ble_eq_true rfl) hRf.1, Nat.le_trans (Nat.le_of_ble_eq_true rfl) hRf.2⟩) ⟨hm_B.blind, va_recv hK (hI.1.one hefs43) (ci := 1) (q0 := 0) rfl rfl, fun U hU hW => ⟨rfl, hm_B.of hK hG hI hU hW⟩⟩ rfl rfl hl.1 rfl (lv_room (Nat.le_of_ble_eq_true rfl)) d_MD_putRow_121 (hx_fit hI hR (hm_mo hg42) (hm_mo hf))) (fun H locs cells slots hI => ?_)
          refine W.eq (g2 := F0 m 124 ls []) rfl ?_
          refine lv_aload_n S.1 S.2.1 d_MD_putRow_124 rfl (lv_at hl 0 rfl) ?_
          refine lv_aload_n S.1 S.2.1 d_MD_putRow_125 rfl (lv_at hl 0 rfl) ?_
          refine x_getR (ci := 1) (k := 25) S hK hI (fun w h => List.mem_cons_of_mem _ (i_MD w h)) rfl (by decide) (List.mem_cons_of_mem _ wd_546) rfl d_MD_putRow_126 hf (fun r44 hf => ?_)
          refine lv_iload_n S.1 S.2.1 d_MD_putRow_129 rfl (lv_at hl 1 rfl) ?_
          obtain ⟨a45, ea45, hg⟩ := b_nn_inv hf
          have hI0 := hI
          have hl0 := hl
          clear hf hI hl
          subst ea45
          have hf := hg
          have hI := hI0
          have hl := hl0
          clear hg hI0 hl0
          refine x_lald (t := 7) S hK hI rfl d_MD_putRow_130 hf (fun v46 hf => ?_)
          obtain ⟨⟨fs50, hefs50⟩, hf⟩ := b_is_inv hf
          obtain ⟨r47, N48, hg49, hf⟩ := b_call_inv hf
          refine x_call hI (hm_mo hg49) (va_runV (As := [.long v46]) (rest := []) S (c_MD_putVersion l hg49) (cwV 1 S.2.2.2.2 (gi_V wd_765 wd_766 wd_767 wd_564 wd_768) rfl rfl rfl (by decide +kernel) ⟨Nat.le_trans (Nat.le_of_ble_eq_true rfl) hRf.1, Nat.le_trans (Nat.le_of_ble_eq_true rfl) hRf.2⟩) ⟨hm_B.blind, va_recv hK (hI.1.one hefs50) (ci := 1) (q0 := 0) rfl rfl, fun U hU hW => ⟨rfl, hm_B.of hK hG hI hU hW⟩⟩ rfl rfl hl.1 rfl (lv_room (Nat.le_of_ble_eq_true rfl)) d_MD_putRow_131 (hx_fit hI hR (hm_mo hg49) (hm_mo hf))) (fun H locs cells slots hI => ?_)
          refine W.eq (g2 := F0 m 134 ls []) rfl ?_
          refine lv_goto (tgt := 192) S.1 S.2.1 d_MD_putRow_134 (by decide) ?_
          exact hret _ _ _ _ _ _ _ d_MD_putRow_192 hf hI
      · have hf := b_if_t hc hf
        exact w104  _ _ _ _ _ _ hf hI (lv_sub hl [0, 1] rfl)
  obtain ⟨J28, eJ28, hf⟩ := b_let_inv hf
  have w28 : ∀ (x3 : Int32) (M : hM) (H : Heap) (locs : List Loc) (ls : Array Slot) (cells slots : Nat), (J28 x3).1 M = some Z → hm_I D dA hCl z k1 s M H locs cells slots → lv_has ls 4 [(0, .ref h0), (2, .int p1), (3, .int x3)] → W p l e R s m args below meth c H locs cells slots Q (F0 m 28 ls []) := by
    intro x3 M H locs ls cells slots hf hI hl
    rw [eJ28] at hf
    obtain ⟨J42, eJ42, hf⟩ := b_let_inv hf
    have w42 : ∀ (x3 : Int32) (y0 : Int32) (y1 : Option Nat) (M : hM) (H : Heap) (locs : List Loc) (ls : Array Slot) (cells slots : Nat), (J42 x3 y0 y1).1 M = some Z → hm_I D dA hCl z k1 s M H locs cells slots → lv_has ls 4 [(0, .ref h0), (2, .int p1), (3, .int x3)] → W p l e R s m args below meth c H locs cells slots Q (F0 m 42 ls [.int y0, va_rf y1]) := by
      intro x3 y0 y1 M H locs ls cells slots hf hI hl
      rw [eJ42] at hf
      obtain ⟨a51, ea51, hg⟩ := b_nn_inv hf
      have hI0 := hI
      have hl0 := hl
      clear hf hI hl
      subst ea51
      have hf := hg
      have hI := hI0
      have hl := hl0
      clear hg hI0 hl0
      obtain ⟨⟨fs55, hefs55⟩, hf⟩ := b_is_inv hf
      obtain ⟨r52, N53, hg54, hf⟩ := b_call_inv hf
      refine x_call hI (hm_mo hg54) (va_runV (As := [.int y0]) (rest := []) S (c_MD_put l hg54) (cwV 1 S.2.2.2.2 (gi_V wd_755 wd_756 wd_757 wd_564 wd_758) rfl rfl rfl (by decide +kernel) ⟨Nat.le_trans (Nat.le_of_ble_eq_true rfl) hRf.1, Nat.le_trans (Nat.le_of_ble_eq_true rfl) hRf.2⟩) ⟨hm_B.blind, va_recv hK (hI.1.one hefs55) (ci := 1) (q0 := 0) rfl rfl, fun U hU hW => ⟨rfl, hm_B.of hK hG hI hU hW⟩⟩ rfl rfl hl.1 rfl (lv_room (Nat.le_of_ble_eq_true rfl)) d_MD_putRow_42 (hx_fit hI hR (hm_mo hg54) (hm_mo hf))) (fun H locs cells slots hI => ?_)
      refine W.eq (g2 := F0 m 45 ls []) rfl ?_
      refine lv_goto (tgt := 68) S.1 S.2.1 d_MD_putRow_45 (by decide) ?_
      exact w68 x3 _ _ _ _ _ _ hf hI (lv_sub hl [0, 1, 2] rfl)
    refine lv_aload_n S.1 S.2.1 d_MD_putRow_28 rfl (lv_at hl 0 rfl) ?_
    refine lv_iload_n S.1 S.2.1 d_MD_putRow_29 rfl (lv_at hl 2 rfl) ?_
    refine lv_bipush (v := 8) S.1 S.2.1 d_MD_putRow_30 (by decide) ?_
    refine lv_icmp_ne (tgt := 40) S.1 S.2.1 d_MD_putRow_32 (by decide) (fun hc => ?_) (fun hc => ?_)
    · have hf := b_if_f hc hf
      refine lv_bipush (v := 44) S.1 S.2.1 d_MD_putRow_40 (by decide) ?_
      exact w42 x3 44 (some h0) _ _ _ _ _ _ hf hI (lv_sub hl [0, 1, 2] rfl)
    · have hf := b_if_t hc hf
      refine lv_bipush (v := 124) S.1 S.2.1 d_MD_putRow_35 (by decide) ?_
      refine lv_goto (tgt := 42) S.1 S.2.1 d_MD_putRow_37 (by decide) ?_
      exact w42 x3 124 (some h0) _ _ _ _ _ _ hf hI (lv_sub hl [0, 1, 2] rfl)
  obtain ⟨J63, eJ63, hf⟩ := b_let_inv hf
  have w63 : ∀ (x3 : Int32) (M : hM) (H : Heap) (locs : List Loc) (ls : Array Slot) (cells slots : Nat), (J63 x3).1 M = some Z → hm_I D dA hCl z k1 s M H locs cells slots → lv_has ls 4 [(0, .ref h0), (2, .int p1), (3, .int x3)] → W p l e R s m args below meth c H locs cells slots Q (F0 m 63 ls []) := by
    intro x3 M H locs ls cells slots hf hI hl
    rw [eJ63] at hf
    refine lv_aload_n S.1 S.2.1 d_MD_putRow_63 rfl (lv_at hl 0 rfl) ?_
    refine lv_iload_n S.1 S.2.1 d_MD_putRow_64 rfl (lv_at hl 1 rfl) ?_
    obtain ⟨⟨fs59, hefs59⟩, hf⟩ := b_is_inv hf
    obtain ⟨r56, N57, hg58, hf⟩ := b_call_inv hf
    refine x_call hI (hm_mo hg58) (va_runV (As := [.int p1]) (rest := []) S (c_MD_putBegin l hg58) (cwV 1 S.2.2.2.2 (gi_V wd_789 wd_790 wd_791 wd_564 wd_792) rfl rfl rfl (by decide +kernel) ⟨Nat.le_trans (Nat.le_of_ble_eq_true rfl) hRf.1, Nat.le_trans (Nat.le_of_ble_eq_true rfl) hRf.2⟩) ⟨hm_B.blind, va_recv hK (hI.1.one hefs59) (ci := 1) (q0 := 0) rfl rfl, fun U hU hW => ⟨rfl, hm_B.of hK hG hI hU hW⟩⟩ rfl rfl hl.1 rfl (lv_room (Nat.le_of_ble_eq_true rfl)) d_MD_putRow_65 (hx_fit hI hR (hm_mo hg58) (hm_mo hf))) (fun H locs cells slots hI => ?_)
    refine W.eq (g2 := F0 m 68 ls []) rfl ?_
    exact w68 x3 _ _ _ _ _ _ hf hI (lv_sub hl [0, 1, 2] rfl)
  refine lv_aload_n S.1 S.2.1 d_MD_putRow_0 rfl (lv_at hl 0 rfl) ?_
  refine x_getR (ci := 1) (k := 19) S hK hI (fun w h => List.mem_cons_of_mem _ (i_MD w h)) rfl (by decide) (List.mem_cons_of_mem _ wd_539) rfl d_MD_putRow_1 hf (fun r60 hf => ?_)
  refine lv_iload_n S.1 S.2.1 d_MD_putRow_4 rfl (lv_at hl 2 rfl) ?_
  obtain ⟨a61, ea61, hg⟩ := b_nn_inv hf
  have hI0 := hI
  have hl0 := hl
  clear hf hI hl
  subst ea61
  have hf := hg
  have hI := hI0
  have hl := hl0
  clear hg hI0 hl0
  refine x_bald (t := 6) S hK hI rfl d_MD_putRow_5 hf (fun v62 hf => ?_)
  refine x_istore_n (lv2 := [(0, .ref h0), (1, .int p0), (2, .int p1)]) S d_MD_putRow_6 rfl hl (by decide) [0, 1, 2] rfl ⟨⟨(by decide : (0 : Nat) ≠ 3), fun h => absurd (show (0 : Nat) + 1 = 3 from h) (by decide)⟩, ⟨⟨(by decide : (1 : Nat) ≠ 3), fun h => absurd (show (1 : Nat) + 1 = 3 from h) (by decide)⟩, ⟨⟨(by decide : (2 : Nat) ≠ 3), fun _ => rfl⟩, trivial⟩⟩⟩ (fun ls hl => ?_)
  refine lv_aload_n S.1 S.2.1 d_MD_putRow_7 rfl (lv_at hl 1 rfl) ?_
  refine lv_iload_n S.1 S.2.1 d_MD_putRow_8 rfl (lv_at hl 2 rfl) ?_
  refine lv_iload_n S.1 S.2.1 d_MD_putRow_9 rfl (lv_at hl 3 rfl) ?_
  obtain ⟨⟨fs66, hefs66⟩, hf⟩ := b_is_inv hf
  obtain ⟨v63, N64, hg65, hf⟩ := b_call_inv hf
  refine x_call hI (hm_mo hg65) (va_runV (As := [.int p0, .int p1]) (rest := []) S (c_MD_goesOn l hg65) (cwV 2 S.2.2.2.2 (gi_V wd_793 wd_794 wd_795 wd_564 wd_796) rfl rfl rfl (by decide +kernel) ⟨Nat.le_trans (Nat.le_of_ble_eq_true rfl) hRf.1, Nat.le_trans (Nat.le_of_ble_eq_true rfl) hRf.2⟩) ⟨hm_B.blind, va_recv hK (hI.1.one hefs66) (ci := 1) (q0 := 0) rfl rfl, fun U hU hW => ⟨rfl, hm_B.of hK hG hI hU hW⟩⟩ rfl rfl hl.1 rfl (lv_room (Nat.le_of_ble_eq_true rfl)) d_MD_putRow_10 (hx_fit hI hR (hm_mo hg65) (hm_mo hf))) (fun H locs cells slots hI => ?_)
  refine W.eq (g2 := F0 m 13 ls [.int v63]) rfl ?_
  refine lv_if_eq (tgt := 48) S.1 S.2.1 d_MD_putRow_13 (by decide) (fun hc => ?_) (fun hc => ?_)
  · have hf := b_if_t hc hf
    refine lv_iload_n S.1 S.2.1 d_MD_putRow_48 rfl (lv_at hl 3 rfl) ?_
    refine lv_sipush (v := 200) S.1 S.2.1 d_MD_putRow_49 (by decide) ?_
    refine lv_iload_n S.1 S.2.1 d_MD_putRow_52 rfl (lv_at hl 2 rfl) ?_
    refine lv_imul S.1 S.2.1 d_MD_putRow_53 ?_
    refine lv_icmp_le (tgt := 63) S.1 S.2.1 d_MD_putRow_54 (by decide) (fun hc => ?_) (fun hc => ?_)
    · have hf := b_if_t hc hf
      exact w63 v62 _ _ _ _ _ _ hf hI (lv_sub hl [1, 3, 0] rfl)
    · have hf := b_if_f hc hf
      refine lv_aload_n S.1 S.2.1 d_MD_putRow_57 rfl (lv_at hl 1 rfl) ?_
      refine lv_bipush (v := 59) S.1 S.2.1 d_MD_putRow_58 (by decide) ?_
      obtain ⟨⟨fs70, hefs70⟩, hf⟩ := b_is_inv hf
      obtain ⟨r67, N68, hg69, hf⟩ := b_call_inv hf
      refine x_call hI (hm_mo hg69) (va_runV (As := [.int 59]) (rest := []) S (c_MD_put l hg69) (cwV 1 S.2.2.2.2 (gi_V wd_755 wd_756 wd_757 wd_564 wd_758) rfl rfl rfl (by decide +kernel) ⟨Nat.le_trans (Nat.le_of_ble_eq_true rfl) hRf.1, Nat.le_trans (Nat.le_of_ble_eq_true rfl) hRf.2⟩) ⟨hm_B.blind, va_recv hK (hI.1.one hefs70) (ci := 1) (q0 := 0) rfl rfl, fun U hU hW => ⟨rfl, hm_B.of hK hG hI hU hW⟩⟩ rfl rfl hl.1 rfl (lv_room (Nat.le_of_ble_eq_true rfl)) d_MD_putRow_60 (hx_fit hI hR (hm_mo hg69) (hm_mo hf))) (fun H locs cells slots hI => ?_)
      refine W.eq (g2 := F0 m 63 ls []) rfl ?_
      exact w63 v62 _ _ _ _ _ _ hf hI (lv_sub hl [1, 3, 0] rfl)
  · have hf := b_if_f hc hf
    refine lv_iload_n S.1 S.2.1 d_MD_putRow_16 rfl (lv_at hl 0 rfl) ?_
    refine lv_bipush (v := 8) S.1 S.2.1 d_MD_putRow_17 (by decide) ?_
    refine lv_icmp_ne (tgt := 28) S.1 S.2.1 d_MD_putRow_19 (by decide) (fun hc => ?_) (fun hc => ?_)
    · have hf := b_if_f hc hf
      exact w28 v62 _ _ _ _ _ _ hf hI (lv_sub hl [1, 3, 0] rfl)
    · have hf := b_if_t hc hf
      refine lv_aload_n S.1 S.2.1 d_MD_putRow_22 rfl (lv_at hl 1 rfl) ?_
      refine lv_bipush (v := 32) S.1 S.2.1 d_MD_putRow_23 (by decide) ?_
      obtain ⟨⟨fs74, hefs74⟩, hf⟩ := b_is_inv hf
      obtain ⟨r71, N72, hg73, hf⟩ := b_call_inv hf
      refine x_call hI (hm_mo hg73) (va_runV (As := [.int 32]) (rest := []) S (c_MD_put l hg73) (cwV 1 S.2.2.2.2 (gi_V wd_755 wd_756 wd_757 wd_564 wd_758) rfl rfl rfl (by decide +kernel) ⟨Nat.le_trans (Nat.le_of_ble_eq_true rfl) hRf.1, Nat.le_trans (Nat.le_of_ble_eq_true rfl) hRf.2⟩) ⟨hm_B.blind, va_recv hK (hI.1.one hefs74) (ci := 1) (q0 := 0) rfl rfl, fun U hU hW => ⟨rfl, hm_B.of hK hG hI hU hW⟩⟩ rfl rfl hl.1 rfl (lv_room (Nat.le_of_ble_eq_true rfl)) d_MD_putRow_25 (hx_fit hI hR (hm_mo hg73) (hm_mo hf))) (fun H locs cells slots hI => ?_)
      refine W.eq (g2 := F0 m 28 ls []) rfl ?_
      exact w28 v62 _ _ _ _ _ _ hf hI (lv_sub hl [1, 3, 0] rfl)
