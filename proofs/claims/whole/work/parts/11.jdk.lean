/-! THE JDK's OWN METHODS over the claim's texts: String.length, String.charAt and what they call -/
theorem dj_len_0 : decode b_String_length 0 = .ok (.aload_n 0, 1) := by decide +kernel
theorem dj_len_1 : decode b_String_length 1 = .ok (.getfield 9, 3) := by decide +kernel
theorem dj_len_4 : decode b_String_length 4 = .ok (.arraylength, 1) := by decide +kernel
theorem dj_len_5 : decode b_String_length 5 = .ok (.aload_n 0, 1) := by decide +kernel
theorem dj_len_6 : decode b_String_length 6 = .ok (.invokevirtual 335, 3) := by decide +kernel
theorem dj_len_9 : decode b_String_length 9 = .ok (.ishr, 1) := by decide +kernel
theorem dj_len_10 : decode b_String_length 10 = .ok (.ireturn, 1) := by decide +kernel
theorem dj_cod_0 : decode b_String_coder 0 = .ok (.getstatic 38, 3) := by decide +kernel
theorem dj_cod_3 : decode b_String_coder 3 = .ok (.ifCond .eq 10, 3) := by decide +kernel
theorem dj_cod_6 : decode b_String_coder 6 = .ok (.aload_n 0, 1) := by decide +kernel
theorem dj_cod_7 : decode b_String_coder 7 = .ok (.getfield 15, 3) := by decide +kernel
theorem dj_cod_10 : decode b_String_coder 10 = .ok (.goto 4, 3) := by decide +kernel
theorem dj_cod_14 : decode b_String_coder 14 = .ok (.ireturn, 1) := by decide +kernel
theorem dj_lat_0 : decode b_String_isLatin1 0 = .ok (.getstatic 38, 3) := by decide +kernel
theorem dj_lat_3 : decode b_String_isLatin1 3 = .ok (.ifCond .eq 14, 3) := by decide +kernel
theorem dj_lat_6 : decode b_String_isLatin1 6 = .ok (.aload_n 0, 1) := by decide +kernel
theorem dj_lat_7 : decode b_String_isLatin1 7 = .ok (.getfield 15, 3) := by decide +kernel
theorem dj_lat_10 : decode b_String_isLatin1 10 = .ok (.ifCond .ne 7, 3) := by decide +kernel
theorem dj_lat_13 : decode b_String_isLatin1 13 = .ok (.iconst 1, 1) := by decide +kernel
theorem dj_lat_14 : decode b_String_isLatin1 14 = .ok (.goto 4, 3) := by decide +kernel
theorem dj_lat_18 : decode b_String_isLatin1 18 = .ok (.ireturn, 1) := by decide +kernel
theorem dj_chr_0 : decode b_String_charAt 0 = .ok (.aload_n 0, 1) := by decide +kernel
theorem dj_chr_1 : decode b_String_charAt 1 = .ok (.invokevirtual 492, 3) := by decide +kernel
theorem dj_chr_4 : decode b_String_charAt 4 = .ok (.ifCond .eq 12, 3) := by decide +kernel
theorem dj_chr_7 : decode b_String_charAt 7 = .ok (.aload_n 0, 1) := by decide +kernel
theorem dj_chr_8 : decode b_String_charAt 8 = .ok (.getfield 9, 3) := by decide +kernel
theorem dj_chr_11 : decode b_String_charAt 11 = .ok (.iload_n 1, 1) := by decide +kernel
theorem dj_chr_12 : decode b_String_charAt 12 = .ok (.invokestatic 495, 3) := by decide +kernel
theorem dj_chr_15 : decode b_String_charAt 15 = .ok (.ireturn, 1) := by decide +kernel
theorem dj_lch_0 : decode b_Latin1_charAt 0 = .ok (.iload_n 1, 1) := by decide +kernel
theorem dj_lch_1 : decode b_Latin1_charAt 1 = .ok (.aload_n 0, 1) := by decide +kernel
theorem dj_lch_2 : decode b_Latin1_charAt 2 = .ok (.arraylength, 1) := by decide +kernel
theorem dj_lch_3 : decode b_Latin1_charAt 3 = .ok (.invokestatic 9, 3) := by decide +kernel
theorem dj_lch_6 : decode b_Latin1_charAt 6 = .ok (.aload_n 0, 1) := by decide +kernel
theorem dj_lch_7 : decode b_Latin1_charAt 7 = .ok (.iload_n 1, 1) := by decide +kernel
theorem dj_lch_8 : decode b_Latin1_charAt 8 = .ok (.baload, 1) := by decide +kernel
theorem dj_lch_9 : decode b_Latin1_charAt 9 = .ok (.sipush 255, 3) := by decide +kernel
theorem dj_lch_12 : decode b_Latin1_charAt 12 = .ok (.iand, 1) := by decide +kernel
theorem dj_lch_13 : decode b_Latin1_charAt 13 = .ok (.i2c, 1) := by decide +kernel
theorem dj_lch_14 : decode b_Latin1_charAt 14 = .ok (.ireturn, 1) := by decide +kernel
theorem dj_chk_0 : decode b_String_checkIndex 0 = .ok (.iload_n 0, 1) := by decide +kernel
theorem dj_chk_1 : decode b_String_checkIndex 1 = .ok (.iload_n 1, 1) := by decide +kernel
theorem dj_chk_2 : decode b_String_checkIndex 2 = .ok (.getstatic 1053, 3) := by decide +kernel
theorem dj_chk_5 : decode b_String_checkIndex 5 = .ok (.invokestatic 1059, 3) := by decide +kernel
theorem dj_chk_8 : decode b_String_checkIndex 8 = .ok (.pop, 1) := by decide +kernel
theorem dj_chk_9 : decode b_String_checkIndex 9 = .ok (.return_, 1) := by decide +kernel
theorem dj_pre_0 : decode b_Pre_checkIndex 0 = .ok (.iload_n 0, 1) := by decide +kernel
theorem dj_pre_1 : decode b_Pre_checkIndex 1 = .ok (.ifCond .lt 8, 3) := by decide +kernel
theorem dj_pre_4 : decode b_Pre_checkIndex 4 = .ok (.iload_n 0, 1) := by decide +kernel
theorem dj_pre_5 : decode b_Pre_checkIndex 5 = .ok (.iload_n 1, 1) := by decide +kernel
theorem dj_pre_6 : decode b_Pre_checkIndex 6 = .ok (.if_icmp .lt 10, 3) := by decide +kernel
theorem dj_pre_16 : decode b_Pre_checkIndex 16 = .ok (.iload_n 0, 1) := by decide +kernel
theorem dj_pre_17 : decode b_Pre_checkIndex 17 = .ok (.ireturn, 1) := by decide +kernel

def w_String_coder : List Cond := .code y_String_coder b_String_coder 1 (some .byte) :: wsAll
def w_String_isLatin1 : List Cond := .code y_String_isLatin1 b_String_isLatin1 1 (some .boolean) :: wsAll
def w_String_length : List Cond := .code y_String_length b_String_length 1 (some .int) :: wsAll
def w_String_charAt : List Cond := .code y_String_charAt b_String_charAt 2 (some .char) :: wsAll
def w_Latin1_charAt : List Cond := .code y_Latin1_charAt b_Latin1_charAt 2 (some .char) :: wsAll
def w_String_checkIndex : List Cond := .code y_String_checkIndex b_String_checkIndex 2 none :: wsAll
def w_Pre_checkIndex : List Cond := .code y_Pre_checkIndex b_Pre_checkIndex 3 (some .int) :: wsAll
def f_Pre_checkIndex (i n : Int32) : hX Int32 := if i < 0 then b_fail else if i < n then b_ret i else b_fail
def f_String_checkIndex (i n : Int32) : hX Unit := if i < 0 then b_fail else if i < n then b_ret () else b_fail
def f_String_coder : hX Int32 := b_retN .byte 0
def f_String_isLatin1 : hX Int32 := b_retN .boolean 1
def f_String_length (t : Nat) : hX Int32 := b_slen sB t (fun v => b_ret v)
def f_Latin1_charAt (t : Nat) (k : Int32) : hX Int32 := b_schr sB t k (fun v => b_ret v)
def f_String_charAt (t : Nat) (k : Int32) : hX Int32 := b_schr sB t k (fun v => b_ret v)
theorem b_retN_ok {ty : FieldType} {v : Int32} {M : hM} (h : vp_nar ty v = v) : (b_retN ty v).1 M = some (v, M) := by
  show (if vp_nar ty v = v then some (v, M) else none) = _
  rw [if_pos h]
theorem sB_sT : ∀ i, i < sB.length → ∃ q, sT.1[i]? = some q ∧ q.2.2.2 = sB.getD i [] := by
  intro i hi
  have h : i < 27 := hi
  have key : ∀ j : Fin 27, (sT.1[j.val]?).map (fun q => q.2.2.2) = some (sB.getD j.val []) := by decide +kernel
  have k := key ⟨i, h⟩
  cases hq : sT.1[i]? with
  | none => rw [hq] at k; cases k
  | some q => rw [hq] at k; exact ⟨q, rfl, Option.some.inj k⟩
theorem sB_len : ∀ i : Nat, (sB.getD i []).length < 2 ^ 31 := by
  intro i
  by_cases h : i < 27
  · exact (by decide +kernel : ∀ j : Fin 27, (sB.getD j.val []).length < 2 ^ 31) ⟨i, h⟩
  · have e : sB[i]? = none := List.getElem?_eq_none (by have k : sB.length = 27 := rfl; omega)
    rw [List.getD_eq_getElem?_getD, e]
    decide
theorem chr_nar (x : Int32) : vp_nar .char (x &&& 255) = x &&& 255 := by
  obtain ⟨j, hj, e⟩ := pk_andE x (m := 255) 8 (by decide)
  rw [e]
  have k := (pk_charN (q := j) (by omega)).1
  exact Value.int.inj k
theorem chr_i2c (x : Int32) : ((x &&& 255).toUInt32 % 65536).toInt32 = x &&& 255 := by
  obtain ⟨j, hj, e⟩ := pk_andE x (m := 255) 8 (by decide)
  rw [e, pk_char, pk_tn (by omega), Nat.mod_eq_of_lt (by omega)]
set_option maxHeartbeats 4000000 in
set_option maxRecDepth 100000 in
theorem c_Pre_checkIndex (l : Launch) {D : va_G} {dA : Nat → ClassId} {aK aV : Nat → Nat} {z : Nat} {p0 p1 : Int32} {p2 : Option Nat} {M : hM} {Z : Int32 × hM} (hf : (f_Pre_checkIndex p0 p1).1 M = some Z) : Met l y_Pre_checkIndex w_Pre_checkIndex ({ frames := 0, cells := Z.2.2.1 - M.2.1, slots := Z.2.2.2 - M.2.2, locals := 0 }) (va_Pc [.int p0, .int p1, va_rf p2] (hm_B D dA hCl (hTy dA) sT aK aV z M)) (hm_Q D dA hCl (hTy dA) sT aK aV z (some (.int Z.1)) Z.2) (Z.2.2.1 - M.2.1) (Z.2.2.2 - M.2.2) (fun q => z ≤ q) := by
  refine Met.ofW (cc := b_Pre_checkIndex) (maxL := 3) (ret := (some .int)) (by decide) rfl ?_
  intro p e s m args below meth c s₁ B hml hv
  obtain ⟨hav, hB⟩ := hv
  have S : CallFix p m c b_Pre_checkIndex 3 s args w_Pre_checkIndex "jdk/internal/util/Preconditions" := ⟨B.exec, B.bytes, hml, findClass_of_methodNamed B.named, atoms_spec (ws := w_Pre_checkIndex) B.pre⟩
  have hr : meth.sig.returnType = (some .int) := B.returns
  have hlocks := B.notSynchronized
  have hK := hB.2.2.1
  have hG := hB.2.2.2.2.2
  have hI := hm_I.start hB
  rw [← hB.2.1]
  generalize M.2.2 = k1 at hI ⊢
  refine W.eq (g2 := F0 m 0 ((lg_sl ([.int p0, .int p1, va_rf p2]) ++ List.replicate (3 - (lg_sl ([.int p0, .int p1, va_rf p2])).length) Slot.unset).toArray) []) (by rw [hav]; exact lg_entry_eq m ([.int p0, .int p1, va_rf p2]) 3) ?_
  have hl := lv_entry ([.int p0, .int p1, va_rf p2]) (n := 3) (by cases p2 <;> exact Nat.le_of_ble_eq_true rfl)
  generalize (lg_sl ([.int p0, .int p1, va_rf p2]) ++ List.replicate (3 - (lg_sl ([.int p0, .int p1, va_rf p2])).length) Slot.unset).toArray = ls at hl ⊢
  simp only [lvA_nil, lvA_i, lvA_l, lvA_a, lvA_r, Nat.zero_add, Nat.reduceAdd] at hl
  have hret : ∀ (v : Int32) (M : hM) (H : Heap) (locs : List Loc) (cells slots : Nat) (ls : Array Slot) (pc : Nat), decode b_Pre_checkIndex pc = .ok (.ireturn, 1) → (b_ret v).1 M = some Z → hm_I D dA hCl z k1 s M H locs cells slots → W p l e (headSpec w_Pre_checkIndex { frames := 0, cells := Z.2.2.1 - s.heap.size, slots := Z.2.2.2 - k1, locals := 0 }).room s m args below meth c H locs cells slots (MQ below (hm_Q D dA hCl (hTy dA) sT aK aV z (some (.int Z.1)) Z.2) args s (Z.2.2.1 - s.heap.size) (Z.2.2.2 - k1) (fun q => z ≤ q)) (F0 m pc ls [.int v]) := fun v M H locs cells slots ls pc hdg hf hI => x_reti S hK hG hI hr hlocks hdg hf
  have hR : Z.2.2.1 - s.heap.size ≤ (headSpec w_Pre_checkIndex { frames := 0, cells := Z.2.2.1 - s.heap.size, slots := Z.2.2.2 - k1, locals := 0 }).room.cells ∧ Z.2.2.2 - k1 ≤ (headSpec w_Pre_checkIndex { frames := 0, cells := Z.2.2.1 - s.heap.size, slots := Z.2.2.2 - k1, locals := 0 }).room.slots := ⟨Nat.le_refl _, Nat.le_refl _⟩
  have hRf : 0 ≤ (headSpec w_Pre_checkIndex { frames := 0, cells := Z.2.2.1 - s.heap.size, slots := Z.2.2.2 - k1, locals := 0 }).room.frames ∧ 0 ≤ (headSpec w_Pre_checkIndex { frames := 0, cells := Z.2.2.1 - s.heap.size, slots := Z.2.2.2 - k1, locals := 0 }).room.locals := ⟨Nat.le_refl _, Nat.le_refl _⟩
  generalize (headSpec w_Pre_checkIndex { frames := 0, cells := Z.2.2.1 - s.heap.size, slots := Z.2.2.2 - k1, locals := 0 }).room = R at hret hR hRf ⊢
  generalize (MQ below (hm_Q D dA hCl (hTy dA) sT aK aV z (some (.int Z.1)) Z.2) args s (Z.2.2.1 - s.heap.size) (Z.2.2.2 - k1) (fun q => z ≤ q)) = Q at hret ⊢
  obtain ⟨h0, hf⟩ := b_ifn hf
  refine lv_iload_n S.1 S.2.1 dj_pre_0 rfl (lv_at hl 0 rfl) ?_
  refine lv_if_lt (tgt := 9) S.1 S.2.1 dj_pre_1 (by decide) (fun hc => absurd hc h0) (fun hc => ?_)
  refine lv_iload_n S.1 S.2.1 dj_pre_4 rfl (lv_at hl 0 rfl) ?_
  refine lv_iload_n S.1 S.2.1 dj_pre_5 rfl (lv_at hl 1 rfl) ?_
  refine lv_icmp_lt (tgt := 16) S.1 S.2.1 dj_pre_6 (by decide) (fun hc => ?_) (fun hc => ?_)
  · have hf := b_if_t hc hf
    refine lv_iload_n S.1 S.2.1 dj_pre_16 rfl (lv_at hl 0 rfl) ?_
    exact hret _ _ _ _ _ _ _ _ dj_pre_17 hf hI
  · have hf := b_if_f hc hf
    cases hf
theorem x_getq {p : Program} {l : Launch} {e : Env} {R : Room} {s : State} {m : MethodId} {args : Array Value} {below : List Frame} {meth : Method} {c : Code} {H : Heap} {locs : List Loc} {cells slots : Nat} {Q : State → Prop} {cc : ByteArray} {pc nL : Nat} {ls : Array Slot} {rest : List Value} {Ts : List Cond} {own C n d : String} {A : Nat → Prop} {index : Nat} (S : CallFix p m c cc nL s args Ts own) (hZ : va_Zq C n d A s s.heap) (hS : va_S A s.heap H locs) (hlink : (Cond.fieldLink own index C n d) ∈ Ts) (hdg : decode cc pc = .ok (.getstatic index, 3))
    (kk : ∀ r : Option Nat, W p l e R s m args below meth c H locs cells slots Q (F0 m (pc + 3) ls (va_rf r :: rest))) : W p l e R s m args below meth c H locs cells slots Q (F0 m pc ls rest) := by
  rcases hZ with h | ⟨t, h⟩
  · exact va_gets S.1 S.2.1 h hS S.2.2.2.1 (S.2.2.2.2 _ hlink) (fun _ h => h) hdg (kk none)
  · exact va_gets S.1 S.2.1 h hS S.2.2.2.1 (S.2.2.2.2 _ hlink) (fun _ h => h) hdg (kk (some t))
set_option maxHeartbeats 4000000 in
set_option maxRecDepth 100000 in
theorem c_String_checkIndex (l : Launch) {D : va_G} {dA : Nat → ClassId} {aK aV : Nat → Nat} {z : Nat} {p0 p1 : Int32} {M : hM} {Z : Unit × hM} (hf : (f_String_checkIndex p0 p1).1 M = some Z) : Met l y_String_checkIndex w_String_checkIndex ({ frames := 1, cells := Z.2.2.1 - M.2.1, slots := Z.2.2.2 - M.2.2, locals := 22 }) (va_Pc [.int p0, .int p1] (hm_B D dA hCl (hTy dA) sT aK aV z M)) (hm_Q D dA hCl (hTy dA) sT aK aV z none Z.2) (Z.2.2.1 - M.2.1) (Z.2.2.2 - M.2.2) (fun q => z ≤ q) := by
  refine Met.ofW (cc := b_String_checkIndex) (maxL := 2) (ret := none) (by decide) rfl ?_
  intro p e s m args below meth c s₁ B hml hv
  obtain ⟨hav, hB⟩ := hv
  have S : CallFix p m c b_String_checkIndex 2 s args w_String_checkIndex "java/lang/String" := ⟨B.exec, B.bytes, hml, findClass_of_methodNamed B.named, atoms_spec (ws := w_String_checkIndex) B.pre⟩
  have hr : meth.sig.returnType = none := B.returns
  have hlocks := B.notSynchronized
  have hK := hB.2.2.1
  have hG := hB.2.2.2.2.2
  have hI := hm_I.start hB
  rw [← hB.2.1]
  generalize M.2.2 = k1 at hI ⊢
  refine W.eq (g2 := F0 m 0 ((lg_sl ([.int p0, .int p1]) ++ List.replicate (2 - (lg_sl ([.int p0, .int p1])).length) Slot.unset).toArray) []) (by rw [hav]; exact lg_entry_eq m ([.int p0, .int p1]) 2) ?_
  have hl := lv_entry ([.int p0, .int p1]) (n := 2) (Nat.le_of_ble_eq_true rfl)
  generalize (lg_sl ([.int p0, .int p1]) ++ List.replicate (2 - (lg_sl ([.int p0, .int p1])).length) Slot.unset).toArray = ls at hl ⊢
  simp only [lvA_nil, lvA_i, lvA_l, lvA_a, lvA_r, Nat.zero_add, Nat.reduceAdd] at hl
  have hret : ∀ (M : hM) (H : Heap) (locs : List Loc) (cells slots : Nat) (ls : Array Slot) (pc : Nat), decode b_String_checkIndex pc = .ok (.return_, 1) → (b_ret ()).1 M = some Z → hm_I D dA hCl z k1 s M H locs cells slots → W p l e (headSpec w_String_checkIndex { frames := 1, cells := Z.2.2.1 - s.heap.size, slots := Z.2.2.2 - k1, locals := 22 }).room s m args below meth c H locs cells slots (MQ below (hm_Q D dA hCl (hTy dA) sT aK aV z none Z.2) args s (Z.2.2.1 - s.heap.size) (Z.2.2.2 - k1) (fun q => z ≤ q)) (F0 m pc ls []) := fun M H locs cells slots ls pc hdg hf hI => x_retv S hK hG hI hr hlocks hdg hf
  have hR : Z.2.2.1 - s.heap.size ≤ (headSpec w_String_checkIndex { frames := 1, cells := Z.2.2.1 - s.heap.size, slots := Z.2.2.2 - k1, locals := 22 }).room.cells ∧ Z.2.2.2 - k1 ≤ (headSpec w_String_checkIndex { frames := 1, cells := Z.2.2.1 - s.heap.size, slots := Z.2.2.2 - k1, locals := 22 }).room.slots := ⟨Nat.le_refl _, Nat.le_refl _⟩
  have hRf : 1 ≤ (headSpec w_String_checkIndex { frames := 1, cells := Z.2.2.1 - s.heap.size, slots := Z.2.2.2 - k1, locals := 22 }).room.frames ∧ 22 ≤ (headSpec w_String_checkIndex { frames := 1, cells := Z.2.2.1 - s.heap.size, slots := Z.2.2.2 - k1, locals := 22 }).room.locals := ⟨Nat.le_refl _, Nat.le_refl _⟩
  generalize (headSpec w_String_checkIndex { frames := 1, cells := Z.2.2.1 - s.heap.size, slots := Z.2.2.2 - k1, locals := 22 }).room = R at hret hR hRf ⊢
  generalize (MQ below (hm_Q D dA hCl (hTy dA) sT aK aV z none Z.2) args s (Z.2.2.1 - s.heap.size) (Z.2.2.2 - k1) (fun q => z ≤ q)) = Q at hret ⊢
  obtain ⟨h0, hf⟩ := b_ifn hf
  by_cases h1 : p0 < p1
  · have hf := b_if_t h1 hf
    have hg : (f_Pre_checkIndex p0 p1).1 M = some (p0, M) := by unfold f_Pre_checkIndex; rw [if_neg h0, if_pos h1]; rfl
    refine lv_iload_n S.1 S.2.1 dj_chk_0 rfl (lv_at hl 0 rfl) ?_
    refine lv_iload_n S.1 S.2.1 dj_chk_1 rfl (lv_at hl 1 rfl) ?_
    refine x_getq S hG.2.2.1 hI.2.2.1 (List.mem_cons_of_mem _ wd_1048) dj_chk_2 (fun r => ?_)
    refine x_call hI (hm_mo hg) (va_runS (As := [.int p0, .int p1, va_rf r]) (rest := []) S (c_Pre_checkIndex l hg) (va_cwS 3 S.2.2.2.2 (gi_S wd_1033 wd_1036 wd_1046 wd_1043) rfl rfl rfl (by decide +kernel) ⟨Nat.le_trans (Nat.le_of_ble_eq_true rfl) hRf.1, Nat.le_trans (Nat.le_of_ble_eq_true rfl) hRf.2⟩) ⟨hm_B.blind, fun U hU hW => ⟨rfl, hm_B.of hK hG hI hU hW⟩⟩ rfl rfl hl.1 rfl (lv_room (Nat.le_of_ble_eq_true rfl)) dj_chk_5 (hx_fit hI hR (hm_mo hg) (hm_mo hf))) (fun H locs cells slots hI => ?_)
    refine lv_pop (va := .int p0) S.1 S.2.1 dj_chk_8 rfl ?_
    exact hret _ _ _ _ _ _ _ dj_chk_9 hf hI
  · have hf := b_if_f h1 hf
    cases hf
set_option maxHeartbeats 4000000 in
set_option maxRecDepth 100000 in
theorem c_String_coder (l : Launch) {D : va_G} {dA : Nat → ClassId} {aK aV : Nat → Nat} {z : Nat} {t : Nat} {q : String × Nat × String × List Int32} (ht : sT.1[t]? = some q) {M : hM} {Z : Int32 × hM} (hf : (f_String_coder).1 M = some Z) : Met l y_String_coder w_String_coder ({ frames := 0, cells := Z.2.2.1 - M.2.1, slots := Z.2.2.2 - M.2.2, locals := 0 }) (va_Pc [.ref (aK t)] (hm_B D dA hCl (hTy dA) sT aK aV z M)) (hm_Q D dA hCl (hTy dA) sT aK aV z (some (.int Z.1)) Z.2) (Z.2.2.1 - M.2.1) (Z.2.2.2 - M.2.2) (fun q => z ≤ q) := by
  refine Met.ofW (cc := b_String_coder) (maxL := 1) (ret := (some .byte)) (by decide) rfl ?_
  intro p e s m args below meth c s₁ B hml hv
  obtain ⟨hav, hB⟩ := hv
  have S : CallFix p m c b_String_coder 1 s args w_String_coder "java/lang/String" := ⟨B.exec, B.bytes, hml, findClass_of_methodNamed B.named, atoms_spec (ws := w_String_coder) B.pre⟩
  have hr : meth.sig.returnType = (some .byte) := B.returns
  have hlocks := B.notSynchronized
  have hK := hB.2.2.1
  have hG := hB.2.2.2.2.2
  have hI := hm_I.start hB
  rw [← hB.2.1]
  generalize M.2.2 = k1 at hI ⊢
  refine W.eq (g2 := F0 m 0 ((lg_sl ([.ref (aK t)]) ++ List.replicate (1 - (lg_sl ([.ref (aK t)])).length) Slot.unset).toArray) []) (by rw [hav]; exact lg_entry_eq m ([.ref (aK t)]) 1) ?_
  have hl := lv_entry ([.ref (aK t)]) (n := 1) (Nat.le_of_ble_eq_true rfl)
  generalize (lg_sl ([.ref (aK t)]) ++ List.replicate (1 - (lg_sl ([.ref (aK t)])).length) Slot.unset).toArray = ls at hl ⊢
  simp only [lvA_nil, lvA_i, lvA_l, lvA_a, lvA_r, Nat.zero_add, Nat.reduceAdd] at hl
  have hret : ∀ (v : Int32) (M : hM) (H : Heap) (locs : List Loc) (cells slots : Nat) (ls : Array Slot) (pc : Nat), decode b_String_coder pc = .ok (.ireturn, 1) → (b_retN .byte v).1 M = some Z → hm_I D dA hCl z k1 s M H locs cells slots → W p l e (headSpec w_String_coder { frames := 0, cells := Z.2.2.1 - s.heap.size, slots := Z.2.2.2 - k1, locals := 0 }).room s m args below meth c H locs cells slots (MQ below (hm_Q D dA hCl (hTy dA) sT aK aV z (some (.int Z.1)) Z.2) args s (Z.2.2.1 - s.heap.size) (Z.2.2.2 - k1) (fun q => z ≤ q)) (F0 m pc ls [.int v]) := fun v M H locs cells slots ls pc hdg hf hI => x_retn S hK hG hI hr hlocks hdg hf
  have hR : Z.2.2.1 - s.heap.size ≤ (headSpec w_String_coder { frames := 0, cells := Z.2.2.1 - s.heap.size, slots := Z.2.2.2 - k1, locals := 0 }).room.cells ∧ Z.2.2.2 - k1 ≤ (headSpec w_String_coder { frames := 0, cells := Z.2.2.1 - s.heap.size, slots := Z.2.2.2 - k1, locals := 0 }).room.slots := ⟨Nat.le_refl _, Nat.le_refl _⟩
  have hRf : 0 ≤ (headSpec w_String_coder { frames := 0, cells := Z.2.2.1 - s.heap.size, slots := Z.2.2.2 - k1, locals := 0 }).room.frames ∧ 0 ≤ (headSpec w_String_coder { frames := 0, cells := Z.2.2.1 - s.heap.size, slots := Z.2.2.2 - k1, locals := 0 }).room.locals := ⟨Nat.le_refl _, Nat.le_refl _⟩
  generalize (headSpec w_String_coder { frames := 0, cells := Z.2.2.1 - s.heap.size, slots := Z.2.2.2 - k1, locals := 0 }).room = R at hret hR hRf ⊢
  generalize (MQ below (hm_Q D dA hCl (hTy dA) sT aK aV z (some (.int Z.1)) Z.2) args s (Z.2.2.1 - s.heap.size) (Z.2.2.2 - k1) (fun q => z ≤ q)) = Q at hret ⊢
  refine va_gets S.1 S.2.1 hG.2.1 hI.2.2.1 S.2.2.2.1 (S.2.2.2.2 _ (List.mem_cons_of_mem _ wd_1047)) (fun _ h => h) dj_cod_0 ?_
  refine lv_if_eq (tgt := 13) S.1 S.2.1 dj_cod_3 (by decide) (fun hc => absurd hc (by decide)) (fun hc => ?_)
  refine lv_aload_n S.1 S.2.1 dj_cod_6 rfl (lv_at hl 0 rfl) ?_
  refine vk_getf S.1 S.2.1 (hG.1 t q ht).2.2.1 hI.2.2.1 S.2.2.2.1 (S.2.2.2.2 _ (List.mem_cons_of_mem _ wd_1050)) (fun _ h => h) dj_cod_7 ?_
  refine lv_goto (tgt := 14) S.1 S.2.1 dj_cod_10 (by decide) ?_
  exact hret _ _ _ _ _ _ _ _ dj_cod_14 hf hI
set_option maxHeartbeats 4000000 in
set_option maxRecDepth 100000 in
theorem c_String_isLatin1 (l : Launch) {D : va_G} {dA : Nat → ClassId} {aK aV : Nat → Nat} {z : Nat} {t : Nat} {q : String × Nat × String × List Int32} (ht : sT.1[t]? = some q) {M : hM} {Z : Int32 × hM} (hf : (f_String_isLatin1).1 M = some Z) : Met l y_String_isLatin1 w_String_isLatin1 ({ frames := 0, cells := Z.2.2.1 - M.2.1, slots := Z.2.2.2 - M.2.2, locals := 0 }) (va_Pc [.ref (aK t)] (hm_B D dA hCl (hTy dA) sT aK aV z M)) (hm_Q D dA hCl (hTy dA) sT aK aV z (some (.int Z.1)) Z.2) (Z.2.2.1 - M.2.1) (Z.2.2.2 - M.2.2) (fun q => z ≤ q) := by
  refine Met.ofW (cc := b_String_isLatin1) (maxL := 1) (ret := (some .boolean)) (by decide) rfl ?_
  intro p e s m args below meth c s₁ B hml hv
  obtain ⟨hav, hB⟩ := hv
  have S : CallFix p m c b_String_isLatin1 1 s args w_String_isLatin1 "java/lang/String" := ⟨B.exec, B.bytes, hml, findClass_of_methodNamed B.named, atoms_spec (ws := w_String_isLatin1) B.pre⟩
  have hr : meth.sig.returnType = (some .boolean) := B.returns
  have hlocks := B.notSynchronized
  have hK := hB.2.2.1
  have hG := hB.2.2.2.2.2
  have hI := hm_I.start hB
  rw [← hB.2.1]
  generalize M.2.2 = k1 at hI ⊢
  refine W.eq (g2 := F0 m 0 ((lg_sl ([.ref (aK t)]) ++ List.replicate (1 - (lg_sl ([.ref (aK t)])).length) Slot.unset).toArray) []) (by rw [hav]; exact lg_entry_eq m ([.ref (aK t)]) 1) ?_
  have hl := lv_entry ([.ref (aK t)]) (n := 1) (Nat.le_of_ble_eq_true rfl)
  generalize (lg_sl ([.ref (aK t)]) ++ List.replicate (1 - (lg_sl ([.ref (aK t)])).length) Slot.unset).toArray = ls at hl ⊢
  simp only [lvA_nil, lvA_i, lvA_l, lvA_a, lvA_r, Nat.zero_add, Nat.reduceAdd] at hl
  have hret : ∀ (v : Int32) (M : hM) (H : Heap) (locs : List Loc) (cells slots : Nat) (ls : Array Slot) (pc : Nat), decode b_String_isLatin1 pc = .ok (.ireturn, 1) → (b_retN .boolean v).1 M = some Z → hm_I D dA hCl z k1 s M H locs cells slots → W p l e (headSpec w_String_isLatin1 { frames := 0, cells := Z.2.2.1 - s.heap.size, slots := Z.2.2.2 - k1, locals := 0 }).room s m args below meth c H locs cells slots (MQ below (hm_Q D dA hCl (hTy dA) sT aK aV z (some (.int Z.1)) Z.2) args s (Z.2.2.1 - s.heap.size) (Z.2.2.2 - k1) (fun q => z ≤ q)) (F0 m pc ls [.int v]) := fun v M H locs cells slots ls pc hdg hf hI => x_retn S hK hG hI hr hlocks hdg hf
  have hR : Z.2.2.1 - s.heap.size ≤ (headSpec w_String_isLatin1 { frames := 0, cells := Z.2.2.1 - s.heap.size, slots := Z.2.2.2 - k1, locals := 0 }).room.cells ∧ Z.2.2.2 - k1 ≤ (headSpec w_String_isLatin1 { frames := 0, cells := Z.2.2.1 - s.heap.size, slots := Z.2.2.2 - k1, locals := 0 }).room.slots := ⟨Nat.le_refl _, Nat.le_refl _⟩
  have hRf : 0 ≤ (headSpec w_String_isLatin1 { frames := 0, cells := Z.2.2.1 - s.heap.size, slots := Z.2.2.2 - k1, locals := 0 }).room.frames ∧ 0 ≤ (headSpec w_String_isLatin1 { frames := 0, cells := Z.2.2.1 - s.heap.size, slots := Z.2.2.2 - k1, locals := 0 }).room.locals := ⟨Nat.le_refl _, Nat.le_refl _⟩
  generalize (headSpec w_String_isLatin1 { frames := 0, cells := Z.2.2.1 - s.heap.size, slots := Z.2.2.2 - k1, locals := 0 }).room = R at hret hR hRf ⊢
  generalize (MQ below (hm_Q D dA hCl (hTy dA) sT aK aV z (some (.int Z.1)) Z.2) args s (Z.2.2.1 - s.heap.size) (Z.2.2.2 - k1) (fun q => z ≤ q)) = Q at hret ⊢
  refine va_gets S.1 S.2.1 hG.2.1 hI.2.2.1 S.2.2.2.1 (S.2.2.2.2 _ (List.mem_cons_of_mem _ wd_1047)) (fun _ h => h) dj_lat_0 ?_
  refine lv_if_eq (tgt := 17) S.1 S.2.1 dj_lat_3 (by decide) (fun hc => absurd hc (by decide)) (fun hc => ?_)
  refine lv_aload_n S.1 S.2.1 dj_lat_6 rfl (lv_at hl 0 rfl) ?_
  refine vk_getf S.1 S.2.1 (hG.1 t q ht).2.2.1 hI.2.2.1 S.2.2.2.1 (S.2.2.2.2 _ (List.mem_cons_of_mem _ wd_1050)) (fun _ h => h) dj_lat_7 ?_
  refine lv_if_ne (tgt := 17) S.1 S.2.1 dj_lat_10 (by decide) (fun hc => absurd rfl hc) (fun hc => ?_)
  refine lv_iconst (v := 1) S.1 S.2.1 dj_lat_13 (by decide) ?_
  refine lv_goto (tgt := 18) S.1 S.2.1 dj_lat_14 (by decide) ?_
  exact hret _ _ _ _ _ _ _ _ dj_lat_18 hf hI
theorem x_recvT {ST : hT} {aK aV : Nat → Nat} {z t : Nat} {s : State} {H : Heap} {locs : List Loc} {q : String × Nat × String × List Int32} (hG : hm_G ST aK aV z s s.heap) (ht : ST.1[t]? = some q) (hS : va_S (fun q => z ≤ q) s.heap H locs) : ∃ cell : Cell, H[aK t]? = some cell ∧ cell.vm.isStatics = false ∧ s.vm.findClass "java/lang/String" = some cell.cls := by
  obtain ⟨cell, h1, h2, h3, -⟩ := (hG.1 t q ht).2.1.kept hS.2.1
  exact ⟨cell, h1, h2, h3⟩
theorem x_tlen {p : Program} {l : Launch} {e : Env} {R : Room} {s : State} {m : MethodId} {args : Array Value} {below : List Frame} {meth : Method} {c : Code} {H : Heap} {locs : List Loc} {cells slots : Nat} {Q : State → Prop} {cc : ByteArray} {pc nL : Nat} {ls : Array Slot} {rest : List Value} {Ts : List Cond} {own : String} (S : CallFix p m c cc nL s args Ts own) {ST : hT} {aK aV : Nat → Nat} {z t : Nat} {q : String × Nat × String × List Int32} (hG : hm_G ST aK aV z s s.heap) (ht : ST.1[t]? = some q) (hS : va_S (fun q => z ≤ q) s.heap H locs) (hdg : decode cc pc = .ok (.arraylength, 1))
    (kk : W p l e R s m args below meth c H locs cells slots Q (F0 m (pc + 1) ls (.int (nI q.2.2.2.length) :: rest))) : W p l e R s m args below meth c H locs cells slots Q (F0 m pc ls (.ref (aV t) :: rest)) := by
  obtain ⟨cell, h1, h2, h3, h4, h5, h6, h7⟩ := (hG.1 t q ht).2.2.2.2.kept hS.2.1
  exact W.alen (n := nI q.2.2.2.length) S.1 S.2.1 h1 h2 h5 rfl rfl hdg kk
theorem x_tald {p : Program} {l : Launch} {e : Env} {R : Room} {s : State} {m : MethodId} {args : Array Value} {below : List Frame} {meth : Method} {c : Code} {H : Heap} {locs : List Loc} {cells slots : Nat} {Q : State → Prop} {cc : ByteArray} {pc nL : Nat} {ls : Array Slot} {rest : List Value} {Ts : List Cond} {own : String} (S : CallFix p m c cc nL s args Ts own) {ST : hT} {aK aV : Nat → Nat} {z t : Nat} {q : String × Nat × String × List Int32} (hG : hm_G ST aK aV z s s.heap) (ht : ST.1[t]? = some q) (hS : va_S (fun q => z ≤ q) s.heap H locs) {k : Int32} (h0 : ¬ k < 0) (hk : k.toNatClampNeg < q.2.2.2.length) (hdg : decode cc pc = .ok (.baload, 1))
    (kk : W p l e R s m args below meth c H locs cells slots Q (F0 m (pc + 1) ls (.int (q.2.2.2.getD k.toNatClampNeg 0) :: rest))) : W p l e R s m args below meth c H locs cells slots Q (F0 m pc ls (.int k :: .ref (aV t) :: rest)) := by
  obtain ⟨cell, h1, h2, h3, h4, h5, h6, h7⟩ := (hG.1 t q ht).2.2.2.2.kept hS.2.1
  exact W.bald (v := .int (q.2.2.2.getD k.toNatClampNeg 0)) S.1 S.2.1 h1 h2 h3 (fun z => z.elim h0 (fun z => absurd (Nat.lt_of_lt_of_le hk h4) (Nat.not_lt.mpr z))) (h6 _ hk) rfl rfl hdg kk
set_option maxHeartbeats 4000000 in
set_option maxRecDepth 100000 in
theorem c_String_length (l : Launch) {D : va_G} {dA : Nat → ClassId} {aK aV : Nat → Nat} {z : Nat} {t : Nat} {M : hM} {Z : Int32 × hM} (hf : (f_String_length t).1 M = some Z) : Met l y_String_length w_String_length ({ frames := 1, cells := Z.2.2.1 - M.2.1, slots := Z.2.2.2 - M.2.2, locals := 20 }) (va_Pc [.ref (aK t)] (hm_B D dA hCl (hTy dA) sT aK aV z M)) (hm_Q D dA hCl (hTy dA) sT aK aV z (some (.int Z.1)) Z.2) (Z.2.2.1 - M.2.1) (Z.2.2.2 - M.2.2) (fun q => z ≤ q) := by
  refine Met.ofW (cc := b_String_length) (maxL := 1) (ret := (some .int)) (by decide) rfl ?_
  intro p e s m args below meth c s₁ B hml hv
  obtain ⟨hav, hB⟩ := hv
  have S : CallFix p m c b_String_length 1 s args w_String_length "java/lang/String" := ⟨B.exec, B.bytes, hml, findClass_of_methodNamed B.named, atoms_spec (ws := w_String_length) B.pre⟩
  have hr : meth.sig.returnType = (some .int) := B.returns
  have hlocks := B.notSynchronized
  have hK := hB.2.2.1
  have hG := hB.2.2.2.2.2
  have hI := hm_I.start hB
  rw [← hB.2.1]
  generalize M.2.2 = k1 at hI ⊢
  refine W.eq (g2 := F0 m 0 ((lg_sl ([.ref (aK t)]) ++ List.replicate (1 - (lg_sl ([.ref (aK t)])).length) Slot.unset).toArray) []) (by rw [hav]; exact lg_entry_eq m ([.ref (aK t)]) 1) ?_
  have hl := lv_entry ([.ref (aK t)]) (n := 1) (Nat.le_of_ble_eq_true rfl)
  generalize (lg_sl ([.ref (aK t)]) ++ List.replicate (1 - (lg_sl ([.ref (aK t)])).length) Slot.unset).toArray = ls at hl ⊢
  simp only [lvA_nil, lvA_i, lvA_l, lvA_a, lvA_r, Nat.zero_add, Nat.reduceAdd] at hl
  have hret : ∀ (v : Int32) (M : hM) (H : Heap) (locs : List Loc) (cells slots : Nat) (ls : Array Slot) (pc : Nat), decode b_String_length pc = .ok (.ireturn, 1) → (b_ret v).1 M = some Z → hm_I D dA hCl z k1 s M H locs cells slots → W p l e (headSpec w_String_length { frames := 1, cells := Z.2.2.1 - s.heap.size, slots := Z.2.2.2 - k1, locals := 20 }).room s m args below meth c H locs cells slots (MQ below (hm_Q D dA hCl (hTy dA) sT aK aV z (some (.int Z.1)) Z.2) args s (Z.2.2.1 - s.heap.size) (Z.2.2.2 - k1) (fun q => z ≤ q)) (F0 m pc ls [.int v]) := fun v M H locs cells slots ls pc hdg hf hI => x_reti S hK hG hI hr hlocks hdg hf
  have hR : Z.2.2.1 - s.heap.size ≤ (headSpec w_String_length { frames := 1, cells := Z.2.2.1 - s.heap.size, slots := Z.2.2.2 - k1, locals := 20 }).room.cells ∧ Z.2.2.2 - k1 ≤ (headSpec w_String_length { frames := 1, cells := Z.2.2.1 - s.heap.size, slots := Z.2.2.2 - k1, locals := 20 }).room.slots := ⟨Nat.le_refl _, Nat.le_refl _⟩
  have hRf : 1 ≤ (headSpec w_String_length { frames := 1, cells := Z.2.2.1 - s.heap.size, slots := Z.2.2.2 - k1, locals := 20 }).room.frames ∧ 20 ≤ (headSpec w_String_length { frames := 1, cells := Z.2.2.1 - s.heap.size, slots := Z.2.2.2 - k1, locals := 20 }).room.locals := ⟨Nat.le_refl _, Nat.le_refl _⟩
  generalize (headSpec w_String_length { frames := 1, cells := Z.2.2.1 - s.heap.size, slots := Z.2.2.2 - k1, locals := 20 }).room = R at hret hR hRf ⊢
  generalize (MQ below (hm_Q D dA hCl (hTy dA) sT aK aV z (some (.int Z.1)) Z.2) args s (Z.2.2.1 - s.heap.size) (Z.2.2.2 - k1) (fun q => z ≤ q)) = Q at hret ⊢
  unfold f_String_length b_slen at hf
  by_cases hb : t < sB.length
  · have hf := b_if_t hb hf
    obtain ⟨q, ht, hq⟩ := sB_sT t hb
    have hg : (f_String_coder).1 M = some (0, M) := b_retN_ok (by decide)
    refine lv_aload_n S.1 S.2.1 dj_len_0 rfl (lv_at hl 0 rfl) ?_
    refine vk_getf S.1 S.2.1 (hG.1 t q ht).2.2.2.1 hI.2.2.1 S.2.2.2.1 (S.2.2.2.2 _ (List.mem_cons_of_mem _ wd_1049)) (fun _ h => h) dj_len_1 ?_
    refine x_tlen S hG ht hI.2.2.1 dj_len_4 ?_
    refine lv_aload_n S.1 S.2.1 dj_len_5 rfl (lv_at hl 0 rfl) ?_
    refine x_call hI (hm_mo hg) (va_runV (As := []) (rest := [.int (nI q.2.2.2.length)]) S (c_String_coder l ht hg) (cwV 0 S.2.2.2.2 (gi_V wd_1029 wd_1021 wd_1022 wd_1044 wd_1037) rfl rfl rfl (by decide +kernel) ⟨Nat.le_trans (Nat.le_of_ble_eq_true rfl) hRf.1, Nat.le_trans (Nat.le_of_ble_eq_true rfl) hRf.2⟩) ⟨hm_B.blind, x_recvT hG ht hI.2.2.1, fun U hU hW => ⟨rfl, hm_B.of hK hG hI hU hW⟩⟩ rfl rfl hl.1 rfl (lv_room (Nat.le_of_ble_eq_true rfl)) dj_len_6 (hx_fit hI hR (hm_mo hg) (hm_mo hf))) (fun H locs cells slots hI => ?_)
    refine W.eq (g2 := F0 m 9 ls [.int 0, .int (nI q.2.2.2.length)]) rfl ?_
    refine lv_ishr S.1 S.2.1 dj_len_9 ?_
    refine hret _ _ _ _ _ _ _ _ dj_len_10 ?_ hI
    rw [sc_shr0 (by rw [hq]; exact sB_len t), hq]
    exact hf
  · have hf := b_if_f hb hf
    cases hf
set_option maxHeartbeats 4000000 in
set_option maxRecDepth 100000 in
theorem c_Latin1_charAt (l : Launch) {D : va_G} {dA : Nat → ClassId} {aK aV : Nat → Nat} {z : Nat} {t : Nat} {p1 : Int32} {q : String × Nat × String × List Int32} (ht : sT.1[t]? = some q) (hq : q.2.2.2 = sB.getD t []) {M : hM} {Z : Int32 × hM} (hf : (f_Latin1_charAt t p1).1 M = some Z) : Met l y_Latin1_charAt w_Latin1_charAt ({ frames := 2, cells := Z.2.2.1 - M.2.1, slots := Z.2.2.2 - M.2.2, locals := 43 }) (va_Pc [.ref (aV t), .int p1] (hm_B D dA hCl (hTy dA) sT aK aV z M)) (hm_Q D dA hCl (hTy dA) sT aK aV z (some (.int Z.1)) Z.2) (Z.2.2.1 - M.2.1) (Z.2.2.2 - M.2.2) (fun q => z ≤ q) := by
  refine Met.ofW (cc := b_Latin1_charAt) (maxL := 2) (ret := (some .char)) (by decide) rfl ?_
  intro p e s m args below meth c s₁ B hml hv
  obtain ⟨hav, hB⟩ := hv
  have S : CallFix p m c b_Latin1_charAt 2 s args w_Latin1_charAt "java/lang/StringLatin1" := ⟨B.exec, B.bytes, hml, findClass_of_methodNamed B.named, atoms_spec (ws := w_Latin1_charAt) B.pre⟩
  have hr : meth.sig.returnType = (some .char) := B.returns
  have hlocks := B.notSynchronized
  have hK := hB.2.2.1
  have hG := hB.2.2.2.2.2
  have hI := hm_I.start hB
  rw [← hB.2.1]
  generalize M.2.2 = k1 at hI ⊢
  refine W.eq (g2 := F0 m 0 ((lg_sl ([.ref (aV t), .int p1]) ++ List.replicate (2 - (lg_sl ([.ref (aV t), .int p1])).length) Slot.unset).toArray) []) (by rw [hav]; exact lg_entry_eq m ([.ref (aV t), .int p1]) 2) ?_
  have hl := lv_entry ([.ref (aV t), .int p1]) (n := 2) (Nat.le_of_ble_eq_true rfl)
  generalize (lg_sl ([.ref (aV t), .int p1]) ++ List.replicate (2 - (lg_sl ([.ref (aV t), .int p1])).length) Slot.unset).toArray = ls at hl ⊢
  simp only [lvA_nil, lvA_i, lvA_l, lvA_a, lvA_r, Nat.zero_add, Nat.reduceAdd] at hl
  have hret : ∀ (v : Int32) (M : hM) (H : Heap) (locs : List Loc) (cells slots : Nat) (ls : Array Slot) (pc : Nat), decode b_Latin1_charAt pc = .ok (.ireturn, 1) → (b_retN .char v).1 M = some Z → hm_I D dA hCl z k1 s M H locs cells slots → W p l e (headSpec w_Latin1_charAt { frames := 2, cells := Z.2.2.1 - s.heap.size, slots := Z.2.2.2 - k1, locals := 43 }).room s m args below meth c H locs cells slots (MQ below (hm_Q D dA hCl (hTy dA) sT aK aV z (some (.int Z.1)) Z.2) args s (Z.2.2.1 - s.heap.size) (Z.2.2.2 - k1) (fun q => z ≤ q)) (F0 m pc ls [.int v]) := fun v M H locs cells slots ls pc hdg hf hI => x_retn S hK hG hI hr hlocks hdg hf
  have hR : Z.2.2.1 - s.heap.size ≤ (headSpec w_Latin1_charAt { frames := 2, cells := Z.2.2.1 - s.heap.size, slots := Z.2.2.2 - k1, locals := 43 }).room.cells ∧ Z.2.2.2 - k1 ≤ (headSpec w_Latin1_charAt { frames := 2, cells := Z.2.2.1 - s.heap.size, slots := Z.2.2.2 - k1, locals := 43 }).room.slots := ⟨Nat.le_refl _, Nat.le_refl _⟩
  have hRf : 2 ≤ (headSpec w_Latin1_charAt { frames := 2, cells := Z.2.2.1 - s.heap.size, slots := Z.2.2.2 - k1, locals := 43 }).room.frames ∧ 43 ≤ (headSpec w_Latin1_charAt { frames := 2, cells := Z.2.2.1 - s.heap.size, slots := Z.2.2.2 - k1, locals := 43 }).room.locals := ⟨Nat.le_refl _, Nat.le_refl _⟩
  generalize (headSpec w_Latin1_charAt { frames := 2, cells := Z.2.2.1 - s.heap.size, slots := Z.2.2.2 - k1, locals := 43 }).room = R at hret hR hRf ⊢
  generalize (MQ below (hm_Q D dA hCl (hTy dA) sT aK aV z (some (.int Z.1)) Z.2) args s (Z.2.2.1 - s.heap.size) (Z.2.2.2 - k1) (fun q => z ≤ q)) = Q at hret ⊢
  unfold f_Latin1_charAt b_schr at hf
  obtain ⟨hb, hf⟩ := b_ifn hf
  have h0 : ¬ p1 < 0 := fun z => hb (Or.inr (Or.inl z))
  have h1 : p1.toNatClampNeg < q.2.2.2.length := by rw [hq]; exact Nat.not_le.mp (fun z => hb (Or.inr (Or.inr z)))
  have hL : q.2.2.2.length < 2 ^ 31 := by rw [hq]; exact sB_len t
  have h2 : p1 < nI q.2.2.2.length := by
    obtain ⟨j, hj, rfl⟩ := nI_of h0
    rw [nI_clamp hj] at h1
    exact nI_lt h1 hL
  have hg : (f_String_checkIndex p1 (nI q.2.2.2.length)).1 M = some ((), M) := by unfold f_String_checkIndex; rw [if_neg h0, if_pos h2]; rfl
  refine lv_iload_n S.1 S.2.1 dj_lch_0 rfl (lv_at hl 1 rfl) ?_
  refine lv_aload_n S.1 S.2.1 dj_lch_1 rfl (lv_at hl 0 rfl) ?_
  refine x_tlen S hG ht hI.2.2.1 dj_lch_2 ?_
  refine x_call hI (hm_mo hg) (va_runS (As := [.int p1, .int (nI q.2.2.2.length)]) (rest := []) S (c_String_checkIndex l hg) (va_cwS 2 S.2.2.2.2 (gi_S wd_1032 wd_1035 wd_1044 wd_1042) rfl rfl rfl (by decide +kernel) ⟨Nat.le_trans (Nat.le_of_ble_eq_true rfl) hRf.1, Nat.le_trans (Nat.le_of_ble_eq_true rfl) hRf.2⟩) ⟨hm_B.blind, fun U hU hW => ⟨rfl, hm_B.of hK hG hI hU hW⟩⟩ rfl rfl hl.1 rfl (lv_room (Nat.le_of_ble_eq_true rfl)) dj_lch_3 (hx_fit hI hR (hm_mo hg) (hm_mo hf))) (fun H locs cells slots hI => ?_)
  refine W.eq (g2 := F0 m 6 ls []) rfl ?_
  refine lv_aload_n S.1 S.2.1 dj_lch_6 rfl (lv_at hl 0 rfl) ?_
  refine lv_iload_n S.1 S.2.1 dj_lch_7 rfl (lv_at hl 1 rfl) ?_
  refine x_tald S hG ht hI.2.2.1 h0 h1 dj_lch_8 ?_
  refine lv_sipush (v := 255) S.1 S.2.1 dj_lch_9 (by decide) ?_
  refine lv_iand S.1 S.2.1 dj_lch_12 ?_
  refine lv_i2c S.1 S.2.1 dj_lch_13 (chr_i2c _) ?_
  refine hret _ _ _ _ _ _ _ _ dj_lch_14 ?_ hI
  have e1 : vp_nar .char ((q.2.2.2.getD p1.toNatClampNeg 0) &&& 255) = (q.2.2.2.getD p1.toNatClampNeg 0) &&& 255 := chr_nar _
  rw [b_retN_ok e1, hq]
  exact hf
set_option maxHeartbeats 4000000 in
set_option maxRecDepth 100000 in
theorem c_String_charAt (l : Launch) {D : va_G} {dA : Nat → ClassId} {aK aV : Nat → Nat} {z : Nat} {t : Nat} {p1 : Int32} {M : hM} {Z : Int32 × hM} (hf : (f_String_charAt t p1).1 M = some Z) : Met l y_String_charAt w_String_charAt ({ frames := 3, cells := Z.2.2.1 - M.2.1, slots := Z.2.2.2 - M.2.2, locals := 64 }) (va_Pc [.ref (aK t), .int p1] (hm_B D dA hCl (hTy dA) sT aK aV z M)) (hm_Q D dA hCl (hTy dA) sT aK aV z (some (.int Z.1)) Z.2) (Z.2.2.1 - M.2.1) (Z.2.2.2 - M.2.2) (fun q => z ≤ q) := by
  refine Met.ofW (cc := b_String_charAt) (maxL := 2) (ret := (some .char)) (by decide) rfl ?_
  intro p e s m args below meth c s₁ B hml hv
  obtain ⟨hav, hB⟩ := hv
  have S : CallFix p m c b_String_charAt 2 s args w_String_charAt "java/lang/String" := ⟨B.exec, B.bytes, hml, findClass_of_methodNamed B.named, atoms_spec (ws := w_String_charAt) B.pre⟩
  have hr : meth.sig.returnType = (some .char) := B.returns
  have hlocks := B.notSynchronized
  have hK := hB.2.2.1
  have hG := hB.2.2.2.2.2
  have hI := hm_I.start hB
  rw [← hB.2.1]
  generalize M.2.2 = k1 at hI ⊢
  refine W.eq (g2 := F0 m 0 ((lg_sl ([.ref (aK t), .int p1]) ++ List.replicate (2 - (lg_sl ([.ref (aK t), .int p1])).length) Slot.unset).toArray) []) (by rw [hav]; exact lg_entry_eq m ([.ref (aK t), .int p1]) 2) ?_
  have hl := lv_entry ([.ref (aK t), .int p1]) (n := 2) (Nat.le_of_ble_eq_true rfl)
  generalize (lg_sl ([.ref (aK t), .int p1]) ++ List.replicate (2 - (lg_sl ([.ref (aK t), .int p1])).length) Slot.unset).toArray = ls at hl ⊢
  simp only [lvA_nil, lvA_i, lvA_l, lvA_a, lvA_r, Nat.zero_add, Nat.reduceAdd] at hl
  have hret : ∀ (v : Int32) (M : hM) (H : Heap) (locs : List Loc) (cells slots : Nat) (ls : Array Slot) (pc : Nat), decode b_String_charAt pc = .ok (.ireturn, 1) → (b_retN .char v).1 M = some Z → hm_I D dA hCl z k1 s M H locs cells slots → W p l e (headSpec w_String_charAt { frames := 3, cells := Z.2.2.1 - s.heap.size, slots := Z.2.2.2 - k1, locals := 64 }).room s m args below meth c H locs cells slots (MQ below (hm_Q D dA hCl (hTy dA) sT aK aV z (some (.int Z.1)) Z.2) args s (Z.2.2.1 - s.heap.size) (Z.2.2.2 - k1) (fun q => z ≤ q)) (F0 m pc ls [.int v]) := fun v M H locs cells slots ls pc hdg hf hI => x_retn S hK hG hI hr hlocks hdg hf
  have hR : Z.2.2.1 - s.heap.size ≤ (headSpec w_String_charAt { frames := 3, cells := Z.2.2.1 - s.heap.size, slots := Z.2.2.2 - k1, locals := 64 }).room.cells ∧ Z.2.2.2 - k1 ≤ (headSpec w_String_charAt { frames := 3, cells := Z.2.2.1 - s.heap.size, slots := Z.2.2.2 - k1, locals := 64 }).room.slots := ⟨Nat.le_refl _, Nat.le_refl _⟩
  have hRf : 3 ≤ (headSpec w_String_charAt { frames := 3, cells := Z.2.2.1 - s.heap.size, slots := Z.2.2.2 - k1, locals := 64 }).room.frames ∧ 64 ≤ (headSpec w_String_charAt { frames := 3, cells := Z.2.2.1 - s.heap.size, slots := Z.2.2.2 - k1, locals := 64 }).room.locals := ⟨Nat.le_refl _, Nat.le_refl _⟩
  generalize (headSpec w_String_charAt { frames := 3, cells := Z.2.2.1 - s.heap.size, slots := Z.2.2.2 - k1, locals := 64 }).room = R at hret hR hRf ⊢
  generalize (MQ below (hm_Q D dA hCl (hTy dA) sT aK aV z (some (.int Z.1)) Z.2) args s (Z.2.2.1 - s.heap.size) (Z.2.2.2 - k1) (fun q => z ≤ q)) = Q at hret ⊢
  have hg2 : (f_Latin1_charAt t p1).1 M = some Z := hf
  unfold f_String_charAt b_schr at hf
  obtain ⟨hb, hf⟩ := b_ifn hf
  obtain ⟨q, ht, hq⟩ := sB_sT t (Nat.not_le.mp (fun z => hb (Or.inl z)))
  have hg : (f_String_isLatin1).1 M = some (1, M) := b_retN_ok (by decide)
  refine lv_aload_n S.1 S.2.1 dj_chr_0 rfl (lv_at hl 0 rfl) ?_
  refine x_call hI (hm_mo hg) (va_runV (As := []) (rest := []) S (c_String_isLatin1 l ht hg) (cwV 0 S.2.2.2.2 (gi_V wd_1030 wd_1023 wd_1024 wd_1044 wd_1038) rfl rfl rfl (by decide +kernel) ⟨Nat.le_trans (Nat.le_of_ble_eq_true rfl) hRf.1, Nat.le_trans (Nat.le_of_ble_eq_true rfl) hRf.2⟩) ⟨hm_B.blind, x_recvT hG ht hI.2.2.1, fun U hU hW => ⟨rfl, hm_B.of hK hG hI hU hW⟩⟩ rfl rfl hl.1 rfl (lv_room (Nat.le_of_ble_eq_true rfl)) dj_chr_1 (hx_fit hI hR (hm_mo hg) (hm_mo hf))) (fun H locs cells slots hI => ?_)
  refine W.eq (g2 := F0 m 4 ls [.int 1]) rfl ?_
  refine lv_if_eq (tgt := 16) S.1 S.2.1 dj_chr_4 (by decide) (fun hc => absurd hc (by decide)) (fun hc => ?_)
  refine lv_aload_n S.1 S.2.1 dj_chr_7 rfl (lv_at hl 0 rfl) ?_
  refine vk_getf S.1 S.2.1 (hG.1 t q ht).2.2.2.1 hI.2.2.1 S.2.2.2.1 (S.2.2.2.2 _ (List.mem_cons_of_mem _ wd_1049)) (fun _ h => h) dj_chr_8 ?_
  refine lv_iload_n S.1 S.2.1 dj_chr_11 rfl (lv_at hl 1 rfl) ?_
  refine x_call hI (hm_mo hg2) (va_runS (As := [.ref (aV t), .int p1]) (rest := []) S (c_Latin1_charAt l ht hq hg2) (va_cwS 2 S.2.2.2.2 (gi_S wd_1031 wd_1034 wd_1045 wd_1041) rfl rfl rfl (by decide +kernel) ⟨Nat.le_trans (Nat.le_of_ble_eq_true rfl) hRf.1, Nat.le_trans (Nat.le_of_ble_eq_true rfl) hRf.2⟩) ⟨hm_B.blind, fun U hU hW => ⟨rfl, hm_B.of hK hG hI hU hW⟩⟩ rfl rfl hl.1 rfl (lv_room (Nat.le_of_ble_eq_true rfl)) dj_chr_12 (hx_fit hI hR (hm_mo hg2) hm_le.rf)) (fun H locs cells slots hI => ?_)
  refine W.eq (g2 := F0 m 15 ls [.int Z.1]) rfl ?_
  refine hret _ _ _ _ _ _ _ _ dj_chr_15 ?_ hI
  have eZ : Z = (((sB.getD t []).getD p1.toNatClampNeg 0) &&& 255, M) := (Option.some.inj hf).symm
  subst eZ
  exact b_retN_ok (chr_nar _)
theorem x_slen {p : Program} {l : Launch} {e : Env} {R : Room} {s : State} {m : MethodId} {args : Array Value} {below : List Frame} {meth : Method} {c : Code} {H : Heap} {locs : List Loc} {cells slots : Nat} {Q : State → Prop} {cc : ByteArray} {pc nL : Nat} {ls : Array Slot} {rest : List Value} {own : String} {cd : Cond} {D : va_G} {dA : Nat → ClassId} {aK aV : Nat → Nat} {z k1 : Nat} {M : hM} {α : Type} {Z : α × hM} {t index : Nat}  {K : Int32 → hX α} (S : CallFix p m c cc nL s args (cd :: wsAll) own) (hK : va_K D hCl (hTy dA) s) (hG : hm_G sT aK aV z s s.heap) (hI : hm_I D dA hCl z k1 s M H locs cells slots) (hR : Z.2.2.1 - s.heap.size ≤ R.cells ∧ Z.2.2.2 - k1 ≤ R.slots) (hlink : Cond.methodLink own index y_String_length ∈ wsAll) (hs : ls.size = nL) (hroom : 2 * (F0 m pc ls (.ref (aK t) :: rest)).monitorRoom + (rest.map fun v => v.category).sum ≤ 8) (hRf : 1 + 1 ≤ R.frames ∧ 8 + (1 + 11) + 20 ≤ R.locals) (hdg : decode cc pc = .ok (.invokevirtual index, 3)) (hf : (b_slen sB t K).1 M = some Z)
    (kk : ∀ v : Int32, (K v).1 M = some Z → ∀ (H : Heap) (locs : List Loc) (cells slots : Nat), hm_I D dA hCl z k1 s M H locs cells slots → W p l e R s m args below meth c H locs cells slots Q (F0 m (pc + 3) ls (.int v :: rest))) : W p l e R s m args below meth c H locs cells slots Q (F0 m pc ls (.ref (aK t) :: rest)) := by
  unfold b_slen at hf
  by_cases hb : t < sB.length
  case neg => rw [if_neg hb] at hf; cases hf
  have hf := b_if_t hb hf
  obtain ⟨q, ht, hq⟩ := sB_sT t hb
  have hg : (f_String_length t).1 M = some (nI (sB.getD t []).length, M) := by unfold f_String_length b_slen; rw [if_pos hb]; rfl
  refine x_call hI (hm_mo hg) (va_runV (As := []) (rest := rest) S (c_String_length l hg) (cwV 0 S.2.2.2.2 (gi_V hlink wd_1025 wd_1026 wd_1044 wd_1039) rfl rfl rfl (by decide +kernel) hRf) ⟨hm_B.blind, x_recvT hG ht hI.2.2.1, fun U hU hW => ⟨rfl, hm_B.of hK hG hI hU hW⟩⟩ rfl rfl hs rfl hroom hdg (hx_fit hI hR (hm_mo hg) (hm_mo hf))) (fun H locs cells slots hI => ?_)
  exact kk _ hf H locs cells slots hI
theorem x_schr {p : Program} {l : Launch} {e : Env} {R : Room} {s : State} {m : MethodId} {args : Array Value} {below : List Frame} {meth : Method} {c : Code} {H : Heap} {locs : List Loc} {cells slots : Nat} {Q : State → Prop} {cc : ByteArray} {pc nL : Nat} {ls : Array Slot} {rest : List Value} {own : String} {cd : Cond} {D : va_G} {dA : Nat → ClassId} {aK aV : Nat → Nat} {z k1 : Nat} {M : hM} {α : Type} {Z : α × hM} {t index : Nat} {k : Int32} {K : Int32 → hX α} (S : CallFix p m c cc nL s args (cd :: wsAll) own) (hK : va_K D hCl (hTy dA) s) (hG : hm_G sT aK aV z s s.heap) (hI : hm_I D dA hCl z k1 s M H locs cells slots) (hR : Z.2.2.1 - s.heap.size ≤ R.cells ∧ Z.2.2.2 - k1 ≤ R.slots) (hlink : Cond.methodLink own index y_String_charAt ∈ wsAll) (hs : ls.size = nL) (hroom : 2 * (F0 m pc ls (.int k :: .ref (aK t) :: rest)).monitorRoom + (rest.map fun v => v.category).sum ≤ 8) (hRf : 3 + 1 ≤ R.frames ∧ 8 + (2 + 11) + 64 ≤ R.locals) (hdg : decode cc pc = .ok (.invokevirtual index, 3)) (hf : (b_schr sB t k K).1 M = some Z)
    (kk : ∀ v : Int32, (K v).1 M = some Z → ∀ (H : Heap) (locs : List Loc) (cells slots : Nat), hm_I D dA hCl z k1 s M H locs cells slots → W p l e R s m args below meth c H locs cells slots Q (F0 m (pc + 3) ls (.int v :: rest))) : W p l e R s m args below meth c H locs cells slots Q (F0 m pc ls (.int k :: .ref (aK t) :: rest)) := by
  unfold b_schr at hf
  obtain ⟨hb, hf⟩ := b_ifn hf
  obtain ⟨q, ht, hq⟩ := sB_sT t (Nat.not_le.mp (fun z => hb (Or.inl z)))
  have hg : (f_String_charAt t k).1 M = some (((sB.getD t []).getD k.toNatClampNeg 0) &&& 255, M) := by unfold f_String_charAt b_schr; rw [if_neg hb]; rfl
  refine x_call hI (hm_mo hg) (va_runV (As := [.int k]) (rest := rest) S (c_String_charAt l hg) (cwV 1 S.2.2.2.2 (gi_V hlink wd_1027 wd_1028 wd_1044 wd_1040) rfl rfl rfl (by decide +kernel) hRf) ⟨hm_B.blind, x_recvT hG ht hI.2.2.1, fun U hU hW => ⟨rfl, hm_B.of hK hG hI hU hW⟩⟩ rfl rfl hs rfl hroom hdg (hx_fit hI hR (hm_mo hg) (hm_mo hf))) (fun H locs cells slots hI => ?_)
  exact kk _ hf H locs cells slots hI
