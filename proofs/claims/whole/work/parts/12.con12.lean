set_option maxHeartbeats 4000000 in
set_option maxRecDepth 100000 in
theorem c_MD_exchange (l : Launch) {D : va_G} {dA : Nat → ClassId} {aK aV : Nat → Nat} {z : Nat} {N : Nat} {h0 : Nat} {p0 : Int32} {p1 : Int32} {M : hM} {Z : Unit × hM} (hf : (f_MD_exchange N h0 p0 p1).1 M = some Z) : Met l y_MD_exchange w_MD_exchange ({ frames := 0, cells := Z.2.2.1 - M.2.1, slots := Z.2.2.2 - M.2.2, locals := 0 }) (va_Pc [.ref h0, .int p0, .int p1] (hm_B D dA hCl (hTy dA) sT aK aV z M)) (hm_Q D dA hCl (hTy dA) sT aK aV z none Z.2) (Z.2.2.1 - M.2.1) (Z.2.2.2 - M.2.2) (fun q => z ≤ q) := by
  refine Met.ofW (cc := b_MD_exchange) (maxL := 15) (ret := none) (by decide) rfl ?_
  intro p e s m args below meth c s₁ B hml hv
  obtain ⟨hav, hB⟩ := hv
  have S : CallFix p m c b_MD_exchange 15 s args w_MD_exchange R_MD := ⟨B.exec, B.bytes, hml, findClass_of_methodNamed B.named, atoms_spec (ws := w_MD_exchange) B.pre⟩
  have hr : meth.sig.returnType = none := B.returns
  have hlocks := B.notSynchronized
  have hK := hB.2.2.1
  have hG := hB.2.2.2.2.2
  have hI := hm_I.start hB
  rw [← hB.2.1]
  generalize M.2.2 = k1 at hI ⊢
  refine W.eq (g2 := F0 m 0 ((lg_sl ([.ref h0, .int p0, .int p1]) ++ List.replicate (15 - (lg_sl ([.ref h0, .int p0, .int p1])).length) Slot.unset).toArray) []) (by rw [hav]; exact lg_entry_eq m ([.ref h0, .int p0, .int p1]) 15) ?_
  have hl := lv_entry ([.ref h0, .int p0, .int p1]) (n := 15) (Nat.le_of_ble_eq_true rfl)
  generalize (lg_sl ([.ref h0, .int p0, .int p1]) ++ List.replicate (15 - (lg_sl ([.ref h0, .int p0, .int p1])).length) Slot.unset).toArray = ls at hl ⊢
  simp only [lvA_nil, lvA_i, lvA_l, lvA_a, lvA_r, Nat.zero_add, Nat.reduceAdd] at hl
  have hret : ∀ (M : hM) (H : Heap) (locs : List Loc) (cells slots : Nat) (ls : Array Slot) (pc : Nat), decode b_MD_exchange pc = .ok (.return_, 1) → (b_ret ()).1 M = some Z → hm_I D dA hCl z k1 s M H locs cells slots → W p l e (headSpec w_MD_exchange { frames := 0, cells := Z.2.2.1 - s.heap.size, slots := Z.2.2.2 - k1, locals := 0 }).room s m args below meth c H locs cells slots (MQ below (hm_Q D dA hCl (hTy dA) sT aK aV z none Z.2) args s (Z.2.2.1 - s.heap.size) (Z.2.2.2 - k1) (fun q => z ≤ q)) (F0 m pc ls []) := fun M H locs cells slots ls pc hdg hf hI => x_retv S hK hG hI hr hlocks hdg hf
  have hR : Z.2.2.1 - s.heap.size ≤ (headSpec w_MD_exchange { frames := 0, cells := Z.2.2.1 - s.heap.size, slots := Z.2.2.2 - k1, locals := 0 }).room.cells ∧ Z.2.2.2 - k1 ≤ (headSpec w_MD_exchange { frames := 0, cells := Z.2.2.1 - s.heap.size, slots := Z.2.2.2 - k1, locals := 0 }).room.slots := ⟨Nat.le_refl _, Nat.le_refl _⟩
  have hRf : 0 ≤ (headSpec w_MD_exchange { frames := 0, cells := Z.2.2.1 - s.heap.size, slots := Z.2.2.2 - k1, locals := 0 }).room.frames ∧ 0 ≤ (headSpec w_MD_exchange { frames := 0, cells := Z.2.2.1 - s.heap.size, slots := Z.2.2.2 - k1, locals := 0 }).room.locals := ⟨Nat.le_refl _, Nat.le_refl _⟩
  generalize (headSpec w_MD_exchange { frames := 0, cells := Z.2.2.1 - s.heap.size, slots := Z.2.2.2 - k1, locals := 0 }).room = R at hret hR hRf ⊢
  generalize (MQ below (hm_Q D dA hCl (hTy dA) sT aK aV z none Z.2) args s (Z.2.2.1 - s.heap.size) (Z.2.2.2 - k1) (fun q => z ≤ q)) = Q at hret ⊢
  rw [e_MD_exchange] at hf
  have w197 : ∀ (n : Nat) (x12 : Int32) (M : hM) (H : Heap) (locs : List Loc) (ls : Array Slot) (cells slots : Nat), (f_MD_exchange_197 N h0 p0 p1  n x12).1 M = some Z → hm_I D dA hCl z k1 s M H locs cells slots → lv_has ls 15 [(0, .ref h0), (1, .int p0), (2, .int p1), (12, .int x12)] → W p l e R s m args below meth c H locs cells slots Q (F0 m 197 ls []) := by
    intro n
    induction n with
    | zero => intro x12 M H locs ls cells slots hf hI hl; cases hf
    | succ n197 ih197 =>
      intro x12 M H locs ls cells slots hf hI hl
      rw [e_MD_exchange_197] at hf
      refine lv_iload S.1 S.2.1 d_MD_exchange_197 (lv_at hl 3 rfl) ?_
      refine lv_bipush (v := 20) S.1 S.2.1 d_MD_exchange_199 (by decide) ?_
      refine lv_icmp_ge (tgt := 314) S.1 S.2.1 d_MD_exchange_201 (by decide) (fun hc => ?_) (fun hc => ?_)
      · have hf := b_if_t hc hf
        exact hret _ _ _ _ _ _ _ d_MD_exchange_314 hf hI
      · have hf := b_if_f hc hf
        refine lv_aload_n S.1 S.2.1 d_MD_exchange_204 rfl (lv_at hl 0 rfl) ?_
        refine x_getR (ci := 1) (k := 23) S hK hI (fun w h => List.mem_cons_of_mem _ (i_MD w h)) rfl (by decide) (List.mem_cons_of_mem _ wd_544) rfl d_MD_exchange_205 hf (fun r1 hf => ?_)
        refine lv_bipush (v := 20) S.1 S.2.1 d_MD_exchange_208 (by decide) ?_
        refine lv_iload_n S.1 S.2.1 d_MD_exchange_210 rfl (lv_at hl 1 rfl) ?_
        refine lv_imul S.1 S.2.1 d_MD_exchange_211 ?_
        refine lv_iload S.1 S.2.1 d_MD_exchange_212 (lv_at hl 3 rfl) ?_
        refine lv_iadd S.1 S.2.1 d_MD_exchange_214 ?_
        obtain ⟨a2, ea2, hg⟩ := b_nn_inv hf
        have hI0 := hI
        have hl0 := hl
        clear hf hI hl
        subst ea2
        have hf := hg
        have hI := hI0
        have hl := hl0
        clear hg hI0 hl0
        refine x_bald (t := 6) S hK hI rfl d_MD_exchange_215 hf (fun v3 hf => ?_)
        refine x_istore (lv2 := [(0, .ref h0), (1, .int p0), (2, .int p1), (12, .int x12)]) S d_MD_exchange_216 hl (by decide) [0, 1, 2, 3] rfl ⟨⟨(by decide : (0 : Nat) ≠ 13), fun h => absurd (show (0 : Nat) + 1 = 13 from h) (by decide)⟩, ⟨⟨(by decide : (1 : Nat) ≠ 13), fun h => absurd (show (1 : Nat) + 1 = 13 from h) (by decide)⟩, ⟨⟨(by decide : (2 : Nat) ≠ 13), fun h => absurd (show (2 : Nat) + 1 = 13 from h) (by decide)⟩, ⟨⟨(by decide : (12 : Nat) ≠ 13), fun _ => rfl⟩, trivial⟩⟩⟩⟩ (fun ls hl => ?_)
        refine lv_aload_n S.1 S.2.1 d_MD_exchange_218 rfl (lv_at hl 1 rfl) ?_
        refine x_getR (ci := 1) (k := 23) S hK hI (fun w h => List.mem_cons_of_mem _ (i_MD w h)) rfl (by decide) (List.mem_cons_of_mem _ wd_544) rfl d_MD_exchange_219 hf (fun r4 hf => ?_)
        refine lv_bipush (v := 20) S.1 S.2.1 d_MD_exchange_222 (by decide) ?_
        refine lv_iload_n S.1 S.2.1 d_MD_exchange_224 rfl (lv_at hl 2 rfl) ?_
        refine lv_imul S.1 S.2.1 d_MD_exchange_225 ?_
        refine lv_iload S.1 S.2.1 d_MD_exchange_226 (lv_at hl 4 rfl) ?_
        refine lv_iadd S.1 S.2.1 d_MD_exchange_228 ?_
        refine lv_aload_n S.1 S.2.1 d_MD_exchange_229 rfl (lv_at hl 1 rfl) ?_
        refine x_getR (ci := 1) (k := 23) S hK hI (fun w h => List.mem_cons_of_mem _ (i_MD w h)) rfl (by decide) (List.mem_cons_of_mem _ wd_544) rfl d_MD_exchange_230 hf (fun r5 hf => ?_)
        refine lv_bipush (v := 20) S.1 S.2.1 d_MD_exchange_233 (by decide) ?_
        refine lv_iload_n S.1 S.2.1 d_MD_exchange_235 rfl (lv_at hl 3 rfl) ?_
        refine lv_imul S.1 S.2.1 d_MD_exchange_236 ?_
        refine lv_iload S.1 S.2.1 d_MD_exchange_237 (lv_at hl 4 rfl) ?_
        refine lv_iadd S.1 S.2.1 d_MD_exchange_239 ?_
        obtain ⟨a6, ea6, hg⟩ := b_nn_inv hf
        have hI0 := hI
        have hl0 := hl
        clear hf hI hl
        subst ea6
        have hf := hg
        have hI := hI0
        have hl := hl0
        clear hg hI0 hl0
        refine x_bald (t := 6) S hK hI rfl d_MD_exchange_240 hf (fun v7 hf => ?_)
        obtain ⟨a8, ea8, hg⟩ := b_nn_inv hf
        have hI0 := hI
        have hl0 := hl
        clear hf hI hl
        subst ea8
        have hf := hg
        have hI := hI0
        have hl := hl0
        clear hg hI0 hl0
        refine x_bast (t := 6) S hK hI rfl d_MD_exchange_241 hf (fun M H locs hf hI => ?_)
        refine lv_aload_n S.1 S.2.1 d_MD_exchange_242 rfl (lv_at hl 1 rfl) ?_
        refine x_getR (ci := 1) (k := 23) S hK hI (fun w h => List.mem_cons_of_mem _ (i_MD w h)) rfl (by decide) (List.mem_cons_of_mem _ wd_544) rfl d_MD_exchange_243 hf (fun r9 hf => ?_)
        refine lv_bipush (v := 20) S.1 S.2.1 d_MD_exchange_246 (by decide) ?_
        refine lv_iload_n S.1 S.2.1 d_MD_exchange_248 rfl (lv_at hl 3 rfl) ?_
        refine lv_imul S.1 S.2.1 d_MD_exchange_249 ?_
        refine lv_iload S.1 S.2.1 d_MD_exchange_250 (lv_at hl 4 rfl) ?_
        refine lv_iadd S.1 S.2.1 d_MD_exchange_252 ?_
        refine lv_iload S.1 S.2.1 d_MD_exchange_253 (lv_at hl 0 rfl) ?_
        obtain ⟨a10, ea10, hg⟩ := b_nn_inv hf
        have hI0 := hI
        have hl0 := hl
        clear hf hI hl
        subst ea10
        have hf := hg
        have hI := hI0
        have hl := hl0
        clear hg hI0 hl0
        refine x_bast (t := 6) S hK hI rfl d_MD_exchange_255 hf (fun M H locs hf hI => ?_)
        refine lv_aload_n S.1 S.2.1 d_MD_exchange_256 rfl (lv_at hl 1 rfl) ?_
        refine x_getR (ci := 1) (k := 24) S hK hI (fun w h => List.mem_cons_of_mem _ (i_MD w h)) rfl (by decide) (List.mem_cons_of_mem _ wd_545) rfl d_MD_exchange_257 hf (fun r11 hf => ?_)
        refine lv_bipush (v := 20) S.1 S.2.1 d_MD_exchange_260 (by decide) ?_
        refine lv_iload_n S.1 S.2.1 d_MD_exchange_262 rfl (lv_at hl 2 rfl) ?_
        refine lv_imul S.1 S.2.1 d_MD_exchange_263 ?_
        refine lv_iload S.1 S.2.1 d_MD_exchange_264 (lv_at hl 4 rfl) ?_
        refine lv_iadd S.1 S.2.1 d_MD_exchange_266 ?_
        obtain ⟨a12, ea12, hg⟩ := b_nn_inv hf
        have hI0 := hI
        have hl0 := hl
        clear hf hI hl
        subst ea12
        have hf := hg
        have hI := hI0
        have hl := hl0
        clear hg hI0 hl0
        refine x_bald (t := 6) S hK hI rfl d_MD_exchange_267 hf (fun v13 hf => ?_)
        refine x_istore (lv2 := [(13, .int v3), (0, .ref h0), (1, .int p0), (2, .int p1), (12, .int x12)]) S d_MD_exchange_268 hl (by decide) [0, 1, 2, 3, 4] rfl ⟨⟨(by decide : (13 : Nat) ≠ 14), fun _ => rfl⟩, ⟨⟨(by decide : (0 : Nat) ≠ 14), fun h => absurd (show (0 : Nat) + 1 = 14 from h) (by decide)⟩, ⟨⟨(by decide : (1 : Nat) ≠ 14), fun h => absurd (show (1 : Nat) + 1 = 14 from h) (by decide)⟩, ⟨⟨(by decide : (2 : Nat) ≠ 14), fun h => absurd (show (2 : Nat) + 1 = 14 from h) (by decide)⟩, ⟨⟨(by decide : (12 : Nat) ≠ 14), fun h => absurd (show (12 : Nat) + 1 = 14 from h) (by decide)⟩, trivial⟩⟩⟩⟩⟩ (fun ls hl => ?_)
        refine lv_aload_n S.1 S.2.1 d_MD_exchange_270 rfl (lv_at hl 2 rfl) ?_
        refine x_getR (ci := 1) (k := 24) S hK hI (fun w h => List.mem_cons_of_mem _ (i_MD w h)) rfl (by decide) (List.mem_cons_of_mem _ wd_545) rfl d_MD_exchange_271 hf (fun r14 hf => ?_)
        refine lv_bipush (v := 20) S.1 S.2.1 d_MD_exchange_274 (by decide) ?_
        refine lv_iload_n S.1 S.2.1 d_MD_exchange_276 rfl (lv_at hl 3 rfl) ?_
        refine lv_imul S.1 S.2.1 d_MD_exchange_277 ?_
        refine lv_iload S.1 S.2.1 d_MD_exchange_278 (lv_at hl 5 rfl) ?_
        refine lv_iadd S.1 S.2.1 d_MD_exchange_280 ?_
        refine lv_aload_n S.1 S.2.1 d_MD_exchange_281 rfl (lv_at hl 2 rfl) ?_
        refine x_getR (ci := 1) (k := 24) S hK hI (fun w h => List.mem_cons_of_mem _ (i_MD w h)) rfl (by decide) (List.mem_cons_of_mem _ wd_545) rfl d_MD_exchange_282 hf (fun r15 hf => ?_)
        refine lv_bipush (v := 20) S.1 S.2.1 d_MD_exchange_285 (by decide) ?_
        refine lv_iload_n S.1 S.2.1 d_MD_exchange_287 rfl (lv_at hl 4 rfl) ?_
        refine lv_imul S.1 S.2.1 d_MD_exchange_288 ?_
        refine lv_iload S.1 S.2.1 d_MD_exchange_289 (lv_at hl 5 rfl) ?_
        refine lv_iadd S.1 S.2.1 d_MD_exchange_291 ?_
        obtain ⟨a16, ea16, hg⟩ := b_nn_inv hf
        have hI0 := hI
        have hl0 := hl
        clear hf hI hl
        subst ea16
        have hf := hg
        have hI := hI0
        have hl := hl0
        clear hg hI0 hl0
        refine x_bald (t := 6) S hK hI rfl d_MD_exchange_292 hf (fun v17 hf => ?_)
        obtain ⟨a18, ea18, hg⟩ := b_nn_inv hf
        have hI0 := hI
        have hl0 := hl
        clear hf hI hl
        subst ea18
        have hf := hg
        have hI := hI0
        have hl := hl0
        clear hg hI0 hl0
        refine x_bast (t := 6) S hK hI rfl d_MD_exchange_293 hf (fun M H locs hf hI => ?_)
        refine lv_aload_n S.1 S.2.1 d_MD_exchange_294 rfl (lv_at hl 2 rfl) ?_
        refine x_getR (ci := 1) (k := 24) S hK hI (fun w h => List.mem_cons_of_mem _ (i_MD w h)) rfl (by decide) (List.mem_cons_of_mem _ wd_545) rfl d_MD_exchange_295 hf (fun r19 hf => ?_)
        refine lv_bipush (v := 20) S.1 S.2.1 d_MD_exchange_298 (by decide) ?_
        refine lv_iload_n S.1 S.2.1 d_MD_exchange_300 rfl (lv_at hl 4 rfl) ?_
        refine lv_imul S.1 S.2.1 d_MD_exchange_301 ?_
        refine lv_iload S.1 S.2.1 d_MD_exchange_302 (lv_at hl 5 rfl) ?_
        refine lv_iadd S.1 S.2.1 d_MD_exchange_304 ?_
        refine lv_iload S.1 S.2.1 d_MD_exchange_305 (lv_at hl 0 rfl) ?_
        obtain ⟨a20, ea20, hg⟩ := b_nn_inv hf
        have hI0 := hI
        have hl0 := hl
        clear hf hI hl
        subst ea20
        have hf := hg
        have hI := hI0
        have hl := hl0
        clear hg hI0 hl0
        refine x_bast (t := 6) S hK hI rfl d_MD_exchange_307 hf (fun M H locs hf hI => ?_)
        refine x_iinc (v := 1) (lv2 := [(14, .int v13), (13, .int v3), (0, .ref h0), (1, .int p0), (2, .int p1)]) S d_MD_exchange_308 hl 5 rfl (by decide) (by decide) [0, 1, 2, 3, 4] rfl ⟨⟨(by decide : (14 : Nat) ≠ 12), fun h => absurd (show (14 : Nat) + 1 = 12 from h) (by decide)⟩, ⟨⟨(by decide : (13 : Nat) ≠ 12), fun h => absurd (show (13 : Nat) + 1 = 12 from h) (by decide)⟩, ⟨⟨(by decide : (0 : Nat) ≠ 12), fun h => absurd (show (0 : Nat) + 1 = 12 from h) (by decide)⟩, ⟨⟨(by decide : (1 : Nat) ≠ 12), fun h => absurd (show (1 : Nat) + 1 = 12 from h) (by decide)⟩, ⟨⟨(by decide : (2 : Nat) ≠ 12), fun h => absurd (show (2 : Nat) + 1 = 12 from h) (by decide)⟩, trivial⟩⟩⟩⟩⟩ (fun ls hl => ?_)
        refine lv_goto (tgt := 197) S.1 S.2.1 d_MD_exchange_311 (by decide) ?_
        exact ih197 (x12 + 1) _ _ _ _ _ _ hf hI (lv_sub hl [3, 4, 5, 0] rfl)
  refine lv_aload_n S.1 S.2.1 d_MD_exchange_0 rfl (lv_at hl 0 rfl) ?_
  refine x_getR (ci := 1) (k := 19) S hK hI (fun w h => List.mem_cons_of_mem _ (i_MD w h)) rfl (by decide) (List.mem_cons_of_mem _ wd_539) rfl d_MD_exchange_1 hf (fun r21 hf => ?_)
  refine lv_iload_n S.1 S.2.1 d_MD_exchange_4 rfl (lv_at hl 1 rfl) ?_
  obtain ⟨a22, ea22, hg⟩ := b_nn_inv hf
  have hI0 := hI
  have hl0 := hl
  clear hf hI hl
  subst ea22
  have hf := hg
  have hI := hI0
  have hl := hl0
  clear hg hI0 hl0
  refine x_bald (t := 6) S hK hI rfl d_MD_exchange_5 hf (fun v23 hf => ?_)
  refine x_istore_n (lv2 := [(0, .ref h0), (1, .int p0), (2, .int p1)]) S d_MD_exchange_6 rfl hl (by decide) [0, 1, 2] rfl ⟨⟨(by decide : (0 : Nat) ≠ 3), fun h => absurd (show (0 : Nat) + 1 = 3 from h) (by decide)⟩, ⟨⟨(by decide : (1 : Nat) ≠ 3), fun h => absurd (show (1 : Nat) + 1 = 3 from h) (by decide)⟩, ⟨⟨(by decide : (2 : Nat) ≠ 3), fun _ => rfl⟩, trivial⟩⟩⟩ (fun ls hl => ?_)
  refine lv_aload_n S.1 S.2.1 d_MD_exchange_7 rfl (lv_at hl 1 rfl) ?_
  refine x_getR (ci := 1) (k := 19) S hK hI (fun w h => List.mem_cons_of_mem _ (i_MD w h)) rfl (by decide) (List.mem_cons_of_mem _ wd_539) rfl d_MD_exchange_8 hf (fun r24 hf => ?_)
  refine lv_iload_n S.1 S.2.1 d_MD_exchange_11 rfl (lv_at hl 2 rfl) ?_
  refine lv_aload_n S.1 S.2.1 d_MD_exchange_12 rfl (lv_at hl 1 rfl) ?_
  refine x_getR (ci := 1) (k := 19) S hK hI (fun w h => List.mem_cons_of_mem _ (i_MD w h)) rfl (by decide) (List.mem_cons_of_mem _ wd_539) rfl d_MD_exchange_13 hf (fun r25 hf => ?_)
  refine lv_iload_n S.1 S.2.1 d_MD_exchange_16 rfl (lv_at hl 3 rfl) ?_
  obtain ⟨a26, ea26, hg⟩ := b_nn_inv hf
  have hI0 := hI
  have hl0 := hl
  clear hf hI hl
  subst ea26
  have hf := hg
  have hI := hI0
  have hl := hl0
  clear hg hI0 hl0
  refine x_bald (t := 6) S hK hI rfl d_MD_exchange_17 hf (fun v27 hf => ?_)
  obtain ⟨a28, ea28, hg⟩ := b_nn_inv hf
  have hI0 := hI
  have hl0 := hl
  clear hf hI hl
  subst ea28
  have hf := hg
  have hI := hI0
  have hl := hl0
  clear hg hI0 hl0
  refine x_bast (t := 6) S hK hI rfl d_MD_exchange_18 hf (fun M H locs hf hI => ?_)
  refine lv_aload_n S.1 S.2.1 d_MD_exchange_19 rfl (lv_at hl 1 rfl) ?_
  refine x_getR (ci := 1) (k := 19) S hK hI (fun w h => List.mem_cons_of_mem _ (i_MD w h)) rfl (by decide) (List.mem_cons_of_mem _ wd_539) rfl d_MD_exchange_20 hf (fun r29 hf => ?_)
  refine lv_iload_n S.1 S.2.1 d_MD_exchange_23 rfl (lv_at hl 3 rfl) ?_
  refine lv_iload_n S.1 S.2.1 d_MD_exchange_24 rfl (lv_at hl 0 rfl) ?_
  obtain ⟨a30, ea30, hg⟩ := b_nn_inv hf
  have hI0 := hI
  have hl0 := hl
  clear hf hI hl
  subst ea30
  have hf := hg
  have hI := hI0
  have hl := hl0
  clear hg hI0 hl0
  refine x_bast (t := 6) S hK hI rfl d_MD_exchange_25 hf (fun M H locs hf hI => ?_)
  refine lv_aload_n S.1 S.2.1 d_MD_exchange_26 rfl (lv_at hl 1 rfl) ?_
  refine x_getR (ci := 1) (k := 20) S hK hI (fun w h => List.mem_cons_of_mem _ (i_MD w h)) rfl (by decide) (List.mem_cons_of_mem _ wd_540) rfl d_MD_exchange_27 hf (fun r31 hf => ?_)
  refine lv_iload_n S.1 S.2.1 d_MD_exchange_30 rfl (lv_at hl 2 rfl) ?_
  obtain ⟨a32, ea32, hg⟩ := b_nn_inv hf
  have hI0 := hI
  have hl0 := hl
  clear hf hI hl
  subst ea32
  have hf := hg
  have hI := hI0
  have hl := hl0
  clear hg hI0 hl0
  refine x_iald (t := 2) S hK hI rfl d_MD_exchange_31 hf (fun v33 hf => ?_)
  refine x_istore (lv2 := [(3, .int v23), (0, .ref h0), (1, .int p0), (2, .int p1)]) S d_MD_exchange_32 hl (by decide) [0, 1, 2, 3] rfl ⟨⟨(by decide : (3 : Nat) ≠ 4), fun _ => rfl⟩, ⟨⟨(by decide : (0 : Nat) ≠ 4), fun h => absurd (show (0 : Nat) + 1 = 4 from h) (by decide)⟩, ⟨⟨(by decide : (1 : Nat) ≠ 4), fun h => absurd (show (1 : Nat) + 1 = 4 from h) (by decide)⟩, ⟨⟨(by decide : (2 : Nat) ≠ 4), fun h => absurd (show (2 : Nat) + 1 = 4 from h) (by decide)⟩, trivial⟩⟩⟩⟩ (fun ls hl => ?_)
  refine lv_aload_n S.1 S.2.1 d_MD_exchange_34 rfl (lv_at hl 2 rfl) ?_
  refine x_getR (ci := 1) (k := 20) S hK hI (fun w h => List.mem_cons_of_mem _ (i_MD w h)) rfl (by decide) (List.mem_cons_of_mem _ wd_540) rfl d_MD_exchange_35 hf (fun r34 hf => ?_)
  refine lv_iload_n S.1 S.2.1 d_MD_exchange_38 rfl (lv_at hl 3 rfl) ?_
  refine lv_aload_n S.1 S.2.1 d_MD_exchange_39 rfl (lv_at hl 2 rfl) ?_
  refine x_getR (ci := 1) (k := 20) S hK hI (fun w h => List.mem_cons_of_mem _ (i_MD w h)) rfl (by decide) (List.mem_cons_of_mem _ wd_540) rfl d_MD_exchange_40 hf (fun r35 hf => ?_)
  refine lv_iload_n S.1 S.2.1 d_MD_exchange_43 rfl (lv_at hl 4 rfl) ?_
  obtain ⟨a36, ea36, hg⟩ := b_nn_inv hf
  have hI0 := hI
  have hl0 := hl
  clear hf hI hl
  subst ea36
  have hf := hg
  have hI := hI0
  have hl := hl0
  clear hg hI0 hl0
  refine x_iald (t := 2) S hK hI rfl d_MD_exchange_44 hf (fun v37 hf => ?_)
  obtain ⟨a38, ea38, hg⟩ := b_nn_inv hf
  have hI0 := hI
  have hl0 := hl
  clear hf hI hl
  subst ea38
  have hf := hg
  have hI := hI0
  have hl := hl0
  clear hg hI0 hl0
  refine x_iast (t := 2) S hK hI rfl d_MD_exchange_45 hf (fun M H locs hf hI => ?_)
  refine lv_aload_n S.1 S.2.1 d_MD_exchange_46 rfl (lv_at hl 2 rfl) ?_
  refine x_getR (ci := 1) (k := 20) S hK hI (fun w h => List.mem_cons_of_mem _ (i_MD w h)) rfl (by decide) (List.mem_cons_of_mem _ wd_540) rfl d_MD_exchange_47 hf (fun r39 hf => ?_)
  refine lv_iload_n S.1 S.2.1 d_MD_exchange_50 rfl (lv_at hl 4 rfl) ?_
  refine lv_iload S.1 S.2.1 d_MD_exchange_51 (lv_at hl 0 rfl) ?_
  obtain ⟨a40, ea40, hg⟩ := b_nn_inv hf
  have hI0 := hI
  have hl0 := hl
  clear hf hI hl
  subst ea40
  have hf := hg
  have hI := hI0
  have hl := hl0
  clear hg hI0 hl0
  refine x_iast (t := 2) S hK hI rfl d_MD_exchange_53 hf (fun M H locs hf hI => ?_)
  refine lv_aload_n S.1 S.2.1 d_MD_exchange_54 rfl (lv_at hl 2 rfl) ?_
  refine x_getR (ci := 1) (k := 21) S hK hI (fun w h => List.mem_cons_of_mem _ (i_MD w h)) rfl (by decide) (List.mem_cons_of_mem _ wd_541) rfl d_MD_exchange_55 hf (fun r41 hf => ?_)
  refine lv_iload_n S.1 S.2.1 d_MD_exchange_58 rfl (lv_at hl 3 rfl) ?_
  obtain ⟨a42, ea42, hg⟩ := b_nn_inv hf
  have hI0 := hI
  have hl0 := hl
  clear hf hI hl
  subst ea42
  have hf := hg
  have hI := hI0
  have hl := hl0
  clear hg hI0 hl0
  refine x_iald (t := 2) S hK hI rfl d_MD_exchange_59 hf (fun v43 hf => ?_)
  refine x_istore (lv2 := [(4, .int v33), (3, .int v23), (0, .ref h0), (1, .int p0), (2, .int p1)]) S d_MD_exchange_60 hl (by decide) [0, 1, 2, 3, 4] rfl ⟨⟨(by decide : (4 : Nat) ≠ 5), fun _ => rfl⟩, ⟨⟨(by decide : (3 : Nat) ≠ 5), fun h => absurd (show (3 : Nat) + 1 = 5 from h) (by decide)⟩, ⟨⟨(by decide : (0 : Nat) ≠ 5), fun h => absurd (show (0 : Nat) + 1 = 5 from h) (by decide)⟩, ⟨⟨(by decide : (1 : Nat) ≠ 5), fun h => absurd (show (1 : Nat) + 1 = 5 from h) (by decide)⟩, ⟨⟨(by decide : (2 : Nat) ≠ 5), fun h => absurd (show (2 : Nat) + 1 = 5 from h) (by decide)⟩, trivial⟩⟩⟩⟩⟩ (fun ls hl => ?_)
  refine lv_aload_n S.1 S.2.1 d_MD_exchange_62 rfl (lv_at hl 3 rfl) ?_
  refine x_getR (ci := 1) (k := 21) S hK hI (fun w h => List.mem_cons_of_mem _ (i_MD w h)) rfl (by decide) (List.mem_cons_of_mem _ wd_541) rfl d_MD_exchange_63 hf (fun r44 hf => ?_)
  refine lv_iload_n S.1 S.2.1 d_MD_exchange_66 rfl (lv_at hl 4 rfl) ?_
  refine lv_aload_n S.1 S.2.1 d_MD_exchange_67 rfl (lv_at hl 3 rfl) ?_
  refine x_getR (ci := 1) (k := 21) S hK hI (fun w h => List.mem_cons_of_mem _ (i_MD w h)) rfl (by decide) (List.mem_cons_of_mem _ wd_541) rfl d_MD_exchange_68 hf (fun r45 hf => ?_)
  refine lv_iload_n S.1 S.2.1 d_MD_exchange_71 rfl (lv_at hl 5 rfl) ?_
  obtain ⟨a46, ea46, hg⟩ := b_nn_inv hf
  have hI0 := hI
  have hl0 := hl
  clear hf hI hl
  subst ea46
  have hf := hg
  have hI := hI0
  have hl := hl0
  clear hg hI0 hl0
  refine x_iald (t := 2) S hK hI rfl d_MD_exchange_72 hf (fun v47 hf => ?_)
  obtain ⟨a48, ea48, hg⟩ := b_nn_inv hf
  have hI0 := hI
  have hl0 := hl
  clear hf hI hl
  subst ea48
  have hf := hg
  have hI := hI0
  have hl := hl0
  clear hg hI0 hl0
  refine x_iast (t := 2) S hK hI rfl d_MD_exchange_73 hf (fun M H locs hf hI => ?_)
  refine lv_aload_n S.1 S.2.1 d_MD_exchange_74 rfl (lv_at hl 3 rfl) ?_
  refine x_getR (ci := 1) (k := 21) S hK hI (fun w h => List.mem_cons_of_mem _ (i_MD w h)) rfl (by decide) (List.mem_cons_of_mem _ wd_541) rfl d_MD_exchange_75 hf (fun r49 hf => ?_)
  refine lv_iload_n S.1 S.2.1 d_MD_exchange_78 rfl (lv_at hl 5 rfl) ?_
  refine lv_iload S.1 S.2.1 d_MD_exchange_79 (lv_at hl 0 rfl) ?_
  obtain ⟨a50, ea50, hg⟩ := b_nn_inv hf
  have hI0 := hI
  have hl0 := hl
  clear hf hI hl
  subst ea50
  have hf := hg
  have hI := hI0
  have hl := hl0
  clear hg hI0 hl0
  refine x_iast (t := 2) S hK hI rfl d_MD_exchange_81 hf (fun M H locs hf hI => ?_)
  refine lv_aload_n S.1 S.2.1 d_MD_exchange_82 rfl (lv_at hl 3 rfl) ?_
  refine x_getR (ci := 1) (k := 22) S hK hI (fun w h => List.mem_cons_of_mem _ (i_MD w h)) rfl (by decide) (List.mem_cons_of_mem _ wd_542) rfl d_MD_exchange_83 hf (fun r51 hf => ?_)
  refine lv_iload_n S.1 S.2.1 d_MD_exchange_86 rfl (lv_at hl 4 rfl) ?_
  obtain ⟨a52, ea52, hg⟩ := b_nn_inv hf
  have hI0 := hI
  have hl0 := hl
  clear hf hI hl
  subst ea52
  have hf := hg
  have hI := hI0
  have hl := hl0
  clear hg hI0 hl0
  refine x_iald (t := 2) S hK hI rfl d_MD_exchange_87 hf (fun v53 hf => ?_)
  refine x_istore (lv2 := [(5, .int v43), (4, .int v33), (3, .int v23), (0, .ref h0), (1, .int p0), (2, .int p1)]) S d_MD_exchange_88 hl (by decide) [0, 1, 2, 3, 4, 5] rfl ⟨⟨(by decide : (5 : Nat) ≠ 6), fun _ => rfl⟩, ⟨⟨(by decide : (4 : Nat) ≠ 6), fun h => absurd (show (4 : Nat) + 1 = 6 from h) (by decide)⟩, ⟨⟨(by decide : (3 : Nat) ≠ 6), fun h => absurd (show (3 : Nat) + 1 = 6 from h) (by decide)⟩, ⟨⟨(by decide : (0 : Nat) ≠ 6), fun h => absurd (show (0 : Nat) + 1 = 6 from h) (by decide)⟩, ⟨⟨(by decide : (1 : Nat) ≠ 6), fun h => absurd (show (1 : Nat) + 1 = 6 from h) (by decide)⟩, ⟨⟨(by decide : (2 : Nat) ≠ 6), fun h => absurd (show (2 : Nat) + 1 = 6 from h) (by decide)⟩, trivial⟩⟩⟩⟩⟩⟩ (fun ls hl => ?_)
  refine lv_aload_n S.1 S.2.1 d_MD_exchange_90 rfl (lv_at hl 4 rfl) ?_
  refine x_getR (ci := 1) (k := 22) S hK hI (fun w h => List.mem_cons_of_mem _ (i_MD w h)) rfl (by decide) (List.mem_cons_of_mem _ wd_542) rfl d_MD_exchange_91 hf (fun r54 hf => ?_)
  refine lv_iload_n S.1 S.2.1 d_MD_exchange_94 rfl (lv_at hl 5 rfl) ?_
  refine lv_aload_n S.1 S.2.1 d_MD_exchange_95 rfl (lv_at hl 4 rfl) ?_
  refine x_getR (ci := 1) (k := 22) S hK hI (fun w h => List.mem_cons_of_mem _ (i_MD w h)) rfl (by decide) (List.mem_cons_of_mem _ wd_542) rfl d_MD_exchange_96 hf (fun r55 hf => ?_)
  refine lv_iload_n S.1 S.2.1 d_MD_exchange_99 rfl (lv_at hl 6 rfl) ?_
  obtain ⟨a56, ea56, hg⟩ := b_nn_inv hf
  have hI0 := hI
  have hl0 := hl
  clear hf hI hl
  subst ea56
  have hf := hg
  have hI := hI0
  have hl := hl0
  clear hg hI0 hl0
  refine x_iald (t := 2) S hK hI rfl d_MD_exchange_100 hf (fun v57 hf => ?_)
  obtain ⟨a58, ea58, hg⟩ := b_nn_inv hf
  have hI0 := hI
  have hl0 := hl
  clear hf hI hl
  subst ea58
  have hf := hg
  have hI := hI0
  have hl := hl0
  clear hg hI0 hl0
  refine x_iast (t := 2) S hK hI rfl d_MD_exchange_101 hf (fun M H locs hf hI => ?_)
  refine lv_aload_n S.1 S.2.1 d_MD_exchange_102 rfl (lv_at hl 4 rfl) ?_
  refine x_getR (ci := 1) (k := 22) S hK hI (fun w h => List.mem_cons_of_mem _ (i_MD w h)) rfl (by decide) (List.mem_cons_of_mem _ wd_542) rfl d_MD_exchange_103 hf (fun r59 hf => ?_)
  refine lv_iload_n S.1 S.2.1 d_MD_exchange_106 rfl (lv_at hl 6 rfl) ?_
  refine lv_iload S.1 S.2.1 d_MD_exchange_107 (lv_at hl 0 rfl) ?_
  obtain ⟨a60, ea60, hg⟩ := b_nn_inv hf
  have hI0 := hI
  have hl0 := hl
  clear hf hI hl
  subst ea60
  have hf := hg
  have hI := hI0
  have hl := hl0
  clear hg hI0 hl0
  refine x_iast (t := 2) S hK hI rfl d_MD_exchange_109 hf (fun M H locs hf hI => ?_)
  refine lv_aload_n S.1 S.2.1 d_MD_exchange_110 rfl (lv_at hl 4 rfl) ?_
  refine x_getR (ci := 1) (k := 25) S hK hI (fun w h => List.mem_cons_of_mem _ (i_MD w h)) rfl (by decide) (List.mem_cons_of_mem _ wd_546) rfl d_MD_exchange_111 hf (fun r61 hf => ?_)
  refine lv_iload_n S.1 S.2.1 d_MD_exchange_114 rfl (lv_at hl 5 rfl) ?_
  obtain ⟨a62, ea62, hg⟩ := b_nn_inv hf
  have hI0 := hI
  have hl0 := hl
  clear hf hI hl
  subst ea62
  have hf := hg
  have hI := hI0
  have hl := hl0
  clear hg hI0 hl0
  refine x_lald (t := 7) S hK hI rfl d_MD_exchange_115 hf (fun v63 hf => ?_)
  refine x_lstore (lv2 := [(6, .int v53), (5, .int v43), (4, .int v33), (3, .int v23), (0, .ref h0), (1, .int p0), (2, .int p1)]) S d_MD_exchange_116 hl (by decide) [0, 1, 2, 3, 4, 5, 6] rfl ⟨⟨(by decide : (6 : Nat) ≠ 7), (by decide : (6 : Nat) ≠ 7 + 1), fun _ => rfl⟩, ⟨⟨(by decide : (5 : Nat) ≠ 7), (by decide : (5 : Nat) ≠ 7 + 1), fun h => absurd (show (5 : Nat) + 1 = 7 from h) (by decide)⟩, ⟨⟨(by decide : (4 : Nat) ≠ 7), (by decide : (4 : Nat) ≠ 7 + 1), fun h => absurd (show (4 : Nat) + 1 = 7 from h) (by decide)⟩, ⟨⟨(by decide : (3 : Nat) ≠ 7), (by decide : (3 : Nat) ≠ 7 + 1), fun h => absurd (show (3 : Nat) + 1 = 7 from h) (by decide)⟩, ⟨⟨(by decide : (0 : Nat) ≠ 7), (by decide : (0 : Nat) ≠ 7 + 1), fun h => absurd (show (0 : Nat) + 1 = 7 from h) (by decide)⟩, ⟨⟨(by decide : (1 : Nat) ≠ 7), (by decide : (1 : Nat) ≠ 7 + 1), fun h => absurd (show (1 : Nat) + 1 = 7 from h) (by decide)⟩, ⟨⟨(by decide : (2 : Nat) ≠ 7), (by decide : (2 : Nat) ≠ 7 + 1), fun h => absurd (show (2 : Nat) + 1 = 7 from h) (by decide)⟩, trivial⟩⟩⟩⟩⟩⟩⟩ (fun ls hl => ?_)
  refine lv_aload_n S.1 S.2.1 d_MD_exchange_118 rfl (lv_at hl 5 rfl) ?_
  refine x_getR (ci := 1) (k := 25) S hK hI (fun w h => List.mem_cons_of_mem _ (i_MD w h)) rfl (by decide) (List.mem_cons_of_mem _ wd_546) rfl d_MD_exchange_119 hf (fun r64 hf => ?_)
  refine lv_iload_n S.1 S.2.1 d_MD_exchange_122 rfl (lv_at hl 6 rfl) ?_
  refine lv_aload_n S.1 S.2.1 d_MD_exchange_123 rfl (lv_at hl 5 rfl) ?_
  refine x_getR (ci := 1) (k := 25) S hK hI (fun w h => List.mem_cons_of_mem _ (i_MD w h)) rfl (by decide) (List.mem_cons_of_mem _ wd_546) rfl d_MD_exchange_124 hf (fun r65 hf => ?_)
  refine lv_iload_n S.1 S.2.1 d_MD_exchange_127 rfl (lv_at hl 7 rfl) ?_
  obtain ⟨a66, ea66, hg⟩ := b_nn_inv hf
  have hI0 := hI
  have hl0 := hl
  clear hf hI hl
  subst ea66
  have hf := hg
  have hI := hI0
  have hl := hl0
  clear hg hI0 hl0
  refine x_lald (t := 7) S hK hI rfl d_MD_exchange_128 hf (fun v67 hf => ?_)
  obtain ⟨a68, ea68, hg⟩ := b_nn_inv hf
  have hI0 := hI
  have hl0 := hl
  clear hf hI hl
  subst ea68
  have hf := hg
  have hI := hI0
  have hl := hl0
  clear hg hI0 hl0
  refine x_last (t := 7) S hK hI rfl d_MD_exchange_129 hf (fun M H locs hf hI => ?_)
  refine lv_aload_n S.1 S.2.1 d_MD_exchange_130 rfl (lv_at hl 5 rfl) ?_
  refine x_getR (ci := 1) (k := 25) S hK hI (fun w h => List.mem_cons_of_mem _ (i_MD w h)) rfl (by decide) (List.mem_cons_of_mem _ wd_546) rfl d_MD_exchange_131 hf (fun r69 hf => ?_)
  refine lv_iload_n S.1 S.2.1 d_MD_exchange_134 rfl (lv_at hl 7 rfl) ?_
  refine lv_lload S.1 S.2.1 d_MD_exchange_135 (lv_at hl 0 rfl) ?_
  obtain ⟨a70, ea70, hg⟩ := b_nn_inv hf
  have hI0 := hI
  have hl0 := hl
  clear hf hI hl
  subst ea70
  have hf := hg
  have hI := hI0
  have hl := hl0
  clear hg hI0 hl0
  refine x_last (t := 7) S hK hI rfl d_MD_exchange_137 hf (fun M H locs hf hI => ?_)
  refine lv_aload_n S.1 S.2.1 d_MD_exchange_138 rfl (lv_at hl 5 rfl) ?_
  refine x_getR (ci := 1) (k := 26) S hK hI (fun w h => List.mem_cons_of_mem _ (i_MD w h)) rfl (by decide) (List.mem_cons_of_mem _ wd_547) rfl d_MD_exchange_139 hf (fun r71 hf => ?_)
  refine lv_iload_n S.1 S.2.1 d_MD_exchange_142 rfl (lv_at hl 6 rfl) ?_
  obtain ⟨a72, ea72, hg⟩ := b_nn_inv hf
  have hI0 := hI
  have hl0 := hl
  clear hf hI hl
  subst ea72
  have hf := hg
  have hI := hI0
  have hl := hl0
  clear hg hI0 hl0
  refine x_lald (t := 7) S hK hI rfl d_MD_exchange_143 hf (fun v73 hf => ?_)
  refine x_lstore (lv2 := [(7, .long v63), (6, .int v53), (5, .int v43), (4, .int v33), (3, .int v23), (0, .ref h0), (1, .int p0), (2, .int p1)]) S d_MD_exchange_144 hl (by decide) [0, 1, 2, 3, 4, 5, 6, 7] rfl ⟨⟨(by decide : (7 : Nat) ≠ 9), (by decide : (7 : Nat) ≠ 9 + 1), fun h => absurd (show (7 : Nat) + 1 = 9 from h) (by decide)⟩, ⟨⟨(by decide : (6 : Nat) ≠ 9), (by decide : (6 : Nat) ≠ 9 + 1), fun h => absurd (show (6 : Nat) + 1 = 9 from h) (by decide)⟩, ⟨⟨(by decide : (5 : Nat) ≠ 9), (by decide : (5 : Nat) ≠ 9 + 1), fun h => absurd (show (5 : Nat) + 1 = 9 from h) (by decide)⟩, ⟨⟨(by decide : (4 : Nat) ≠ 9), (by decide : (4 : Nat) ≠ 9 + 1), fun h => absurd (show (4 : Nat) + 1 = 9 from h) (by decide)⟩, ⟨⟨(by decide : (3 : Nat) ≠ 9), (by decide : (3 : Nat) ≠ 9 + 1), fun h => absurd (show (3 : Nat) + 1 = 9 from h) (by decide)⟩, ⟨⟨(by decide : (0 : Nat) ≠ 9), (by decide : (0 : Nat) ≠ 9 + 1), fun h => absurd (show (0 : Nat) + 1 = 9 from h) (by decide)⟩, ⟨⟨(by decide : (1 : Nat) ≠ 9), (by decide : (1 : Nat) ≠ 9 + 1), fun h => absurd (show (1 : Nat) + 1 = 9 from h) (by decide)⟩, ⟨⟨(by decide : (2 : Nat) ≠ 9), (by decide : (2 : Nat) ≠ 9 + 1), fun h => absurd (show (2 : Nat) + 1 = 9 from h) (by decide)⟩, trivial⟩⟩⟩⟩⟩⟩⟩⟩ (fun ls hl => ?_)
  refine lv_aload_n S.1 S.2.1 d_MD_exchange_146 rfl (lv_at hl 6 rfl) ?_
  refine x_getR (ci := 1) (k := 26) S hK hI (fun w h => List.mem_cons_of_mem _ (i_MD w h)) rfl (by decide) (List.mem_cons_of_mem _ wd_547) rfl d_MD_exchange_147 hf (fun r74 hf => ?_)
  refine lv_iload_n S.1 S.2.1 d_MD_exchange_150 rfl (lv_at hl 7 rfl) ?_
  refine lv_aload_n S.1 S.2.1 d_MD_exchange_151 rfl (lv_at hl 6 rfl) ?_
  refine x_getR (ci := 1) (k := 26) S hK hI (fun w h => List.mem_cons_of_mem _ (i_MD w h)) rfl (by decide) (List.mem_cons_of_mem _ wd_547) rfl d_MD_exchange_152 hf (fun r75 hf => ?_)
  refine lv_iload_n S.1 S.2.1 d_MD_exchange_155 rfl (lv_at hl 8 rfl) ?_
  obtain ⟨a76, ea76, hg⟩ := b_nn_inv hf
  have hI0 := hI
  have hl0 := hl
  clear hf hI hl
  subst ea76
  have hf := hg
  have hI := hI0
  have hl := hl0
  clear hg hI0 hl0
  refine x_lald (t := 7) S hK hI rfl d_MD_exchange_156 hf (fun v77 hf => ?_)
  obtain ⟨a78, ea78, hg⟩ := b_nn_inv hf
  have hI0 := hI
  have hl0 := hl
  clear hf hI hl
  subst ea78
  have hf := hg
  have hI := hI0
  have hl := hl0
  clear hg hI0 hl0
  refine x_last (t := 7) S hK hI rfl d_MD_exchange_157 hf (fun M H locs hf hI => ?_)
  refine lv_aload_n S.1 S.2.1 d_MD_exchange_158 rfl (lv_at hl 6 rfl) ?_
  refine x_getR (ci := 1) (k := 26) S hK hI (fun w h => List.mem_cons_of_mem _ (i_MD w h)) rfl (by decide) (List.mem_cons_of_mem _ wd_547) rfl d_MD_exchange_159 hf (fun r79 hf => ?_)
  refine lv_iload_n S.1 S.2.1 d_MD_exchange_162 rfl (lv_at hl 8 rfl) ?_
  refine lv_lload S.1 S.2.1 d_MD_exchange_163 (lv_at hl 0 rfl) ?_
  obtain ⟨a80, ea80, hg⟩ := b_nn_inv hf
  have hI0 := hI
  have hl0 := hl
  clear hf hI hl
  subst ea80
  have hf := hg
  have hI := hI0
  have hl := hl0
  clear hg hI0 hl0
  refine x_last (t := 7) S hK hI rfl d_MD_exchange_165 hf (fun M H locs hf hI => ?_)
  refine lv_aload_n S.1 S.2.1 d_MD_exchange_166 rfl (lv_at hl 6 rfl) ?_
  refine x_getR (ci := 1) (k := 27) S hK hI (fun w h => List.mem_cons_of_mem _ (i_MD w h)) rfl (by decide) (List.mem_cons_of_mem _ wd_548) rfl d_MD_exchange_167 hf (fun r81 hf => ?_)
  refine lv_iload_n S.1 S.2.1 d_MD_exchange_170 rfl (lv_at hl 7 rfl) ?_
  obtain ⟨a82, ea82, hg⟩ := b_nn_inv hf
  have hI0 := hI
  have hl0 := hl
  clear hf hI hl
  subst ea82
  have hf := hg
  have hI := hI0
  have hl := hl0
  clear hg hI0 hl0
  refine x_zald (t := 5) S hK hI rfl d_MD_exchange_171 hf (fun v83 hf => ?_)
  refine x_istore (lv2 := [(9, .long v73), (7, .long v63), (6, .int v53), (5, .int v43), (4, .int v33), (3, .int v23), (0, .ref h0), (1, .int p0), (2, .int p1)]) S d_MD_exchange_172 hl (by decide) [0, 1, 2, 3, 4, 5, 6, 7, 8] rfl ⟨⟨(by decide : (9 : Nat) ≠ 11), fun h => absurd (show (9 : Nat) + 1 = 11 from h) (by decide)⟩, ⟨⟨(by decide : (7 : Nat) ≠ 11), fun h => absurd (show (7 : Nat) + 1 = 11 from h) (by decide)⟩, ⟨⟨(by decide : (6 : Nat) ≠ 11), fun h => absurd (show (6 : Nat) + 1 = 11 from h) (by decide)⟩, ⟨⟨(by decide : (5 : Nat) ≠ 11), fun h => absurd (show (5 : Nat) + 1 = 11 from h) (by decide)⟩, ⟨⟨(by decide : (4 : Nat) ≠ 11), fun h => absurd (show (4 : Nat) + 1 = 11 from h) (by decide)⟩, ⟨⟨(by decide : (3 : Nat) ≠ 11), fun h => absurd (show (3 : Nat) + 1 = 11 from h) (by decide)⟩, ⟨⟨(by decide : (0 : Nat) ≠ 11), fun h => absurd (show (0 : Nat) + 1 = 11 from h) (by decide)⟩, ⟨⟨(by decide : (1 : Nat) ≠ 11), fun h => absurd (show (1 : Nat) + 1 = 11 from h) (by decide)⟩, ⟨⟨(by decide : (2 : Nat) ≠ 11), fun h => absurd (show (2 : Nat) + 1 = 11 from h) (by decide)⟩, trivial⟩⟩⟩⟩⟩⟩⟩⟩⟩ (fun ls hl => ?_)
  refine lv_aload_n S.1 S.2.1 d_MD_exchange_174 rfl (lv_at hl 7 rfl) ?_
  refine x_getR (ci := 1) (k := 27) S hK hI (fun w h => List.mem_cons_of_mem _ (i_MD w h)) rfl (by decide) (List.mem_cons_of_mem _ wd_548) rfl d_MD_exchange_175 hf (fun r84 hf => ?_)
  refine lv_iload_n S.1 S.2.1 d_MD_exchange_178 rfl (lv_at hl 8 rfl) ?_
  refine lv_aload_n S.1 S.2.1 d_MD_exchange_179 rfl (lv_at hl 7 rfl) ?_
  refine x_getR (ci := 1) (k := 27) S hK hI (fun w h => List.mem_cons_of_mem _ (i_MD w h)) rfl (by decide) (List.mem_cons_of_mem _ wd_548) rfl d_MD_exchange_180 hf (fun r85 hf => ?_)
  refine lv_iload_n S.1 S.2.1 d_MD_exchange_183 rfl (lv_at hl 9 rfl) ?_
  obtain ⟨a86, ea86, hg⟩ := b_nn_inv hf
  have hI0 := hI
  have hl0 := hl
  clear hf hI hl
  subst ea86
  have hf := hg
  have hI := hI0
  have hl := hl0
  clear hg hI0 hl0
  refine x_zald (t := 5) S hK hI rfl d_MD_exchange_184 hf (fun v87 hf => ?_)
  obtain ⟨a88, ea88, hg⟩ := b_nn_inv hf
  have hI0 := hI
  have hl0 := hl
  clear hf hI hl
  subst ea88
  have hf := hg
  have hI := hI0
  have hl := hl0
  clear hg hI0 hl0
  refine x_zast (t := 5) S hK hI rfl d_MD_exchange_185 hf (fun M H locs hf hI => ?_)
  refine lv_aload_n S.1 S.2.1 d_MD_exchange_186 rfl (lv_at hl 7 rfl) ?_
  refine x_getR (ci := 1) (k := 27) S hK hI (fun w h => List.mem_cons_of_mem _ (i_MD w h)) rfl (by decide) (List.mem_cons_of_mem _ wd_548) rfl d_MD_exchange_187 hf (fun r89 hf => ?_)
  refine lv_iload_n S.1 S.2.1 d_MD_exchange_190 rfl (lv_at hl 9 rfl) ?_
  refine lv_iload S.1 S.2.1 d_MD_exchange_191 (lv_at hl 0 rfl) ?_
  obtain ⟨a90, ea90, hg⟩ := b_nn_inv hf
  have hI0 := hI
  have hl0 := hl
  clear hf hI hl
  subst ea90
  have hf := hg
  have hI := hI0
  have hl := hl0
  clear hg hI0 hl0
  refine x_zast (t := 5) S hK hI rfl d_MD_exchange_193 hf (fun M H locs hf hI => ?_)
  refine lv_iconst (v := 0) S.1 S.2.1 d_MD_exchange_194 (by decide) ?_
  refine x_istore (lv2 := [(11, .int v83), (9, .long v73), (7, .long v63), (6, .int v53), (5, .int v43), (4, .int v33), (3, .int v23), (0, .ref h0), (1, .int p0), (2, .int p1)]) S d_MD_exchange_195 hl (by decide) [0, 1, 2, 3, 4, 5, 6, 7, 8, 9] rfl ⟨⟨(by decide : (11 : Nat) ≠ 12), fun _ => rfl⟩, ⟨⟨(by decide : (9 : Nat) ≠ 12), fun h => absurd (show (9 : Nat) + 1 = 12 from h) (by decide)⟩, ⟨⟨(by decide : (7 : Nat) ≠ 12), fun h => absurd (show (7 : Nat) + 1 = 12 from h) (by decide)⟩, ⟨⟨(by decide : (6 : Nat) ≠ 12), fun h => absurd (show (6 : Nat) + 1 = 12 from h) (by decide)⟩, ⟨⟨(by decide : (5 : Nat) ≠ 12), fun h => absurd (show (5 : Nat) + 1 = 12 from h) (by decide)⟩, ⟨⟨(by decide : (4 : Nat) ≠ 12), fun h => absurd (show (4 : Nat) + 1 = 12 from h) (by decide)⟩, ⟨⟨(by decide : (3 : Nat) ≠ 12), fun h => absurd (show (3 : Nat) + 1 = 12 from h) (by decide)⟩, ⟨⟨(by decide : (0 : Nat) ≠ 12), fun h => absurd (show (0 : Nat) + 1 = 12 from h) (by decide)⟩, ⟨⟨(by decide : (1 : Nat) ≠ 12), fun h => absurd (show (1 : Nat) + 1 = 12 from h) (by decide)⟩, ⟨⟨(by decide : (2 : Nat) ≠ 12), fun h => absurd (show (2 : Nat) + 1 = 12 from h) (by decide)⟩, trivial⟩⟩⟩⟩⟩⟩⟩⟩⟩⟩ (fun ls hl => ?_)
  exact w197 N 0 _ _ _ _ _ _ hf hI (lv_sub hl [8, 9, 10, 0] rfl)
set_option maxHeartbeats 4000000 in
set_option maxRecDepth 100000 in
theorem c_MD_joins (l : Launch) {D : va_G} {dA : Nat → ClassId} {aK aV : Nat → Nat} {z : Nat} {N : Nat} {h0 : Nat} {p0 : Int32} {p1 : Int32} {M : hM} {Z : Int32 × hM} (hf : (f_MD_joins N h0 p0 p1).1 M = some Z) : Met l y_MD_joins w_MD_joins ({ frames := 4, cells := Z.2.2.1 - M.2.1, slots := Z.2.2.2 - M.2.2, locals := 98 }) (va_Pc [.ref h0, .int p0, .int p1] (hm_B D dA hCl (hTy dA) sT aK aV z M)) (hm_Q D dA hCl (hTy dA) sT aK aV z (some (.int Z.1)) Z.2) (Z.2.2.1 - M.2.1) (Z.2.2.2 - M.2.2) (fun q => z ≤ q) := by
  refine Met.ofW (cc := b_MD_joins) (maxL := 4) (ret := (some .boolean)) (by decide) rfl ?_
  intro p e s m args below meth c s₁ B hml hv
  obtain ⟨hav, hB⟩ := hv
  have S : CallFix p m c b_MD_joins 4 s args w_MD_joins R_MD := ⟨B.exec, B.bytes, hml, findClass_of_methodNamed B.named, atoms_spec (ws := w_MD_joins) B.pre⟩
  have hr : meth.sig.returnType = (some .boolean) := B.returns
  have hlocks := B.notSynchronized
  have hK := hB.2.2.1
  have hG := hB.2.2.2.2.2
  have hI := hm_I.start hB
  rw [← hB.2.1]
  generalize M.2.2 = k1 at hI ⊢
  refine W.eq (g2 := F0 m 0 ((lg_sl ([.ref h0, .int p0, .int p1]) ++ List.replicate (4 - (lg_sl ([.ref h0, .int p0, .int p1])).length) Slot.unset).toArray) []) (by rw [hav]; exact lg_entry_eq m ([.ref h0, .int p0, .int p1]) 4) ?_
  have hl := lv_entry ([.ref h0, .int p0, .int p1]) (n := 4) (Nat.le_of_ble_eq_true rfl)
  generalize (lg_sl ([.ref h0, .int p0, .int p1]) ++ List.replicate (4 - (lg_sl ([.ref h0, .int p0, .int p1])).length) Slot.unset).toArray = ls at hl ⊢
  simp only [lvA_nil, lvA_i, lvA_l, lvA_a, lvA_r, Nat.zero_add, Nat.reduceAdd] at hl
  have hret : ∀ (v : Int32) (M : hM) (H : Heap) (locs : List Loc) (cells slots : Nat) (ls : Array Slot) (pc : Nat), decode b_MD_joins pc = .ok (.ireturn, 1) → (b_retN .boolean v).1 M = some Z → hm_I D dA hCl z k1 s M H locs cells slots → W p l e (headSpec w_MD_joins { frames := 4, cells := Z.2.2.1 - s.heap.size, slots := Z.2.2.2 - k1, locals := 98 }).room s m args below meth c H locs cells slots (MQ below (hm_Q D dA hCl (hTy dA) sT aK aV z (some (.int Z.1)) Z.2) args s (Z.2.2.1 - s.heap.size) (Z.2.2.2 - k1) (fun q => z ≤ q)) (F0 m pc ls [.int v]) := fun v M H locs cells slots ls pc hdg hf hI => x_retn S hK hG hI hr hlocks hdg hf
  have hR : Z.2.2.1 - s.heap.size ≤ (headSpec w_MD_joins { frames := 4, cells := Z.2.2.1 - s.heap.size, slots := Z.2.2.2 - k1, locals := 98 }).room.cells ∧ Z.2.2.2 - k1 ≤ (headSpec w_MD_joins { frames := 4, cells := Z.2.2.1 - s.heap.size, slots := Z.2.2.2 - k1, locals := 98 }).room.slots := ⟨Nat.le_refl _, Nat.le_refl _⟩
  have hRf : 4 ≤ (headSpec w_MD_joins { frames := 4, cells := Z.2.2.1 - s.heap.size, slots := Z.2.2.2 - k1, locals := 98 }).room.frames ∧ 98 ≤ (headSpec w_MD_joins { frames := 4, cells := Z.2.2.1 - s.heap.size, slots := Z.2.2.2 - k1, locals := 98 }).room.locals := ⟨Nat.le_refl _, Nat.le_refl _⟩
  generalize (headSpec w_MD_joins { frames := 4, cells := Z.2.2.1 - s.heap.size, slots := Z.2.2.2 - k1, locals := 98 }).room = R at hret hR hRf ⊢
  generalize (MQ below (hm_Q D dA hCl (hTy dA) sT aK aV z (some (.int Z.1)) Z.2) args s (Z.2.2.1 - s.heap.size) (Z.2.2.2 - k1) (fun q => z ≤ q)) = Q at hret ⊢
  rw [e_MD_joins] at hf
  obtain ⟨J39, eJ39, hf⟩ := b_let_inv hf
  have w39 : ∀ (y0 : Int32) (M : hM) (H : Heap) (locs : List Loc) (ls : Array Slot) (cells slots : Nat), (J39 y0).1 M = some Z → hm_I D dA hCl z k1 s M H locs cells slots → lv_has ls 4 [] → W p l e R s m args below meth c H locs cells slots Q (F0 m 39 ls [.int y0]) := by
    intro y0 M H locs ls cells slots hf hI hl
    rw [eJ39] at hf
    exact hret _ _ _ _ _ _ _ _ d_MD_joins_39 hf hI
  obtain ⟨J38, eJ38, hf⟩ := b_let_inv hf
  have w38 : ∀  (M : hM) (H : Heap) (locs : List Loc) (ls : Array Slot) (cells slots : Nat), (J38).1 M = some Z → hm_I D dA hCl z k1 s M H locs cells slots → lv_has ls 4 [] → W p l e R s m args below meth c H locs cells slots Q (F0 m 38 ls []) := by
    intro M H locs ls cells slots hf hI hl
    rw [eJ38] at hf
    refine lv_iconst (v := 0) S.1 S.2.1 d_MD_joins_38 (by decide) ?_
    exact w39 0 _ _ _ _ _ _ hf hI (lv_sub hl [] rfl)
  obtain ⟨J25, eJ25, hf⟩ := b_let_inv hf
  have w25 : ∀  (M : hM) (H : Heap) (locs : List Loc) (ls : Array Slot) (cells slots : Nat), (J25).1 M = some Z → hm_I D dA hCl z k1 s M H locs cells slots → lv_has ls 4 [(0, .ref h0), (1, .int p0), (2, .int p1)] → W p l e R s m args below meth c H locs cells slots Q (F0 m 25 ls []) := by
    intro M H locs ls cells slots hf hI hl
    rw [eJ25] at hf
    refine lv_aload_n S.1 S.2.1 d_MD_joins_25 rfl (lv_at hl 0 rfl) ?_
    refine lv_iload_n S.1 S.2.1 d_MD_joins_26 rfl (lv_at hl 1 rfl) ?_
    refine lv_iload_n S.1 S.2.1 d_MD_joins_27 rfl (lv_at hl 2 rfl) ?_
    obtain ⟨⟨fs4, hefs4⟩, hf⟩ := b_is_inv hf
    obtain ⟨v1, N2, hg3, hf⟩ := b_call_inv hf
    refine x_call hI (hm_mo hg3) (va_runV (As := [.int p0, .int p1]) (rest := []) S (c_MD_order l hg3) (cwV 2 S.2.2.2.2 (gi_V wd_697 wd_698 wd_699 wd_564 wd_700) rfl rfl rfl (by decide +kernel) ⟨Nat.le_trans (Nat.le_of_ble_eq_true rfl) hRf.1, Nat.le_trans (Nat.le_of_ble_eq_true rfl) hRf.2⟩) ⟨hm_B.blind, va_recv hK (hI.1.one hefs4) (ci := 1) (q0 := 0) rfl rfl, fun U hU hW => ⟨rfl, hm_B.of hK hG hI hU hW⟩⟩ rfl rfl hl.1 rfl (lv_room (Nat.le_of_ble_eq_true rfl)) d_MD_joins_28 (hx_fit hI hR (hm_mo hg3) (hm_mo hf))) (fun H locs cells slots hI => ?_)
    refine W.eq (g2 := F0 m 31 ls [.int v1]) rfl ?_
    refine lv_if_ne (tgt := 38) S.1 S.2.1 d_MD_joins_31 (by decide) (fun hc => ?_) (fun hc => ?_)
    · have hf := b_if_f hc hf
      exact w38  _ _ _ _ _ _ hf hI (lv_sub hl [] rfl)
    · have hf := b_if_t hc hf
      refine lv_iconst (v := 1) S.1 S.2.1 d_MD_joins_34 (by decide) ?_
      refine lv_goto (tgt := 39) S.1 S.2.1 d_MD_joins_35 (by decide) ?_
      exact w39 1 _ _ _ _ _ _ hf hI (lv_sub hl [] rfl)
  refine lv_aload_n S.1 S.2.1 d_MD_joins_0 rfl (lv_at hl 0 rfl) ?_
  refine x_getR (ci := 1) (k := 19) S hK hI (fun w h => List.mem_cons_of_mem _ (i_MD w h)) rfl (by decide) (List.mem_cons_of_mem _ wd_539) rfl d_MD_joins_1 hf (fun r5 hf => ?_)
  refine lv_iload_n S.1 S.2.1 d_MD_joins_4 rfl (lv_at hl 1 rfl) ?_
  obtain ⟨a6, ea6, hg⟩ := b_nn_inv hf
  have hI0 := hI
  have hl0 := hl
  clear hf hI hl
  subst ea6
  have hf := hg
  have hI := hI0
  have hl := hl0
  clear hg hI0 hl0
  refine x_bald (t := 6) S hK hI rfl d_MD_joins_5 hf (fun v7 hf => ?_)
  refine x_istore_n (lv2 := [(0, .ref h0), (1, .int p0), (2, .int p1)]) S d_MD_joins_6 rfl hl (by decide) [0, 1, 2] rfl ⟨⟨(by decide : (0 : Nat) ≠ 3), fun h => absurd (show (0 : Nat) + 1 = 3 from h) (by decide)⟩, ⟨⟨(by decide : (1 : Nat) ≠ 3), fun h => absurd (show (1 : Nat) + 1 = 3 from h) (by decide)⟩, ⟨⟨(by decide : (2 : Nat) ≠ 3), fun _ => rfl⟩, trivial⟩⟩⟩ (fun ls hl => ?_)
  refine lv_iload_n S.1 S.2.1 d_MD_joins_7 rfl (lv_at hl 0 rfl) ?_
  refine lv_bipush (v := 7) S.1 S.2.1 d_MD_joins_8 (by decide) ?_
  refine lv_icmp_lt (tgt := 25) S.1 S.2.1 d_MD_joins_10 (by decide) (fun hc => ?_) (fun hc => ?_)
  · have hf := b_if_t hc hf
    exact w25  _ _ _ _ _ _ hf hI (lv_sub hl [1, 2, 3] rfl)
  · have hf := b_if_f hc hf
    refine lv_iload_n S.1 S.2.1 d_MD_joins_13 rfl (lv_at hl 0 rfl) ?_
    refine lv_bipush (v := 9) S.1 S.2.1 d_MD_joins_14 (by decide) ?_
    refine lv_icmp_le (tgt := 38) S.1 S.2.1 d_MD_joins_16 (by decide) (fun hc => ?_) (fun hc => ?_)
    · have hf := b_if_t hc hf
      exact w38  _ _ _ _ _ _ hf hI (lv_sub hl [] rfl)
    · have hf := b_if_f hc hf
      refine lv_iload_n S.1 S.2.1 d_MD_joins_19 rfl (lv_at hl 0 rfl) ?_
      refine lv_bipush (v := 14) S.1 S.2.1 d_MD_joins_20 (by decide) ?_
      refine lv_icmp_ge (tgt := 38) S.1 S.2.1 d_MD_joins_22 (by decide) (fun hc => ?_) (fun hc => ?_)
      · have hf := b_if_t hc hf
        exact w38  _ _ _ _ _ _ hf hI (lv_sub hl [] rfl)
      · have hf := b_if_f hc hf
        exact w25  _ _ _ _ _ _ hf hI (lv_sub hl [1, 2, 3] rfl)
set_option maxHeartbeats 4000000 in
set_option maxRecDepth 100000 in
theorem c_MD_isWritten (l : Launch) {D : va_G} {dA : Nat → ClassId} {aK aV : Nat → Nat} {z : Nat} {N : Nat} {h0 : Nat} {p0 : Int32} {p1 : Int32} {M : hM} {Z : Int32 × hM} (hf : (f_MD_isWritten N h0 p0 p1).1 M = some Z) : Met l y_MD_isWritten w_MD_isWritten ({ frames := 0, cells := Z.2.2.1 - M.2.1, slots := Z.2.2.2 - M.2.2, locals := 0 }) (va_Pc [.ref h0, .int p0, .int p1] (hm_B D dA hCl (hTy dA) sT aK aV z M)) (hm_Q D dA hCl (hTy dA) sT aK aV z (some (.int Z.1)) Z.2) (Z.2.2.1 - M.2.1) (Z.2.2.2 - M.2.2) (fun q => z ≤ q) := by
  refine Met.ofW (cc := b_MD_isWritten) (maxL := 5) (ret := (some .boolean)) (by decide) rfl ?_
  intro p e s m args below meth c s₁ B hml hv
  obtain ⟨hav, hB⟩ := hv
  have S : CallFix p m c b_MD_isWritten 5 s args w_MD_isWritten R_MD := ⟨B.exec, B.bytes, hml, findClass_of_methodNamed B.named, atoms_spec (ws := w_MD_isWritten) B.pre⟩
  have hr : meth.sig.returnType = (some .boolean) := B.returns
  have hlocks := B.notSynchronized
  have hK := hB.2.2.1
  have hG := hB.2.2.2.2.2
  have hI := hm_I.start hB
  rw [← hB.2.1]
  generalize M.2.2 = k1 at hI ⊢
  refine W.eq (g2 := F0 m 0 ((lg_sl ([.ref h0, .int p0, .int p1]) ++ List.replicate (5 - (lg_sl ([.ref h0, .int p0, .int p1])).length) Slot.unset).toArray) []) (by rw [hav]; exact lg_entry_eq m ([.ref h0, .int p0, .int p1]) 5) ?_
  have hl := lv_entry ([.ref h0, .int p0, .int p1]) (n := 5) (Nat.le_of_ble_eq_true rfl)
  generalize (lg_sl ([.ref h0, .int p0, .int p1]) ++ List.replicate (5 - (lg_sl ([.ref h0, .int p0, .int p1])).length) Slot.unset).toArray = ls at hl ⊢
  simp only [lvA_nil, lvA_i, lvA_l, lvA_a, lvA_r, Nat.zero_add, Nat.reduceAdd] at hl
  have hret : ∀ (v : Int32) (M : hM) (H : Heap) (locs : List Loc) (cells slots : Nat) (ls : Array Slot) (pc : Nat), decode b_MD_isWritten pc = .ok (.ireturn, 1) → (b_retN .boolean v).1 M = some Z → hm_I D dA hCl z k1 s M H locs cells slots → W p l e (headSpec w_MD_isWritten { frames := 0, cells := Z.2.2.1 - s.heap.size, slots := Z.2.2.2 - k1, locals := 0 }).room s m args below meth c H locs cells slots (MQ below (hm_Q D dA hCl (hTy dA) sT aK aV z (some (.int Z.1)) Z.2) args s (Z.2.2.1 - s.heap.size) (Z.2.2.2 - k1) (fun q => z ≤ q)) (F0 m pc ls [.int v]) := fun v M H locs cells slots ls pc hdg hf hI => x_retn S hK hG hI hr hlocks hdg hf
  have hR : Z.2.2.1 - s.heap.size ≤ (headSpec w_MD_isWritten { frames := 0, cells := Z.2.2.1 - s.heap.size, slots := Z.2.2.2 - k1, locals := 0 }).room.cells ∧ Z.2.2.2 - k1 ≤ (headSpec w_MD_isWritten { frames := 0, cells := Z.2.2.1 - s.heap.size, slots := Z.2.2.2 - k1, locals := 0 }).room.slots := ⟨Nat.le_refl _, Nat.le_refl _⟩
  have hRf : 0 ≤ (headSpec w_MD_isWritten { frames := 0, cells := Z.2.2.1 - s.heap.size, slots := Z.2.2.2 - k1, locals := 0 }).room.frames ∧ 0 ≤ (headSpec w_MD_isWritten { frames := 0, cells := Z.2.2.1 - s.heap.size, slots := Z.2.2.2 - k1, locals := 0 }).room.locals := ⟨Nat.le_refl _, Nat.le_refl _⟩
  generalize (headSpec w_MD_isWritten { frames := 0, cells := Z.2.2.1 - s.heap.size, slots := Z.2.2.2 - k1, locals := 0 }).room = R at hret hR hRf ⊢
  generalize (MQ below (hm_Q D dA hCl (hTy dA) sT aK aV z (some (.int Z.1)) Z.2) args s (Z.2.2.1 - s.heap.size) (Z.2.2.2 - k1) (fun q => z ≤ q)) = Q at hret ⊢
  rw [e_MD_isWritten] at hf
  obtain ⟨J20, eJ20, hf⟩ := b_let_inv hf
  have w20 : ∀ (y0 : Int32) (M : hM) (H : Heap) (locs : List Loc) (ls : Array Slot) (cells slots : Nat), (J20 y0).1 M = some Z → hm_I D dA hCl z k1 s M H locs cells slots → lv_has ls 5 [(0, .ref h0), (1, .int p0), (2, .int p1)] → W p l e R s m args below meth c H locs cells slots Q (F0 m 20 ls [.int y0]) := by
    intro y0 M H locs ls cells slots hf hI hl
    rw [eJ20] at hf
    have w24 : ∀ (n : Nat) (x3 : Int32) (x4 : Int32) (M : hM) (H : Heap) (locs : List Loc) (ls : Array Slot) (cells slots : Nat), (f_MD_isWritten_24 N h0 p0 p1  n x3 x4).1 M = some Z → hm_I D dA hCl z k1 s M H locs cells slots → lv_has ls 5 [(0, .ref h0), (1, .int p0), (2, .int p1), (3, .int x3), (4, .int x4)] → W p l e R s m args below meth c H locs cells slots Q (F0 m 24 ls []) := by
      intro n
      induction n with
      | zero => intro x3 x4 M H locs ls cells slots hf hI hl; cases hf
      | succ n24 ih24 =>
        intro x3 x4 M H locs ls cells slots hf hI hl
        rw [e_MD_isWritten_24] at hf
        obtain ⟨J71, eJ71, hf⟩ := b_let_inv hf
        have w71 : ∀ (x4 : Int32) (y0 : Int32) (M : hM) (H : Heap) (locs : List Loc) (ls : Array Slot) (cells slots : Nat), (J71 x4 y0).1 M = some Z → hm_I D dA hCl z k1 s M H locs cells slots → lv_has ls 5 [(0, .ref h0), (1, .int p0), (2, .int p1), (4, .int x4)] → W p l e R s m args below meth c H locs cells slots Q (F0 m 71 ls [.int y0]) := by
          intro x4 y0 M H locs ls cells slots hf hI hl
          rw [eJ71] at hf
          refine x_istore_n (lv2 := [(0, .ref h0), (1, .int p0), (2, .int p1), (4, .int x4)]) S d_MD_isWritten_71 rfl hl (by decide) [0, 1, 2, 3] rfl ⟨⟨(by decide : (0 : Nat) ≠ 3), fun h => absurd (show (0 : Nat) + 1 = 3 from h) (by decide)⟩, ⟨⟨(by decide : (1 : Nat) ≠ 3), fun h => absurd (show (1 : Nat) + 1 = 3 from h) (by decide)⟩, ⟨⟨(by decide : (2 : Nat) ≠ 3), fun _ => rfl⟩, ⟨⟨(by decide : (4 : Nat) ≠ 3), fun h => absurd (show (4 : Nat) + 1 = 3 from h) (by decide)⟩, trivial⟩⟩⟩⟩ (fun ls hl => ?_)
          refine x_iinc (v := 1) (lv2 := [(3, .int y0), (0, .ref h0), (1, .int p0), (2, .int p1)]) S d_MD_isWritten_72 hl 4 rfl (by decide) (by decide) [0, 1, 2, 3] rfl ⟨⟨(by decide : (3 : Nat) ≠ 4), fun _ => rfl⟩, ⟨⟨(by decide : (0 : Nat) ≠ 4), fun h => absurd (show (0 : Nat) + 1 = 4 from h) (by decide)⟩, ⟨⟨(by decide : (1 : Nat) ≠ 4), fun h => absurd (show (1 : Nat) + 1 = 4 from h) (by decide)⟩, ⟨⟨(by decide : (2 : Nat) ≠ 4), fun h => absurd (show (2 : Nat) + 1 = 4 from h) (by decide)⟩, trivial⟩⟩⟩⟩ (fun ls hl => ?_)
          refine lv_goto (tgt := 24) S.1 S.2.1 d_MD_isWritten_75 (by decide) ?_
          exact ih24 y0 (x4 + 1) _ _ _ _ _ _ hf hI (lv_sub hl [2, 3, 4, 1, 0] rfl)
        refine lv_iload S.1 S.2.1 d_MD_isWritten_24 (lv_at hl 4 rfl) ?_
        refine lv_aload_n S.1 S.2.1 d_MD_isWritten_26 rfl (lv_at hl 0 rfl) ?_
        refine x_getR (ci := 1) (k := 21) S hK hI (fun w h => List.mem_cons_of_mem _ (i_MD w h)) rfl (by decide) (List.mem_cons_of_mem _ wd_541) rfl d_MD_isWritten_27 hf (fun r1 hf => ?_)
        refine lv_iload_n S.1 S.2.1 d_MD_isWritten_30 rfl (lv_at hl 1 rfl) ?_
        obtain ⟨a2, ea2, hg⟩ := b_nn_inv hf
        have hI0 := hI
        have hl0 := hl
        clear hf hI hl
        subst ea2
        have hf := hg
        have hI := hI0
        have hl := hl0
        clear hg hI0 hl0
        refine x_iald (t := 2) S hK hI rfl d_MD_isWritten_31 hf (fun v3 hf => ?_)
        refine lv_icmp_ge (tgt := 78) S.1 S.2.1 d_MD_isWritten_32 (by decide) (fun hc => ?_) (fun hc => ?_)
        · have hf := b_if_t hc hf
          refine lv_iload_n S.1 S.2.1 d_MD_isWritten_78 rfl (lv_at hl 3 rfl) ?_
          exact hret _ _ _ _ _ _ _ _ d_MD_isWritten_79 hf hI
        · have hf := b_if_f hc hf
          refine lv_iload_n S.1 S.2.1 d_MD_isWritten_35 rfl (lv_at hl 3 rfl) ?_
          refine lv_if_eq (tgt := 78) S.1 S.2.1 d_MD_isWritten_36 (by decide) (fun hc => ?_) (fun hc => ?_)
          · have hf := b_if_t hc hf
            refine lv_iload_n S.1 S.2.1 d_MD_isWritten_78 rfl (lv_at hl 3 rfl) ?_
            exact hret _ _ _ _ _ _ _ _ d_MD_isWritten_79 hf hI
          · have hf := b_if_f hc hf
            refine lv_aload_n S.1 S.2.1 d_MD_isWritten_39 rfl (lv_at hl 0 rfl) ?_
            refine x_getR (ci := 1) (k := 23) S hK hI (fun w h => List.mem_cons_of_mem _ (i_MD w h)) rfl (by decide) (List.mem_cons_of_mem _ wd_544) rfl d_MD_isWritten_40 hf (fun r4 hf => ?_)
            refine lv_bipush (v := 20) S.1 S.2.1 d_MD_isWritten_43 (by decide) ?_
            refine lv_iload_n S.1 S.2.1 d_MD_isWritten_45 rfl (lv_at hl 1 rfl) ?_
            refine lv_imul S.1 S.2.1 d_MD_isWritten_46 ?_
            refine lv_iload S.1 S.2.1 d_MD_isWritten_47 (lv_at hl 4 rfl) ?_
            refine lv_iadd S.1 S.2.1 d_MD_isWritten_49 ?_
            obtain ⟨a5, ea5, hg⟩ := b_nn_inv hf
            have hI0 := hI
            have hl0 := hl
            clear hf hI hl
            subst ea5
            have hf := hg
            have hI := hI0
            have hl := hl0
            clear hg hI0 hl0
            refine x_bald (t := 6) S hK hI rfl d_MD_isWritten_50 hf (fun v6 hf => ?_)
            refine lv_aload_n S.1 S.2.1 d_MD_isWritten_51 rfl (lv_at hl 0 rfl) ?_
            refine x_getR (ci := 1) (k := 23) S hK hI (fun w h => List.mem_cons_of_mem _ (i_MD w h)) rfl (by decide) (List.mem_cons_of_mem _ wd_544) rfl d_MD_isWritten_52 hf (fun r7 hf => ?_)
            refine lv_bipush (v := 20) S.1 S.2.1 d_MD_isWritten_55 (by decide) ?_
            refine lv_iload_n S.1 S.2.1 d_MD_isWritten_57 rfl (lv_at hl 2 rfl) ?_
            refine lv_imul S.1 S.2.1 d_MD_isWritten_58 ?_
            refine lv_iload S.1 S.2.1 d_MD_isWritten_59 (lv_at hl 4 rfl) ?_
            refine lv_iadd S.1 S.2.1 d_MD_isWritten_61 ?_
            obtain ⟨a8, ea8, hg⟩ := b_nn_inv hf
            have hI0 := hI
            have hl0 := hl
            clear hf hI hl
            subst ea8
            have hf := hg
            have hI := hI0
            have hl := hl0
            clear hg hI0 hl0
            refine x_bald (t := 6) S hK hI rfl d_MD_isWritten_62 hf (fun v9 hf => ?_)
            refine lv_icmp_ne (tgt := 70) S.1 S.2.1 d_MD_isWritten_63 (by decide) (fun hc => ?_) (fun hc => ?_)
            · have hf := b_if_f hc hf
              refine lv_iconst (v := 0) S.1 S.2.1 d_MD_isWritten_70 (by decide) ?_
              exact w71 x4 0 _ _ _ _ _ _ hf hI (lv_sub hl [0, 1, 2, 4] rfl)
            · have hf := b_if_t hc hf
              refine lv_iconst (v := 1) S.1 S.2.1 d_MD_isWritten_66 (by decide) ?_
              refine lv_goto (tgt := 71) S.1 S.2.1 d_MD_isWritten_67 (by decide) ?_
              exact w71 x4 1 _ _ _ _ _ _ hf hI (lv_sub hl [0, 1, 2, 4] rfl)
    refine x_istore_n (lv2 := [(0, .ref h0), (1, .int p0), (2, .int p1)]) S d_MD_isWritten_20 rfl hl (by decide) [0, 1, 2] rfl ⟨⟨(by decide : (0 : Nat) ≠ 3), fun h => absurd (show (0 : Nat) + 1 = 3 from h) (by decide)⟩, ⟨⟨(by decide : (1 : Nat) ≠ 3), fun h => absurd (show (1 : Nat) + 1 = 3 from h) (by decide)⟩, ⟨⟨(by decide : (2 : Nat) ≠ 3), fun _ => rfl⟩, trivial⟩⟩⟩ (fun ls hl => ?_)
    refine lv_iconst (v := 0) S.1 S.2.1 d_MD_isWritten_21 (by decide) ?_
    refine x_istore (lv2 := [(3, .int y0), (0, .ref h0), (1, .int p0), (2, .int p1)]) S d_MD_isWritten_22 hl (by decide) [0, 1, 2, 3] rfl ⟨⟨(by decide : (3 : Nat) ≠ 4), fun _ => rfl⟩, ⟨⟨(by decide : (0 : Nat) ≠ 4), fun h => absurd (show (0 : Nat) + 1 = 4 from h) (by decide)⟩, ⟨⟨(by decide : (1 : Nat) ≠ 4), fun h => absurd (show (1 : Nat) + 1 = 4 from h) (by decide)⟩, ⟨⟨(by decide : (2 : Nat) ≠ 4), fun h => absurd (show (2 : Nat) + 1 = 4 from h) (by decide)⟩, trivial⟩⟩⟩⟩ (fun ls hl => ?_)
    exact w24 N y0 0 _ _ _ _ _ _ hf hI (lv_sub hl [2, 3, 4, 1, 0] rfl)
  refine lv_aload_n S.1 S.2.1 d_MD_isWritten_0 rfl (lv_at hl 0 rfl) ?_
  refine x_getR (ci := 1) (k := 21) S hK hI (fun w h => List.mem_cons_of_mem _ (i_MD w h)) rfl (by decide) (List.mem_cons_of_mem _ wd_541) rfl d_MD_isWritten_1 hf (fun r10 hf => ?_)
  refine lv_iload_n S.1 S.2.1 d_MD_isWritten_4 rfl (lv_at hl 1 rfl) ?_
  obtain ⟨a11, ea11, hg⟩ := b_nn_inv hf
  have hI0 := hI
  have hl0 := hl
  clear hf hI hl
  subst ea11
  have hf := hg
  have hI := hI0
  have hl := hl0
  clear hg hI0 hl0
  refine x_iald (t := 2) S hK hI rfl d_MD_isWritten_5 hf (fun v12 hf => ?_)
  refine lv_aload_n S.1 S.2.1 d_MD_isWritten_6 rfl (lv_at hl 0 rfl) ?_
  refine x_getR (ci := 1) (k := 21) S hK hI (fun w h => List.mem_cons_of_mem _ (i_MD w h)) rfl (by decide) (List.mem_cons_of_mem _ wd_541) rfl d_MD_isWritten_7 hf (fun r13 hf => ?_)
  refine lv_iload_n S.1 S.2.1 d_MD_isWritten_10 rfl (lv_at hl 2 rfl) ?_
  obtain ⟨a14, ea14, hg⟩ := b_nn_inv hf
  have hI0 := hI
  have hl0 := hl
  clear hf hI hl
  subst ea14
  have hf := hg
  have hI := hI0
  have hl := hl0
  clear hg hI0 hl0
  refine x_iald (t := 2) S hK hI rfl d_MD_isWritten_11 hf (fun v15 hf => ?_)
  refine lv_icmp_ne (tgt := 19) S.1 S.2.1 d_MD_isWritten_12 (by decide) (fun hc => ?_) (fun hc => ?_)
  · have hf := b_if_f hc hf
    refine lv_iconst (v := 0) S.1 S.2.1 d_MD_isWritten_19 (by decide) ?_
    exact w20 0 _ _ _ _ _ _ hf hI (lv_sub hl [0, 1, 2] rfl)
  · have hf := b_if_t hc hf
    refine lv_iconst (v := 1) S.1 S.2.1 d_MD_isWritten_15 (by decide) ?_
    refine lv_goto (tgt := 20) S.1 S.2.1 d_MD_isWritten_16 (by decide) ?_
    exact w20 1 _ _ _ _ _ _ hf hI (lv_sub hl [0, 1, 2] rfl)
set_option maxHeartbeats 4000000 in
set_option maxRecDepth 100000 in
theorem c_MD_settle (l : Launch) {D : va_G} {dA : Nat → ClassId} {aK aV : Nat → Nat} {z : Nat} {N : Nat} {h0 : Nat} {M : hM} {Z : Unit × hM} (hf : (f_MD_settle N h0 ).1 M = some Z) : Met l y_MD_settle w_MD_settle ({ frames := 5, cells := Z.2.2.1 - M.2.1, slots := Z.2.2.2 - M.2.2, locals := 121 }) (va_Pc [.ref h0] (hm_B D dA hCl (hTy dA) sT aK aV z M)) (hm_Q D dA hCl (hTy dA) sT aK aV z none Z.2) (Z.2.2.1 - M.2.1) (Z.2.2.2 - M.2.2) (fun q => z ≤ q) := by
  refine Met.ofW (cc := b_MD_settle) (maxL := 6) (ret := none) (by decide) rfl ?_
  intro p e s m args below meth c s₁ B hml hv
  obtain ⟨hav, hB⟩ := hv
  have S : CallFix p m c b_MD_settle 6 s args w_MD_settle R_MD := ⟨B.exec, B.bytes, hml, findClass_of_methodNamed B.named, atoms_spec (ws := w_MD_settle) B.pre⟩
  have hr : meth.sig.returnType = none := B.returns
  have hlocks := B.notSynchronized
  have hK := hB.2.2.1
  have hG := hB.2.2.2.2.2
  have hI := hm_I.start hB
  rw [← hB.2.1]
  generalize M.2.2 = k1 at hI ⊢
  refine W.eq (g2 := F0 m 0 ((lg_sl ([.ref h0]) ++ List.replicate (6 - (lg_sl ([.ref h0])).length) Slot.unset).toArray) []) (by rw [hav]; exact lg_entry_eq m ([.ref h0]) 6) ?_
  have hl := lv_entry ([.ref h0]) (n := 6) (Nat.le_of_ble_eq_true rfl)
  generalize (lg_sl ([.ref h0]) ++ List.replicate (6 - (lg_sl ([.ref h0])).length) Slot.unset).toArray = ls at hl ⊢
  simp only [lvA_nil, lvA_i, lvA_l, lvA_a, lvA_r, Nat.zero_add, Nat.reduceAdd] at hl
  have hret : ∀ (M : hM) (H : Heap) (locs : List Loc) (cells slots : Nat) (ls : Array Slot) (pc : Nat), decode b_MD_settle pc = .ok (.return_, 1) → (b_ret ()).1 M = some Z → hm_I D dA hCl z k1 s M H locs cells slots → W p l e (headSpec w_MD_settle { frames := 5, cells := Z.2.2.1 - s.heap.size, slots := Z.2.2.2 - k1, locals := 121 }).room s m args below meth c H locs cells slots (MQ below (hm_Q D dA hCl (hTy dA) sT aK aV z none Z.2) args s (Z.2.2.1 - s.heap.size) (Z.2.2.2 - k1) (fun q => z ≤ q)) (F0 m pc ls []) := fun M H locs cells slots ls pc hdg hf hI => x_retv S hK hG hI hr hlocks hdg hf
  have hR : Z.2.2.1 - s.heap.size ≤ (headSpec w_MD_settle { frames := 5, cells := Z.2.2.1 - s.heap.size, slots := Z.2.2.2 - k1, locals := 121 }).room.cells ∧ Z.2.2.2 - k1 ≤ (headSpec w_MD_settle { frames := 5, cells := Z.2.2.1 - s.heap.size, slots := Z.2.2.2 - k1, locals := 121 }).room.slots := ⟨Nat.le_refl _, Nat.le_refl _⟩
  have hRf : 5 ≤ (headSpec w_MD_settle { frames := 5, cells := Z.2.2.1 - s.heap.size, slots := Z.2.2.2 - k1, locals := 121 }).room.frames ∧ 121 ≤ (headSpec w_MD_settle { frames := 5, cells := Z.2.2.1 - s.heap.size, slots := Z.2.2.2 - k1, locals := 121 }).room.locals := ⟨Nat.le_refl _, Nat.le_refl _⟩
  generalize (headSpec w_MD_settle { frames := 5, cells := Z.2.2.1 - s.heap.size, slots := Z.2.2.2 - k1, locals := 121 }).room = R at hret hR hRf ⊢
  generalize (MQ below (hm_Q D dA hCl (hTy dA) sT aK aV z none Z.2) args s (Z.2.2.1 - s.heap.size) (Z.2.2.2 - k1) (fun q => z ≤ q)) = Q at hret ⊢
  rw [e_MD_settle] at hf
  have w7 : ∀ (n : Nat) (x1 : Int32) (x2 : Int32) (M : hM) (H : Heap) (locs : List Loc) (ls : Array Slot) (cells slots : Nat), (f_MD_settle_7 N h0  n x1 x2).1 M = some Z → hm_I D dA hCl z k1 s M H locs cells slots → lv_has ls 6 [(0, .ref h0), (1, .int x1), (2, .int x2)] → W p l e R s m args below meth c H locs cells slots Q (F0 m 7 ls []) := by
    intro n
    induction n with
    | zero => intro x1 x2 M H locs ls cells slots hf hI hl; cases hf
    | succ n7 ih7 =>
      intro x1 x2 M H locs ls cells slots hf hI hl
      rw [e_MD_settle_7] at hf
      have w19 : ∀ (n : Nat) (x1 : Int32) (x2 : Int32) (x3 : Int32) (M : hM) (H : Heap) (locs : List Loc) (ls : Array Slot) (cells slots : Nat), (f_MD_settle_19 N h0  ((f_MD_settle_7 N h0 n7)) n x1 x2 x3).1 M = some Z → hm_I D dA hCl z k1 s M H locs cells slots → lv_has ls 6 [(0, .ref h0), (1, .int x1), (2, .int x2), (3, .int x3)] → W p l e R s m args below meth c H locs cells slots Q (F0 m 19 ls []) := by
        intro n
        induction n with
        | zero => intro x1 x2 x3 M H locs ls cells slots hf hI hl; cases hf
        | succ n19 ih19 =>
          intro x1 x2 x3 M H locs ls cells slots hf hI hl
          rw [e_MD_settle_19] at hf
          obtain ⟨J49, eJ49, hf⟩ := b_let_inv hf
          have w49 : ∀ (x1 : Int32) (x2 : Int32) (M : hM) (H : Heap) (locs : List Loc) (ls : Array Slot) (cells slots : Nat), (J49 x1 x2).1 M = some Z → hm_I D dA hCl z k1 s M H locs cells slots → lv_has ls 6 [(0, .ref h0), (1, .int x1), (2, .int x2)] → W p l e R s m args below meth c H locs cells slots Q (F0 m 49 ls []) := by
            intro x1 x2 M H locs ls cells slots hf hI hl
            rw [eJ49] at hf
            refine x_iinc (v := 1) (lv2 := [(0, .ref h0), (1, .int x1)]) S d_MD_settle_49 hl 2 rfl (by decide) (by decide) [0, 1] rfl ⟨⟨(by decide : (0 : Nat) ≠ 2), fun h => absurd (show (0 : Nat) + 1 = 2 from h) (by decide)⟩, ⟨⟨(by decide : (1 : Nat) ≠ 2), fun _ => rfl⟩, trivial⟩⟩ (fun ls hl => ?_)
            refine lv_goto (tgt := 7) S.1 S.2.1 d_MD_settle_52 (by decide) ?_
            exact ih7 x1 (x2 + 1) _ _ _ _ _ _ hf hI (lv_sub hl [1, 2, 0] rfl)
          refine lv_iload_n S.1 S.2.1 d_MD_settle_19 rfl (lv_at hl 3 rfl) ?_
          refine lv_iload_n S.1 S.2.1 d_MD_settle_20 rfl (lv_at hl 1 rfl) ?_
          refine lv_icmp_le (tgt := 49) S.1 S.2.1 d_MD_settle_21 (by decide) (fun hc => ?_) (fun hc => ?_)
          · have hf := b_if_t hc hf
            exact w49 x1 x2 _ _ _ _ _ _ hf hI (lv_sub hl [0, 1, 2] rfl)
          · have hf := b_if_f hc hf
            refine lv_aload_n S.1 S.2.1 d_MD_settle_24 rfl (lv_at hl 0 rfl) ?_
            refine lv_iload_n S.1 S.2.1 d_MD_settle_25 rfl (lv_at hl 3 rfl) ?_
            refine lv_iconst (v := 1) S.1 S.2.1 d_MD_settle_26 (by decide) ?_
            refine lv_isub S.1 S.2.1 d_MD_settle_27 ?_
            refine lv_iload_n S.1 S.2.1 d_MD_settle_28 rfl (lv_at hl 3 rfl) ?_
            obtain ⟨⟨fs4, hefs4⟩, hf⟩ := b_is_inv hf
            obtain ⟨v1, N2, hg3, hf⟩ := b_call_inv hf
            refine x_call hI (hm_mo hg3) (va_runV (As := [.int (x3 - 1), .int x3]) (rest := []) S (c_MD_order l hg3) (cwV 2 S.2.2.2.2 (gi_V wd_697 wd_698 wd_699 wd_564 wd_700) rfl rfl rfl (by decide +kernel) ⟨Nat.le_trans (Nat.le_of_ble_eq_true rfl) hRf.1, Nat.le_trans (Nat.le_of_ble_eq_true rfl) hRf.2⟩) ⟨hm_B.blind, va_recv hK (hI.1.one hefs4) (ci := 1) (q0 := 0) rfl rfl, fun U hU hW => ⟨rfl, hm_B.of hK hG hI hU hW⟩⟩ rfl rfl hl.1 rfl (lv_room (Nat.le_of_ble_eq_true rfl)) d_MD_settle_29 (hx_fit hI hR (hm_mo hg3) (hm_mo hf))) (fun H locs cells slots hI => ?_)
            refine W.eq (g2 := F0 m 32 ls [.int v1]) rfl ?_
            refine lv_if_le (tgt := 49) S.1 S.2.1 d_MD_settle_32 (by decide) (fun hc => ?_) (fun hc => ?_)
            · have hf := b_if_t hc hf
              exact w49 x1 x2 _ _ _ _ _ _ hf hI (lv_sub hl [0, 1, 2] rfl)
            · have hf := b_if_f hc hf
              refine lv_aload_n S.1 S.2.1 d_MD_settle_35 rfl (lv_at hl 0 rfl) ?_
              refine lv_iload_n S.1 S.2.1 d_MD_settle_36 rfl (lv_at hl 3 rfl) ?_
              refine lv_iconst (v := 1) S.1 S.2.1 d_MD_settle_37 (by decide) ?_
              refine lv_isub S.1 S.2.1 d_MD_settle_38 ?_
              refine lv_iload_n S.1 S.2.1 d_MD_settle_39 rfl (lv_at hl 3 rfl) ?_
              obtain ⟨⟨fs8, hefs8⟩, hf⟩ := b_is_inv hf
              obtain ⟨r5, N6, hg7, hf⟩ := b_call_inv hf
              refine x_call hI (hm_mo hg7) (va_runV (As := [.int (x3 - 1), .int x3]) (rest := []) S (c_MD_exchange l hg7) (cwV 2 S.2.2.2.2 (gi_V wd_701 wd_702 wd_703 wd_564 wd_704) rfl rfl rfl (by decide +kernel) ⟨Nat.le_trans (Nat.le_of_ble_eq_true rfl) hRf.1, Nat.le_trans (Nat.le_of_ble_eq_true rfl) hRf.2⟩) ⟨hm_B.blind, va_recv hK (hI.1.one hefs8) (ci := 1) (q0 := 0) rfl rfl, fun U hU hW => ⟨rfl, hm_B.of hK hG hI hU hW⟩⟩ rfl rfl hl.1 rfl (lv_room (Nat.le_of_ble_eq_true rfl)) d_MD_settle_40 (hx_fit hI hR (hm_mo hg7) (hm_mo hf))) (fun H locs cells slots hI => ?_)
              refine W.eq (g2 := F0 m 43 ls []) rfl ?_
              refine x_iinc (v := (-1)) (lv2 := [(0, .ref h0), (1, .int x1), (2, .int x2)]) S d_MD_settle_43 hl 3 rfl (by decide) (by decide) [0, 1, 2] rfl ⟨⟨(by decide : (0 : Nat) ≠ 3), fun h => absurd (show (0 : Nat) + 1 = 3 from h) (by decide)⟩, ⟨⟨(by decide : (1 : Nat) ≠ 3), fun h => absurd (show (1 : Nat) + 1 = 3 from h) (by decide)⟩, ⟨⟨(by decide : (2 : Nat) ≠ 3), fun _ => rfl⟩, trivial⟩⟩⟩ (fun ls hl => ?_)
              refine lv_goto (tgt := 19) S.1 S.2.1 d_MD_settle_46 (by decide) ?_
              exact ih19 x1 x2 (x3 + (-1)) _ _ _ _ _ _ hf hI (lv_sub hl [1, 2, 3, 0] rfl)
      have w59 : ∀ (n : Nat) (x1 : Int32) (x2 : Int32) (x3 : Int32) (M : hM) (H : Heap) (locs : List Loc) (ls : Array Slot) (cells slots : Nat), (f_MD_settle_59 N h0  n x1 x2 x3).1 M = some Z → hm_I D dA hCl z k1 s M H locs cells slots → lv_has ls 6 [(0, .ref h0), (1, .int x1), (2, .int x2), (3, .int x3)] → W p l e R s m args below meth c H locs cells slots Q (F0 m 59 ls []) := by
        intro n
        induction n with
        | zero => intro x1 x2 x3 M H locs ls cells slots hf hI hl; cases hf
        | succ n59 ih59 =>
          intro x1 x2 x3 M H locs ls cells slots hf hI hl
          rw [e_MD_settle_59] at hf
          obtain ⟨J268, eJ268, hf⟩ := b_let_inv hf
          have w268 : ∀ (x1 : Int32) (x2 : Int32) (x3 : Int32) (M : hM) (H : Heap) (locs : List Loc) (ls : Array Slot) (cells slots : Nat), (J268 x1 x2 x3).1 M = some Z → hm_I D dA hCl z k1 s M H locs cells slots → lv_has ls 6 [(0, .ref h0), (1, .int x1), (2, .int x2), (3, .int x3)] → W p l e R s m args below meth c H locs cells slots Q (F0 m 268 ls []) := by
            intro x1 x2 x3 M H locs ls cells slots hf hI hl
            rw [eJ268] at hf
            refine x_iinc (v := 1) (lv2 := [(0, .ref h0), (1, .int x1), (2, .int x2)]) S d_MD_settle_268 hl 3 rfl (by decide) (by decide) [0, 1, 2] rfl ⟨⟨(by decide : (0 : Nat) ≠ 3), fun h => absurd (show (0 : Nat) + 1 = 3 from h) (by decide)⟩, ⟨⟨(by decide : (1 : Nat) ≠ 3), fun h => absurd (show (1 : Nat) + 1 = 3 from h) (by decide)⟩, ⟨⟨(by decide : (2 : Nat) ≠ 3), fun _ => rfl⟩, trivial⟩⟩⟩ (fun ls hl => ?_)
            refine lv_goto (tgt := 59) S.1 S.2.1 d_MD_settle_271 (by decide) ?_
            exact ih59 x1 x2 (x3 + 1) _ _ _ _ _ _ hf hI (lv_sub hl [1, 2, 3, 0] rfl)
          obtain ⟨J126, eJ126, hf⟩ := b_let_inv hf
          have w126 : ∀ (x1 : Int32) (x2 : Int32) (x3 : Int32) (x4 : Int32) (x5 : Int32) (y0 : Int32) (y1 : Int32) (y2 : Option Nat) (M : hM) (H : Heap) (locs : List Loc) (ls : Array Slot) (cells slots : Nat), (J126 x1 x2 x3 x4 x5 y0 y1 y2).1 M = some Z → hm_I D dA hCl z k1 s M H locs cells slots → lv_has ls 6 [(0, .ref h0), (1, .int x1), (2, .int x2), (3, .int x3), (4, .int x4), (5, .int x5)] → W p l e R s m args below meth c H locs cells slots Q (F0 m 126 ls [.int y0, .int y1, va_rf y2]) := by
            intro x1 x2 x3 x4 x5 y0 y1 y2 M H locs ls cells slots hf hI hl
            rw [eJ126] at hf
            obtain ⟨J175, eJ175, hf⟩ := b_let_inv hf
            have w175 : ∀ (x1 : Int32) (x2 : Int32) (x3 : Int32) (x4 : Int32) (x5 : Int32) (y0 : Int64) (y1 : Option Nat) (M : hM) (H : Heap) (locs : List Loc) (ls : Array Slot) (cells slots : Nat), (J175 x1 x2 x3 x4 x5 y0 y1).1 M = some Z → hm_I D dA hCl z k1 s M H locs cells slots → lv_has ls 6 [(0, .ref h0), (1, .int x1), (2, .int x2), (3, .int x3), (4, .int x4), (5, .int x5)] → W p l e R s m args below meth c H locs cells slots Q (F0 m 175 ls [.long y0, va_rf y1]) := by
              intro x1 x2 x3 x4 x5 y0 y1 M H locs ls cells slots hf hI hl
              rw [eJ175] at hf
              obtain ⟨J214, eJ214, hf⟩ := b_let_inv hf
              have w214 : ∀ (x1 : Int32) (x2 : Int32) (x3 : Int32) (x4 : Int32) (y0 : Int64) (y1 : Option Nat) (M : hM) (H : Heap) (locs : List Loc) (ls : Array Slot) (cells slots : Nat), (J214 x1 x2 x3 x4 y0 y1).1 M = some Z → hm_I D dA hCl z k1 s M H locs cells slots → lv_has ls 6 [(0, .ref h0), (1, .int x1), (2, .int x2), (3, .int x3), (4, .int x4)] → W p l e R s m args below meth c H locs cells slots Q (F0 m 214 ls [.long y0, va_rf y1]) := by
                intro x1 x2 x3 x4 y0 y1 M H locs ls cells slots hf hI hl
                rw [eJ214] at hf
                obtain ⟨a9, ea9, hg⟩ := b_nn_inv hf
                have hI0 := hI
                have hl0 := hl
                clear hf hI hl
                subst ea9
                have hf := hg
                have hI := hI0
                have hl := hl0
                clear hg hI0 hl0
                refine x_put (ci := 1) (k := 33) S hK hI (fun w h => List.mem_cons_of_mem _ (i_MD w h)) t_MD t_MD_ok n_MD rfl (by decide) (List.mem_cons_of_mem _ wd_602) rfl (Or.inl rfl) (by rfl) rfl d_MD_settle_214 hf (fun M H locs hf hI => ?_)
                refine lv_aload_n S.1 S.2.1 d_MD_settle_217 rfl (lv_at hl 0 rfl) ?_
                obtain ⟨⟨fs13, hefs13⟩, hf⟩ := b_is_inv hf
                obtain ⟨r10, N11, hg12, hf⟩ := b_call_inv hf
                refine x_call hI (hm_mo hg12) (va_runV (As := []) (rest := []) S (c_MD_close l hg12) (cwV 0 S.2.2.2.2 (gi_V wd_608 wd_609 wd_610 wd_564 wd_611) rfl rfl rfl (by decide +kernel) ⟨Nat.le_trans (Nat.le_of_ble_eq_true rfl) hRf.1, Nat.le_trans (Nat.le_of_ble_eq_true rfl) hRf.2⟩) ⟨hm_B.blind, va_recv hK (hI.1.one hefs13) (ci := 1) (q0 := 0) rfl rfl, fun U hU hW => ⟨rfl, hm_B.of hK hG hI hU hW⟩⟩ rfl rfl hl.1 rfl (lv_room (Nat.le_of_ble_eq_true rfl)) d_MD_settle_218 (hx_fit hI hR (hm_mo hg12) (hm_mo hf))) (fun H locs cells slots hI => ?_)
                refine W.eq (g2 := F0 m 221 ls []) rfl ?_
                refine lv_aload_n S.1 S.2.1 d_MD_settle_221 rfl (lv_at hl 0 rfl) ?_
                refine x_getR (ci := 1) (k := 25) S hK hI (fun w h => List.mem_cons_of_mem _ (i_MD w h)) rfl (by decide) (List.mem_cons_of_mem _ wd_546) rfl d_MD_settle_222 hf (fun r14 hf => ?_)
                refine lv_iload S.1 S.2.1 d_MD_settle_225 (lv_at hl 4 rfl) ?_
                refine lv_aload_n S.1 S.2.1 d_MD_settle_227 rfl (lv_at hl 0 rfl) ?_
                refine x_getL (ci := 1) (k := 32) S hK hI (fun w h => List.mem_cons_of_mem _ (i_MD w h)) rfl (by decide) (List.mem_cons_of_mem _ wd_603) rfl d_MD_settle_228 hf (fun v15 hf => ?_)
                obtain ⟨a16, ea16, hg⟩ := b_nn_inv hf
                have hI0 := hI
                have hl0 := hl
                clear hf hI hl
                subst ea16
                have hf := hg
                have hI := hI0
                have hl := hl0
                clear hg hI0 hl0
                refine x_last (t := 7) S hK hI rfl d_MD_settle_231 hf (fun M H locs hf hI => ?_)
                refine lv_aload_n S.1 S.2.1 d_MD_settle_232 rfl (lv_at hl 0 rfl) ?_
                refine x_getR (ci := 1) (k := 26) S hK hI (fun w h => List.mem_cons_of_mem _ (i_MD w h)) rfl (by decide) (List.mem_cons_of_mem _ wd_547) rfl d_MD_settle_233 hf (fun r17 hf => ?_)
                refine lv_iload S.1 S.2.1 d_MD_settle_236 (lv_at hl 4 rfl) ?_
                refine lv_aload_n S.1 S.2.1 d_MD_settle_238 rfl (lv_at hl 0 rfl) ?_
                refine x_getL (ci := 1) (k := 33) S hK hI (fun w h => List.mem_cons_of_mem _ (i_MD w h)) rfl (by decide) (List.mem_cons_of_mem _ wd_602) rfl d_MD_settle_239 hf (fun v18 hf => ?_)
                obtain ⟨a19, ea19, hg⟩ := b_nn_inv hf
                have hI0 := hI
                have hl0 := hl
                clear hf hI hl
                subst ea19
                have hf := hg
                have hI := hI0
                have hl := hl0
                clear hg hI0 hl0
                refine x_last (t := 7) S hK hI rfl d_MD_settle_242 hf (fun M H locs hf hI => ?_)
                refine lv_goto (tgt := 268) S.1 S.2.1 d_MD_settle_243 (by decide) ?_
                exact w268 x1 x2 x3 _ _ _ _ _ _ hf hI (lv_sub hl [0, 1, 2, 3] rfl)
              obtain ⟨a20, ea20, hg⟩ := b_nn_inv hf
              have hI0 := hI
              have hl0 := hl
              clear hf hI hl
              subst ea20
              have hf := hg
              have hI := hI0
              have hl := hl0
              clear hg hI0 hl0
              refine x_put (ci := 1) (k := 32) S hK hI (fun w h => List.mem_cons_of_mem _ (i_MD w h)) t_MD t_MD_ok n_MD rfl (by decide) (List.mem_cons_of_mem _ wd_603) rfl (Or.inl rfl) (by rfl) rfl d_MD_settle_175 hf (fun M H locs hf hI => ?_)
              refine lv_aload_n S.1 S.2.1 d_MD_settle_178 rfl (lv_at hl 0 rfl) ?_
              refine lv_aload_n S.1 S.2.1 d_MD_settle_179 rfl (lv_at hl 0 rfl) ?_
              refine x_getR (ci := 1) (k := 26) S hK hI (fun w h => List.mem_cons_of_mem _ (i_MD w h)) rfl (by decide) (List.mem_cons_of_mem _ wd_547) rfl d_MD_settle_180 hf (fun r21 hf => ?_)
              refine lv_iload S.1 S.2.1 d_MD_settle_183 (lv_at hl 4 rfl) ?_
              obtain ⟨a22, ea22, hg⟩ := b_nn_inv hf
              have hI0 := hI
              have hl0 := hl
              clear hf hI hl
              subst ea22
              have hf := hg
              have hI := hI0
              have hl := hl0
              clear hg hI0 hl0
              refine x_lald (t := 7) S hK hI rfl d_MD_settle_185 hf (fun v23 hf => ?_)
              refine lv_aload_n S.1 S.2.1 d_MD_settle_186 rfl (lv_at hl 0 rfl) ?_
              refine x_getR (ci := 1) (k := 26) S hK hI (fun w h => List.mem_cons_of_mem _ (i_MD w h)) rfl (by decide) (List.mem_cons_of_mem _ wd_547) rfl d_MD_settle_187 hf (fun r24 hf => ?_)
              refine lv_iload S.1 S.2.1 d_MD_settle_190 (lv_at hl 5 rfl) ?_
              obtain ⟨a25, ea25, hg⟩ := b_nn_inv hf
              have hI0 := hI
              have hl0 := hl
              clear hf hI hl
              subst ea25
              have hf := hg
              have hI := hI0
              have hl := hl0
              clear hg hI0 hl0
              refine x_lald (t := 7) S hK hI rfl d_MD_settle_192 hf (fun v26 hf => ?_)
              refine W.lcmp S.1 S.2.1 d_MD_settle_193 ?_
              refine lv_if_ge (tgt := 207) S.1 S.2.1 d_MD_settle_194 (by decide) (fun hc => ?_) (fun hc => ?_)
              · have hf := b_if_t hc hf
                refine lv_aload_n S.1 S.2.1 d_MD_settle_207 rfl (lv_at hl 0 rfl) ?_
                refine x_getR (ci := 1) (k := 26) S hK hI (fun w h => List.mem_cons_of_mem _ (i_MD w h)) rfl (by decide) (List.mem_cons_of_mem _ wd_547) rfl d_MD_settle_208 hf (fun r27 hf => ?_)
                refine lv_iload S.1 S.2.1 d_MD_settle_211 (lv_at hl 5 rfl) ?_
                obtain ⟨a28, ea28, hg⟩ := b_nn_inv hf
                have hI0 := hI
                have hl0 := hl
                clear hf hI hl
                subst ea28
                have hf := hg
                have hI := hI0
                have hl := hl0
                clear hg hI0 hl0
                refine x_lald (t := 7) S hK hI rfl d_MD_settle_213 hf (fun v29 hf => ?_)
                exact w214 x1 x2 x3 x4 v29 (some h0) _ _ _ _ _ _ hf hI (lv_sub hl [0, 1, 2, 3, 4] rfl)
              · have hf := b_if_f hc hf
                refine lv_aload_n S.1 S.2.1 d_MD_settle_197 rfl (lv_at hl 0 rfl) ?_
                refine x_getR (ci := 1) (k := 26) S hK hI (fun w h => List.mem_cons_of_mem _ (i_MD w h)) rfl (by decide) (List.mem_cons_of_mem _ wd_547) rfl d_MD_settle_198 hf (fun r30 hf => ?_)
                refine lv_iload S.1 S.2.1 d_MD_settle_201 (lv_at hl 4 rfl) ?_
                obtain ⟨a31, ea31, hg⟩ := b_nn_inv hf
                have hI0 := hI
                have hl0 := hl
                clear hf hI hl
                subst ea31
                have hf := hg
                have hI := hI0
                have hl := hl0
                clear hg hI0 hl0
                refine x_lald (t := 7) S hK hI rfl d_MD_settle_203 hf (fun v32 hf => ?_)
                refine lv_goto (tgt := 214) S.1 S.2.1 d_MD_settle_204 (by decide) ?_
                exact w214 x1 x2 x3 x4 v32 (some h0) _ _ _ _ _ _ hf hI (lv_sub hl [0, 1, 2, 3, 4] rfl)
            obtain ⟨a33, ea33, hg⟩ := b_nn_inv hf
            have hI0 := hI
            have hl0 := hl
            clear hf hI hl
            subst ea33
            have hf := hg
            have hI := hI0
            have hl := hl0
            clear hg hI0 hl0
            refine x_zast (t := 5) S hK hI rfl d_MD_settle_126 hf (fun M H locs hf hI => ?_)
            refine lv_aload_n S.1 S.2.1 d_MD_settle_127 rfl (lv_at hl 0 rfl) ?_
            refine x_getR (ci := 1) (k := 19) S hK hI (fun w h => List.mem_cons_of_mem _ (i_MD w h)) rfl (by decide) (List.mem_cons_of_mem _ wd_539) rfl d_MD_settle_128 hf (fun r34 hf => ?_)
            refine lv_iload S.1 S.2.1 d_MD_settle_131 (lv_at hl 4 rfl) ?_
            obtain ⟨a35, ea35, hg⟩ := b_nn_inv hf
            have hI0 := hI
            have hl0 := hl
            clear hf hI hl
            subst ea35
            have hf := hg
            have hI := hI0
            have hl := hl0
            clear hg hI0 hl0
            refine x_bald (t := 6) S hK hI rfl d_MD_settle_133 hf (fun v36 hf => ?_)
            refine lv_bipush (v := 7) S.1 S.2.1 d_MD_settle_134 (by decide) ?_
            refine lv_icmp_ge (tgt := 268) S.1 S.2.1 d_MD_settle_136 (by decide) (fun hc => ?_) (fun hc => ?_)
            · have hf := b_if_t hc hf
              exact w268 x1 x2 x3 _ _ _ _ _ _ hf hI (lv_sub hl [0, 1, 2, 3] rfl)
            · have hf := b_if_f hc hf
              refine lv_aload_n S.1 S.2.1 d_MD_settle_139 rfl (lv_at hl 0 rfl) ?_
              refine lv_aload_n S.1 S.2.1 d_MD_settle_140 rfl (lv_at hl 0 rfl) ?_
              refine x_getR (ci := 1) (k := 25) S hK hI (fun w h => List.mem_cons_of_mem _ (i_MD w h)) rfl (by decide) (List.mem_cons_of_mem _ wd_546) rfl d_MD_settle_141 hf (fun r37 hf => ?_)
              refine lv_iload S.1 S.2.1 d_MD_settle_144 (lv_at hl 4 rfl) ?_
              obtain ⟨a38, ea38, hg⟩ := b_nn_inv hf
              have hI0 := hI
              have hl0 := hl
              clear hf hI hl
              subst ea38
              have hf := hg
              have hI := hI0
              have hl := hl0
              clear hg hI0 hl0
              refine x_lald (t := 7) S hK hI rfl d_MD_settle_146 hf (fun v39 hf => ?_)
              refine lv_aload_n S.1 S.2.1 d_MD_settle_147 rfl (lv_at hl 0 rfl) ?_
              refine x_getR (ci := 1) (k := 25) S hK hI (fun w h => List.mem_cons_of_mem _ (i_MD w h)) rfl (by decide) (List.mem_cons_of_mem _ wd_546) rfl d_MD_settle_148 hf (fun r40 hf => ?_)
              refine lv_iload S.1 S.2.1 d_MD_settle_151 (lv_at hl 5 rfl) ?_
              obtain ⟨a41, ea41, hg⟩ := b_nn_inv hf
              have hI0 := hI
              have hl0 := hl
              clear hf hI hl
              subst ea41
              have hf := hg
              have hI := hI0
              have hl := hl0
              clear hg hI0 hl0
              refine x_lald (t := 7) S hK hI rfl d_MD_settle_153 hf (fun v42 hf => ?_)
              refine W.lcmp S.1 S.2.1 d_MD_settle_154 ?_
              refine lv_if_le (tgt := 168) S.1 S.2.1 d_MD_settle_155 (by decide) (fun hc => ?_) (fun hc => ?_)
              · have hf := b_if_t hc hf
                refine lv_aload_n S.1 S.2.1 d_MD_settle_168 rfl (lv_at hl 0 rfl) ?_
                refine x_getR (ci := 1) (k := 25) S hK hI (fun w h => List.mem_cons_of_mem _ (i_MD w h)) rfl (by decide) (List.mem_cons_of_mem _ wd_546) rfl d_MD_settle_169 hf (fun r43 hf => ?_)
                refine lv_iload S.1 S.2.1 d_MD_settle_172 (lv_at hl 5 rfl) ?_
                obtain ⟨a44, ea44, hg⟩ := b_nn_inv hf
                have hI0 := hI
                have hl0 := hl
                clear hf hI hl
                subst ea44
                have hf := hg
                have hI := hI0
                have hl := hl0
                clear hg hI0 hl0
                refine x_lald (t := 7) S hK hI rfl d_MD_settle_174 hf (fun v45 hf => ?_)
                exact w175 x1 x2 x3 x4 x5 v45 (some h0) _ _ _ _ _ _ hf hI (lv_sub hl [0, 1, 2, 3, 4, 5] rfl)
              · have hf := b_if_f hc hf
                refine lv_aload_n S.1 S.2.1 d_MD_settle_158 rfl (lv_at hl 0 rfl) ?_
                refine x_getR (ci := 1) (k := 25) S hK hI (fun w h => List.mem_cons_of_mem _ (i_MD w h)) rfl (by decide) (List.mem_cons_of_mem _ wd_546) rfl d_MD_settle_159 hf (fun r46 hf => ?_)
                refine lv_iload S.1 S.2.1 d_MD_settle_162 (lv_at hl 4 rfl) ?_
                obtain ⟨a47, ea47, hg⟩ := b_nn_inv hf
                have hI0 := hI
                have hl0 := hl
                clear hf hI hl
                subst ea47
                have hf := hg
                have hI := hI0
                have hl := hl0
                clear hg hI0 hl0
                refine x_lald (t := 7) S hK hI rfl d_MD_settle_164 hf (fun v48 hf => ?_)
                refine lv_goto (tgt := 175) S.1 S.2.1 d_MD_settle_165 (by decide) ?_
                exact w175 x1 x2 x3 x4 x5 v48 (some h0) _ _ _ _ _ _ hf hI (lv_sub hl [0, 1, 2, 3, 4, 5] rfl)
          obtain ⟨J121, eJ121, hf⟩ := b_let_inv hf
          have w121 : ∀ (x1 : Int32) (x2 : Int32) (x3 : Int32) (x4 : Int32) (x5 : Int32) (y0 : Int32) (y1 : Option Nat) (M : hM) (H : Heap) (locs : List Loc) (ls : Array Slot) (cells slots : Nat), (J121 x1 x2 x3 x4 x5 y0 y1).1 M = some Z → hm_I D dA hCl z k1 s M H locs cells slots → lv_has ls 6 [(0, .ref h0), (1, .int x1), (2, .int x2), (3, .int x3), (4, .int x4), (5, .int x5)] → W p l e R s m args below meth c H locs cells slots Q (F0 m 121 ls [.int y0, va_rf y1]) := by
            intro x1 x2 x3 x4 x5 y0 y1 M H locs ls cells slots hf hI hl
            rw [eJ121] at hf
            refine lv_iconst (v := 1) S.1 S.2.1 d_MD_settle_121 (by decide) ?_
            refine lv_goto (tgt := 126) S.1 S.2.1 d_MD_settle_122 (by decide) ?_
            exact w126 x1 x2 x3 x4 x5 1 y0 y1 _ _ _ _ _ _ hf hI (lv_sub hl [0, 1, 2, 3, 4, 5] rfl)
          obtain ⟨J246, eJ246, hf⟩ := b_let_inv hf
          have w246 : ∀ (x1 : Int32) (x2 : Int32) (x3 : Int32) (x4 : Int32) (x5 : Int32) (M : hM) (H : Heap) (locs : List Loc) (ls : Array Slot) (cells slots : Nat), (J246 x1 x2 x3 x4 x5).1 M = some Z → hm_I D dA hCl z k1 s M H locs cells slots → lv_has ls 6 [(0, .ref h0), (1, .int x1), (2, .int x2), (3, .int x3), (4, .int x4), (5, .int x5)] → W p l e R s m args below meth c H locs cells slots Q (F0 m 246 ls []) := by
            intro x1 x2 x3 x4 x5 M H locs ls cells slots hf hI hl
            rw [eJ246] at hf
            obtain ⟨J265, eJ265, hf⟩ := b_let_inv hf
            have w265 : ∀ (x1 : Int32) (x2 : Int32) (x3 : Int32) (M : hM) (H : Heap) (locs : List Loc) (ls : Array Slot) (cells slots : Nat), (J265 x1 x2 x3).1 M = some Z → hm_I D dA hCl z k1 s M H locs cells slots → lv_has ls 6 [(0, .ref h0), (1, .int x1), (2, .int x2), (3, .int x3)] → W p l e R s m args below meth c H locs cells slots Q (F0 m 265 ls []) := by
              intro x1 x2 x3 M H locs ls cells slots hf hI hl
              rw [eJ265] at hf
              refine x_iinc (v := 1) (lv2 := [(0, .ref h0), (1, .int x1), (3, .int x3)]) S d_MD_settle_265 hl 2 rfl (by decide) (by decide) [0, 1, 3] rfl ⟨⟨(by decide : (0 : Nat) ≠ 2), fun h => absurd (show (0 : Nat) + 1 = 2 from h) (by decide)⟩, ⟨⟨(by decide : (1 : Nat) ≠ 2), fun _ => rfl⟩, ⟨⟨(by decide : (3 : Nat) ≠ 2), fun h => absurd (show (3 : Nat) + 1 = 2 from h) (by decide)⟩, trivial⟩⟩⟩ (fun ls hl => ?_)
              exact w268 x1 (x2 + 1) x3 _ _ _ _ _ _ hf hI (lv_sub hl [1, 2, 0, 3] rfl)
            refine lv_iload S.1 S.2.1 d_MD_settle_246 (lv_at hl 4 rfl) ?_
            refine lv_iconst (v := 1) S.1 S.2.1 d_MD_settle_248 (by decide) ?_
            refine lv_iadd S.1 S.2.1 d_MD_settle_249 ?_
            refine lv_iload S.1 S.2.1 d_MD_settle_250 (lv_at hl 5 rfl) ?_
            refine lv_icmp_eq (tgt := 265) S.1 S.2.1 d_MD_settle_252 (by decide) (fun hc => ?_) (fun hc => ?_)
            · have hf := b_if_t hc hf
              exact w265 x1 x2 x3 _ _ _ _ _ _ hf hI (lv_sub hl [0, 1, 2, 3] rfl)
            · have hf := b_if_f hc hf
              refine lv_aload_n S.1 S.2.1 d_MD_settle_255 rfl (lv_at hl 0 rfl) ?_
              refine lv_iload S.1 S.2.1 d_MD_settle_256 (lv_at hl 4 rfl) ?_
              refine lv_iconst (v := 1) S.1 S.2.1 d_MD_settle_258 (by decide) ?_
              refine lv_iadd S.1 S.2.1 d_MD_settle_259 ?_
              refine lv_iload S.1 S.2.1 d_MD_settle_260 (lv_at hl 5 rfl) ?_
              obtain ⟨⟨fs52, hefs52⟩, hf⟩ := b_is_inv hf
              obtain ⟨r49, N50, hg51, hf⟩ := b_call_inv hf
              refine x_call hI (hm_mo hg51) (va_runV (As := [.int (x4 + 1), .int x5]) (rest := []) S (c_MD_exchange l hg51) (cwV 2 S.2.2.2.2 (gi_V wd_701 wd_702 wd_703 wd_564 wd_704) rfl rfl rfl (by decide +kernel) ⟨Nat.le_trans (Nat.le_of_ble_eq_true rfl) hRf.1, Nat.le_trans (Nat.le_of_ble_eq_true rfl) hRf.2⟩) ⟨hm_B.blind, va_recv hK (hI.1.one hefs52) (ci := 1) (q0 := 0) rfl rfl, fun U hU hW => ⟨rfl, hm_B.of hK hG hI hU hW⟩⟩ rfl rfl hl.1 rfl (lv_room (Nat.le_of_ble_eq_true rfl)) d_MD_settle_262 (hx_fit hI hR (hm_mo hg51) (hm_mo hf))) (fun H locs cells slots hI => ?_)
              refine W.eq (g2 := F0 m 265 ls []) rfl ?_
              exact w265 x1 x2 x3 _ _ _ _ _ _ hf hI (lv_sub hl [0, 1, 2, 3] rfl)
          refine lv_iload_n S.1 S.2.1 d_MD_settle_59 rfl (lv_at hl 3 rfl) ?_
          refine lv_aload_n S.1 S.2.1 d_MD_settle_60 rfl (lv_at hl 0 rfl) ?_
          refine x_getI (ci := 1) (k := 28) S hK hI (fun w h => List.mem_cons_of_mem _ (i_MD w h)) rfl (by decide) (List.mem_cons_of_mem _ wd_629) rfl d_MD_settle_61 hf (fun v53 hf => ?_)
          refine lv_icmp_ge (tgt := 274) S.1 S.2.1 d_MD_settle_64 (by decide) (fun hc => ?_) (fun hc => ?_)
          · have hf := b_if_t hc hf
            refine lv_aload_n S.1 S.2.1 d_MD_settle_274 rfl (lv_at hl 0 rfl) ?_
            refine x_getR (ci := 1) (k := 13) S hK hI (fun w h => List.mem_cons_of_mem _ (i_MD w h)) rfl (by decide) (List.mem_cons_of_mem _ wd_532) rfl d_MD_settle_275 hf (fun r54 hf => ?_)
            refine lv_aload_n S.1 S.2.1 d_MD_settle_278 rfl (lv_at hl 0 rfl) ?_
            refine x_getI (ci := 1) (k := 11) S hK hI (fun w h => List.mem_cons_of_mem _ (i_MD w h)) rfl (by decide) (List.mem_cons_of_mem _ wd_624) rfl d_MD_settle_279 hf (fun v55 hf => ?_)
            refine lv_iload_n S.1 S.2.1 d_MD_settle_282 rfl (lv_at hl 2 rfl) ?_
            obtain ⟨a56, ea56, hg⟩ := b_nn_inv hf
            have hI0 := hI
            have hl0 := hl
            clear hf hI hl
            subst ea56
            have hf := hg
            have hI := hI0
            have hl := hl0
            clear hg hI0 hl0
            refine x_iast (t := 2) S hK hI rfl d_MD_settle_283 hf (fun M H locs hf hI => ?_)
            exact hret _ _ _ _ _ _ _ d_MD_settle_284 hf hI
          · have hf := b_if_f hc hf
            refine lv_iload_n S.1 S.2.1 d_MD_settle_67 rfl (lv_at hl 1 rfl) ?_
            refine lv_iload_n S.1 S.2.1 d_MD_settle_68 rfl (lv_at hl 2 rfl) ?_
            refine lv_iadd S.1 S.2.1 d_MD_settle_69 ?_
            refine lv_iconst (v := 1) S.1 S.2.1 d_MD_settle_70 (by decide) ?_
            refine lv_isub S.1 S.2.1 d_MD_settle_71 ?_
            refine x_istore (lv2 := [(0, .ref h0), (1, .int x1), (2, .int x2), (3, .int x3)]) S d_MD_settle_72 hl (by decide) [0, 1, 2, 3] rfl ⟨⟨(by decide : (0 : Nat) ≠ 4), fun h => absurd (show (0 : Nat) + 1 = 4 from h) (by decide)⟩, ⟨⟨(by decide : (1 : Nat) ≠ 4), fun h => absurd (show (1 : Nat) + 1 = 4 from h) (by decide)⟩, ⟨⟨(by decide : (2 : Nat) ≠ 4), fun h => absurd (show (2 : Nat) + 1 = 4 from h) (by decide)⟩, ⟨⟨(by decide : (3 : Nat) ≠ 4), fun _ => rfl⟩, trivial⟩⟩⟩⟩ (fun ls hl => ?_)
            refine lv_iload_n S.1 S.2.1 d_MD_settle_74 rfl (lv_at hl 2 rfl) ?_
            refine lv_iload_n S.1 S.2.1 d_MD_settle_75 rfl (lv_at hl 4 rfl) ?_
            refine lv_iadd S.1 S.2.1 d_MD_settle_76 ?_
            refine x_istore (lv2 := [(4, .int ((x1 + x2) - 1)), (0, .ref h0), (1, .int x1), (2, .int x2), (3, .int x3)]) S d_MD_settle_77 hl (by decide) [0, 1, 2, 3, 4] rfl ⟨⟨(by decide : (4 : Nat) ≠ 5), fun _ => rfl⟩, ⟨⟨(by decide : (0 : Nat) ≠ 5), fun h => absurd (show (0 : Nat) + 1 = 5 from h) (by decide)⟩, ⟨⟨(by decide : (1 : Nat) ≠ 5), fun h => absurd (show (1 : Nat) + 1 = 5 from h) (by decide)⟩, ⟨⟨(by decide : (2 : Nat) ≠ 5), fun h => absurd (show (2 : Nat) + 1 = 5 from h) (by decide)⟩, ⟨⟨(by decide : (3 : Nat) ≠ 5), fun h => absurd (show (3 : Nat) + 1 = 5 from h) (by decide)⟩, trivial⟩⟩⟩⟩⟩ (fun ls hl => ?_)
            refine lv_iload_n S.1 S.2.1 d_MD_settle_79 rfl (lv_at hl 4 rfl) ?_
            refine lv_if_le (tgt := 246) S.1 S.2.1 d_MD_settle_80 (by decide) (fun hc => ?_) (fun hc => ?_)
            · have hf := b_if_t hc hf
              exact w246 x1 x2 x3 ((x1 + x2) - 1) (x1 + x3) _ _ _ _ _ _ hf hI (lv_sub hl [2, 3, 4, 5, 1, 0] rfl)
            · have hf := b_if_f hc hf
              refine lv_aload_n S.1 S.2.1 d_MD_settle_83 rfl (lv_at hl 2 rfl) ?_
              refine lv_iload S.1 S.2.1 d_MD_settle_84 (lv_at hl 1 rfl) ?_
              refine lv_iload S.1 S.2.1 d_MD_settle_86 (lv_at hl 0 rfl) ?_
              obtain ⟨⟨fs60, hefs60⟩, hf⟩ := b_is_inv hf
              obtain ⟨v57, N58, hg59, hf⟩ := b_call_inv hf
              refine x_call hI (hm_mo hg59) (va_runV (As := [.int ((x1 + x2) - 1), .int (x1 + x3)]) (rest := []) S (c_MD_joins l hg59) (cwV 2 S.2.2.2.2 (gi_V wd_705 wd_706 wd_707 wd_564 wd_708) rfl rfl rfl (by decide +kernel) ⟨Nat.le_trans (Nat.le_of_ble_eq_true rfl) hRf.1, Nat.le_trans (Nat.le_of_ble_eq_true rfl) hRf.2⟩) ⟨hm_B.blind, va_recv hK (hI.1.one hefs60) (ci := 1) (q0 := 0) rfl rfl, fun U hU hW => ⟨rfl, hm_B.of hK hG hI hU hW⟩⟩ rfl rfl hl.1 rfl (lv_room (Nat.le_of_ble_eq_true rfl)) d_MD_settle_88 (hx_fit hI hR (hm_mo hg59) (hm_mo hf))) (fun H locs cells slots hI => ?_)
              refine W.eq (g2 := F0 m 91 ls [.int v57]) rfl ?_
              refine lv_if_eq (tgt := 246) S.1 S.2.1 d_MD_settle_91 (by decide) (fun hc => ?_) (fun hc => ?_)
              · have hf := b_if_t hc hf
                exact w246 x1 x2 x3 ((x1 + x2) - 1) (x1 + x3) _ _ _ _ _ _ hf hI (lv_sub hl [2, 3, 4, 5, 1, 0] rfl)
              · have hf := b_if_f hc hf
                refine lv_aload_n S.1 S.2.1 d_MD_settle_94 rfl (lv_at hl 2 rfl) ?_
                refine x_getR (ci := 1) (k := 27) S hK hI (fun w h => List.mem_cons_of_mem _ (i_MD w h)) rfl (by decide) (List.mem_cons_of_mem _ wd_548) rfl d_MD_settle_95 hf (fun r61 hf => ?_)
                refine lv_iload S.1 S.2.1 d_MD_settle_98 (lv_at hl 1 rfl) ?_
                refine lv_aload_n S.1 S.2.1 d_MD_settle_100 rfl (lv_at hl 2 rfl) ?_
                refine x_getR (ci := 1) (k := 27) S hK hI (fun w h => List.mem_cons_of_mem _ (i_MD w h)) rfl (by decide) (List.mem_cons_of_mem _ wd_548) rfl d_MD_settle_101 hf (fun r62 hf => ?_)
                refine lv_iload S.1 S.2.1 d_MD_settle_104 (lv_at hl 1 rfl) ?_
                obtain ⟨a63, ea63, hg⟩ := b_nn_inv hf
                have hI0 := hI
                have hl0 := hl
                clear hf hI hl
                subst ea63
                have hf := hg
                have hI := hI0
                have hl := hl0
                clear hg hI0 hl0
                refine x_zald (t := 5) S hK hI rfl d_MD_settle_106 hf (fun v64 hf => ?_)
                refine lv_if_ne (tgt := 121) S.1 S.2.1 d_MD_settle_107 (by decide) (fun hc => ?_) (fun hc => ?_)
                · have hf := b_if_f hc hf
                  exact w121 x1 x2 x3 ((x1 + x2) - 1) (x1 + x3) ((x1 + x2) - 1) r61 _ _ _ _ _ _ hf hI (lv_sub hl [2, 3, 4, 5, 1, 0] rfl)
                · have hf := b_if_t hc hf
                  refine lv_aload_n S.1 S.2.1 d_MD_settle_110 rfl (lv_at hl 2 rfl) ?_
                  refine lv_iload S.1 S.2.1 d_MD_settle_111 (lv_at hl 1 rfl) ?_
                  refine lv_iload S.1 S.2.1 d_MD_settle_113 (lv_at hl 0 rfl) ?_
                  obtain ⟨⟨fs68, hefs68⟩, hf⟩ := b_is_inv hf
                  obtain ⟨v65, N66, hg67, hf⟩ := b_call_inv hf
                  refine x_call hI (hm_mo hg67) (va_runV (As := [.int ((x1 + x2) - 1), .int (x1 + x3)]) (rest := [.int ((x1 + x2) - 1), va_rf r61]) S (c_MD_isWritten l hg67) (cwV 2 S.2.2.2.2 (gi_V wd_709 wd_710 wd_711 wd_564 wd_712) rfl rfl rfl (by decide +kernel) ⟨Nat.le_trans (Nat.le_of_ble_eq_true rfl) hRf.1, Nat.le_trans (Nat.le_of_ble_eq_true rfl) hRf.2⟩) ⟨hm_B.blind, va_recv hK (hI.1.one hefs68) (ci := 1) (q0 := 0) rfl rfl, fun U hU hW => ⟨rfl, hm_B.of hK hG hI hU hW⟩⟩ rfl rfl hl.1 rfl (lv_room (by simp only [List.map_cons, List.map_nil, List.sum_cons, List.sum_nil, rf_cat, cat_i, cat_l, cat_a, cat_n]; exact Nat.le_of_ble_eq_true rfl)) d_MD_settle_115 (hx_fit hI hR (hm_mo hg67) (hm_mo hf))) (fun H locs cells slots hI => ?_)
                  refine W.eq (g2 := F0 m 118 ls [.int v65, .int ((x1 + x2) - 1), va_rf r61]) rfl ?_
                  refine lv_if_ne (tgt := 125) S.1 S.2.1 d_MD_settle_118 (by decide) (fun hc => ?_) (fun hc => ?_)
                  · have hf := b_if_f hc hf
                    refine lv_iconst (v := 0) S.1 S.2.1 d_MD_settle_125 (by decide) ?_
                    exact w126 x1 x2 x3 ((x1 + x2) - 1) (x1 + x3) 0 ((x1 + x2) - 1) r61 _ _ _ _ _ _ hf hI (lv_sub hl [2, 3, 4, 5, 1, 0] rfl)
                  · have hf := b_if_t hc hf
                    exact w121 x1 x2 x3 ((x1 + x2) - 1) (x1 + x3) ((x1 + x2) - 1) r61 _ _ _ _ _ _ hf hI (lv_sub hl [2, 3, 4, 5, 1, 0] rfl)
      refine lv_iload_n S.1 S.2.1 d_MD_settle_7 rfl (lv_at hl 2 rfl) ?_
      refine lv_aload_n S.1 S.2.1 d_MD_settle_8 rfl (lv_at hl 0 rfl) ?_
      refine x_getI (ci := 1) (k := 28) S hK hI (fun w h => List.mem_cons_of_mem _ (i_MD w h)) rfl (by decide) (List.mem_cons_of_mem _ wd_629) rfl d_MD_settle_9 hf (fun v69 hf => ?_)
      refine lv_icmp_ge (tgt := 55) S.1 S.2.1 d_MD_settle_12 (by decide) (fun hc => ?_) (fun hc => ?_)
      · have hf := b_if_t hc hf
        refine lv_iconst (v := 0) S.1 S.2.1 d_MD_settle_55 (by decide) ?_
        refine x_istore_n (lv2 := [(0, .ref h0), (1, .int x1)]) S d_MD_settle_56 rfl hl (by decide) [0, 1] rfl ⟨⟨(by decide : (0 : Nat) ≠ 2), fun h => absurd (show (0 : Nat) + 1 = 2 from h) (by decide)⟩, ⟨⟨(by decide : (1 : Nat) ≠ 2), fun _ => rfl⟩, trivial⟩⟩ (fun ls hl => ?_)
        refine lv_iconst (v := 0) S.1 S.2.1 d_MD_settle_57 (by decide) ?_
        refine x_istore_n (lv2 := [(2, .int 0), (0, .ref h0), (1, .int x1)]) S d_MD_settle_58 rfl hl (by decide) [0, 1, 2] rfl ⟨⟨(by decide : (2 : Nat) ≠ 3), fun _ => rfl⟩, ⟨⟨(by decide : (0 : Nat) ≠ 3), fun h => absurd (show (0 : Nat) + 1 = 3 from h) (by decide)⟩, ⟨⟨(by decide : (1 : Nat) ≠ 3), fun h => absurd (show (1 : Nat) + 1 = 3 from h) (by decide)⟩, trivial⟩⟩⟩ (fun ls hl => ?_)
        exact w59 N x1 0 0 _ _ _ _ _ _ hf hI (lv_sub hl [2, 3, 1, 0] rfl)
      · have hf := b_if_f hc hf
        refine lv_iload_n S.1 S.2.1 d_MD_settle_15 rfl (lv_at hl 1 rfl) ?_
        refine lv_iload_n S.1 S.2.1 d_MD_settle_16 rfl (lv_at hl 2 rfl) ?_
        refine lv_iadd S.1 S.2.1 d_MD_settle_17 ?_
        refine x_istore_n (lv2 := [(0, .ref h0), (1, .int x1), (2, .int x2)]) S d_MD_settle_18 rfl hl (by decide) [0, 1, 2] rfl ⟨⟨(by decide : (0 : Nat) ≠ 3), fun h => absurd (show (0 : Nat) + 1 = 3 from h) (by decide)⟩, ⟨⟨(by decide : (1 : Nat) ≠ 3), fun h => absurd (show (1 : Nat) + 1 = 3 from h) (by decide)⟩, ⟨⟨(by decide : (2 : Nat) ≠ 3), fun _ => rfl⟩, trivial⟩⟩⟩ (fun ls hl => ?_)
        exact w19 N x1 x2 (x1 + x2) _ _ _ _ _ _ hf hI (lv_sub hl [1, 2, 3, 0] rfl)
  refine lv_aload_n S.1 S.2.1 d_MD_settle_0 rfl (lv_at hl 0 rfl) ?_
  obtain ⟨⟨fs73, hefs73⟩, hf⟩ := b_is_inv hf
  obtain ⟨v70, N71, hg72, hf⟩ := b_call_inv hf
  refine x_call hI (hm_mo hg72) (va_runV (As := []) (rest := []) S (c_MD_base l hg72) (cwV 0 S.2.2.2.2 (gi_V wd_630 wd_631 wd_632 wd_564 wd_633) rfl rfl rfl (by decide +kernel) ⟨Nat.le_trans (Nat.le_of_ble_eq_true rfl) hRf.1, Nat.le_trans (Nat.le_of_ble_eq_true rfl) hRf.2⟩) ⟨hm_B.blind, va_recv hK (hI.1.one hefs73) (ci := 1) (q0 := 0) rfl rfl, fun U hU hW => ⟨rfl, hm_B.of hK hG hI hU hW⟩⟩ rfl rfl hl.1 rfl (lv_room (Nat.le_of_ble_eq_true rfl)) d_MD_settle_1 (hx_fit hI hR (hm_mo hg72) (hm_mo hf))) (fun H locs cells slots hI => ?_)
  refine W.eq (g2 := F0 m 4 ls [.int v70]) rfl ?_
  refine x_istore_n (lv2 := [(0, .ref h0)]) S d_MD_settle_4 rfl hl (by decide) [0] rfl ⟨⟨(by decide : (0 : Nat) ≠ 1), fun _ => rfl⟩, trivial⟩ (fun ls hl => ?_)
  refine lv_iconst (v := 1) S.1 S.2.1 d_MD_settle_5 (by decide) ?_
  refine x_istore_n (lv2 := [(1, .int v70), (0, .ref h0)]) S d_MD_settle_6 rfl hl (by decide) [0, 1] rfl ⟨⟨(by decide : (1 : Nat) ≠ 2), fun _ => rfl⟩, ⟨⟨(by decide : (0 : Nat) ≠ 2), fun h => absurd (show (0 : Nat) + 1 = 2 from h) (by decide)⟩, trivial⟩⟩ (fun ls hl => ?_)
  exact w7 N v70 1 _ _ _ _ _ _ hf hI (lv_sub hl [2, 1, 0] rfl)
