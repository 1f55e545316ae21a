set_option maxHeartbeats 4000000 in
set_option maxRecDepth 100000 in
theorem c_MD_init (l : Launch) {D : va_G} {dA : Nat → ClassId} {aK aV : Nat → Nat} {z : Nat} {N : Nat} {h0 : Nat} {M : hM} {Z : Unit × hM} (hf : (f_MD_init N h0 ).1 M = some Z) : Met l y_MD_init w_MD_init ({ frames := 1, cells := Z.2.2.1 - M.2.1, slots := Z.2.2.2 - M.2.2, locals := 20 }) (va_Pc [.ref h0] (hm_B D dA hCl (hTy dA) sT aK aV z M)) (hm_Q D dA hCl (hTy dA) sT aK aV z none Z.2) (Z.2.2.1 - M.2.1) (Z.2.2.2 - M.2.2) (fun q => z ≤ q) := by
  refine Met.ofW (cc := b_MD_init) (maxL := 1) (ret := none) (by decide) rfl ?_
  intro p e s m args below meth c s₁ B hml hv
  obtain ⟨hav, hB⟩ := hv
  have S : CallFix p m c b_MD_init 1 s args w_MD_init R_MD := ⟨B.exec, B.bytes, hml, findClass_of_methodNamed B.named, atoms_spec (ws := w_MD_init) B.pre⟩
  have hr : meth.sig.returnType = none := B.returns
  have hlocks := B.notSynchronized
  have hin : meth.name = "<init>" := (name_of_methodNamed B.named B.method).1
  have hK := hB.2.2.1
  have hG := hB.2.2.2.2.2
  have hI := hm_I.start hB
  rw [← hB.2.1]
  generalize M.2.2 = k1 at hI ⊢
  refine W.eq (g2 := F0 m 0 ((lg_sl ([.ref h0]) ++ List.replicate (1 - (lg_sl ([.ref h0])).length) Slot.unset).toArray) []) (by rw [hav]; exact lg_entry_eq m ([.ref h0]) 1) ?_
  have hl := lv_entry ([.ref h0]) (n := 1) (Nat.le_of_ble_eq_true rfl)
  generalize (lg_sl ([.ref h0]) ++ List.replicate (1 - (lg_sl ([.ref h0])).length) Slot.unset).toArray = ls at hl ⊢
  simp only [lvA_nil, lvA_i, lvA_l, lvA_a, lvA_r, Nat.zero_add, Nat.reduceAdd] at hl
  have hret : ∀ (M : hM) (H : Heap) (locs : List Loc) (cells slots : Nat) (ls : Array Slot) (pc : Nat), decode b_MD_init pc = .ok (.return_, 1) → (b_ret ()).1 M = some Z → hm_I D dA hCl z k1 s M H locs cells slots → W p l e (headSpec w_MD_init { frames := 1, cells := Z.2.2.1 - s.heap.size, slots := Z.2.2.2 - k1, locals := 20 }).room s m args below meth c H locs cells slots (MQ below (hm_Q D dA hCl (hTy dA) sT aK aV z none Z.2) args s (Z.2.2.1 - s.heap.size) (Z.2.2.2 - k1) (fun q => z ≤ q)) (F0 m pc ls []) := fun M H locs cells slots ls pc hdg hf hI => x_retv S hK hG hI hr hlocks hdg hf
  have hR : Z.2.2.1 - s.heap.size ≤ (headSpec w_MD_init { frames := 1, cells := Z.2.2.1 - s.heap.size, slots := Z.2.2.2 - k1, locals := 20 }).room.cells ∧ Z.2.2.2 - k1 ≤ (headSpec w_MD_init { frames := 1, cells := Z.2.2.1 - s.heap.size, slots := Z.2.2.2 - k1, locals := 20 }).room.slots := ⟨Nat.le_refl _, Nat.le_refl _⟩
  have hRf : 1 ≤ (headSpec w_MD_init { frames := 1, cells := Z.2.2.1 - s.heap.size, slots := Z.2.2.2 - k1, locals := 20 }).room.frames ∧ 20 ≤ (headSpec w_MD_init { frames := 1, cells := Z.2.2.1 - s.heap.size, slots := Z.2.2.2 - k1, locals := 20 }).room.locals := ⟨Nat.le_refl _, Nat.le_refl _⟩
  generalize (headSpec w_MD_init { frames := 1, cells := Z.2.2.1 - s.heap.size, slots := Z.2.2.2 - k1, locals := 20 }).room = R at hret hR hRf ⊢
  generalize (MQ below (hm_Q D dA hCl (hTy dA) sT aK aV z none Z.2) args s (Z.2.2.1 - s.heap.size) (Z.2.2.2 - k1) (fun q => z ≤ q)) = Q at hret ⊢
  rw [e_MD_init] at hf
  refine lv_aload_n S.1 S.2.1 d_MD_init_0 rfl (lv_at hl 0 rfl) ?_
  refine W.objInit S.1 S.2.1 S.2.2.2.1 (S.2.2.2.2 _ (List.mem_cons_of_mem _ wd_507)) (S.2.2.2.2 _ (List.mem_cons_of_mem _ wd_1)) (S.2.2.2.2 _ (List.mem_cons_of_mem _ wd_2)) rfl (by rw [S.2.2.1]; exact hl.1) rfl d_MD_init_1 (Nat.le_trans (Nat.le_of_ble_eq_true rfl) hRf.1) (Nat.le_trans (Nat.le_of_ble_eq_true rfl) hRf.2) ?_
  refine W.eq (g2 := F0 m 4 ls []) rfl ?_
  refine lv_aload_n S.1 S.2.1 d_MD_init_4 rfl (lv_at hl 0 rfl) ?_
  refine lv_sipush (v := 2000) S.1 S.2.1 d_MD_init_5 (by decide) ?_
  refine x_newa (t := 6) (atype := .byte) S hK hI hR (List.mem_cons_of_mem _ wd_508) rfl (by decide) rfl (fun h => h) d_MD_init_8 hf (fun q1 M H hf hI => ?_)
  refine x_put (ci := 1) (k := 1) S hK hI (fun w h => List.mem_cons_of_mem _ (i_MD w h)) t_MD t_MD_ok n_MD rfl (by decide) (List.mem_cons_of_mem _ wd_509) rfl (Or.inr ⟨rfl, hin, rfl⟩) (by rfl) rfl d_MD_init_10 hf (fun M H locs hf hI => ?_)
  refine lv_aload_n S.1 S.2.1 d_MD_init_13 rfl (lv_at hl 0 rfl) ?_
  refine lv_iconst (v := 5) S.1 S.2.1 d_MD_init_14 (by decide) ?_
  refine x_newL (t := 7) (atype := .long) S hK hI hR (List.mem_cons_of_mem _ wd_510) rfl (by decide) rfl (fun h => h) d_MD_init_15 hf (fun q2 M H hf hI => ?_)
  refine lv_dup S.1 S.2.1 d_MD_init_17 rfl ?_
  refine lv_iconst (v := 0) S.1 S.2.1 d_MD_init_18 (by decide) ?_
  refine lv_ldc2 (v := 7501166) S.1 S.2.1 S.2.2.2.1 (S.2.2.2.2 _ (List.mem_cons_of_mem _ wd_511)) d_MD_init_19 ?_
  refine x_last (t := 7) S hK hI rfl d_MD_init_22 hf (fun M H locs hf hI => ?_)
  refine lv_dup S.1 S.2.1 d_MD_init_23 rfl ?_
  refine lv_iconst (v := 1) S.1 S.2.1 d_MD_init_24 (by decide) ?_
  refine lv_ldc2 (v := 422876638308) S.1 S.2.1 S.2.2.2.1 (S.2.2.2.2 _ (List.mem_cons_of_mem _ wd_512)) d_MD_init_25 ?_
  refine x_last (t := 7) S hK hI rfl d_MD_init_28 hf (fun M H locs hf hI => ?_)
  refine lv_dup S.1 S.2.1 d_MD_init_29 rfl ?_
  refine lv_iconst (v := 2) S.1 S.2.1 d_MD_init_30 (by decide) ?_
  refine lv_ldc2 (v := 1952805748) S.1 S.2.1 S.2.2.2.1 (S.2.2.2.2 _ (List.mem_cons_of_mem _ wd_513)) d_MD_init_31 ?_
  refine x_last (t := 7) S hK hI rfl d_MD_init_34 hf (fun M H locs hf hI => ?_)
  refine lv_dup S.1 S.2.1 d_MD_init_35 rfl ?_
  refine lv_iconst (v := 3) S.1 S.2.1 d_MD_init_36 (by decide) ?_
  refine lv_ldc2 (v := 8030046131791487340) S.1 S.2.1 S.2.2.2.1 (S.2.2.2.2 _ (List.mem_cons_of_mem _ wd_514)) d_MD_init_37 ?_
  refine x_last (t := 7) S hK hI rfl d_MD_init_40 hf (fun M H locs hf hI => ?_)
  refine lv_dup S.1 S.2.1 d_MD_init_41 rfl ?_
  refine lv_iconst (v := 4) S.1 S.2.1 d_MD_init_42 (by decide) ?_
  refine lv_ldc2 (v := 1885693298) S.1 S.2.1 S.2.2.2.1 (S.2.2.2.2 _ (List.mem_cons_of_mem _ wd_515)) d_MD_init_43 ?_
  refine x_last (t := 7) S hK hI rfl d_MD_init_46 hf (fun M H locs hf hI => ?_)
  refine x_put (ci := 1) (k := 8) S hK hI (fun w h => List.mem_cons_of_mem _ (i_MD w h)) t_MD t_MD_ok n_MD rfl (by decide) (List.mem_cons_of_mem _ wd_516) rfl (Or.inr ⟨rfl, hin, rfl⟩) (by rfl) rfl d_MD_init_47 hf (fun M H locs hf hI => ?_)
  refine lv_aload_n S.1 S.2.1 d_MD_init_50 rfl (lv_at hl 0 rfl) ?_
  refine lv_bipush (v := 12) S.1 S.2.1 d_MD_init_51 (by decide) ?_
  refine x_newL (t := 7) (atype := .long) S hK hI hR (List.mem_cons_of_mem _ wd_510) rfl (by decide) rfl (fun h => h) d_MD_init_53 hf (fun q3 M H hf hI => ?_)
  refine lv_dup S.1 S.2.1 d_MD_init_55 rfl ?_
  refine lv_iconst (v := 0) S.1 S.2.1 d_MD_init_56 (by decide) ?_
  refine lv_ldc2 (v := 1852138852) S.1 S.2.1 S.2.2.2.1 (S.2.2.2.2 _ (List.mem_cons_of_mem _ wd_517)) d_MD_init_57 ?_
  refine x_last (t := 7) S hK hI rfl d_MD_init_60 hf (fun M H locs hf hI => ?_)
  refine lv_dup S.1 S.2.1 d_MD_init_61 rfl ?_
  refine lv_iconst (v := 1) S.1 S.2.1 d_MD_init_62 (by decide) ?_
  refine lv_ldc2 (v := 7165066918354314100) S.1 S.2.1 S.2.2.2.1 (S.2.2.2.2 _ (List.mem_cons_of_mem _ wd_518)) d_MD_init_63 ?_
  refine x_last (t := 7) S hK hI rfl d_MD_init_66 hf (fun M H locs hf hI => ?_)
  refine lv_dup S.1 S.2.1 d_MD_init_67 rfl ?_
  refine lv_iconst (v := 2) S.1 S.2.1 d_MD_init_68 (by decide) ?_
  refine lv_ldc2 (v := 32199680874079077) S.1 S.2.1 S.2.2.2.1 (S.2.2.2.2 _ (List.mem_cons_of_mem _ wd_519)) d_MD_init_69 ?_
  refine x_last (t := 7) S hK hI rfl d_MD_init_72 hf (fun M H locs hf hI => ?_)
  refine lv_dup S.1 S.2.1 d_MD_init_73 rfl ?_
  refine lv_iconst (v := 3) S.1 S.2.1 d_MD_init_74 (by decide) ?_
  refine lv_ldc2 (v := 31651020445148261) S.1 S.2.1 S.2.2.2.1 (S.2.2.2.2 _ (List.mem_cons_of_mem _ wd_520)) d_MD_init_75 ?_
  refine x_last (t := 7) S hK hI rfl d_MD_init_78 hf (fun M H locs hf hI => ?_)
  refine lv_dup S.1 S.2.1 d_MD_init_79 rfl ?_
  refine lv_iconst (v := 4) S.1 S.2.1 d_MD_init_80 (by decide) ?_
  refine lv_ldc2 (v := 6385273) S.1 S.2.1 S.2.2.2.1 (S.2.2.2.2 _ (List.mem_cons_of_mem _ wd_521)) d_MD_init_81 ?_
  refine x_last (t := 7) S hK hI rfl d_MD_init_84 hf (fun M H locs hf hI => ?_)
  refine lv_dup S.1 S.2.1 d_MD_init_85 rfl ?_
  refine lv_iconst (v := 5) S.1 S.2.1 d_MD_init_86 (by decide) ?_
  refine lv_ldc2 (v := 28821916864574053) S.1 S.2.1 S.2.2.2.1 (S.2.2.2.2 _ (List.mem_cons_of_mem _ wd_522)) d_MD_init_87 ?_
  refine x_last (t := 7) S hK hI rfl d_MD_init_90 hf (fun M H locs hf hI => ?_)
  refine lv_dup S.1 S.2.1 d_MD_init_91 rfl ?_
  refine lv_bipush (v := 6) S.1 S.2.1 d_MD_init_92 (by decide) ?_
  refine lv_ldc2 (v := 28258988067220596) S.1 S.2.1 S.2.2.2.1 (S.2.2.2.2 _ (List.mem_cons_of_mem _ wd_523)) d_MD_init_94 ?_
  refine x_last (t := 7) S hK hI rfl d_MD_init_97 hf (fun M H locs hf hI => ?_)
  refine lv_dup S.1 S.2.1 d_MD_init_98 rfl ?_
  refine lv_bipush (v := 7) S.1 S.2.1 d_MD_init_99 (by decide) ?_
  refine lv_ldc2 (v := 8100956982295360109) S.1 S.2.1 S.2.2.2.1 (S.2.2.2.2 _ (List.mem_cons_of_mem _ wd_524)) d_MD_init_101 ?_
  refine x_last (t := 7) S hK hI rfl d_MD_init_104 hf (fun M H locs hf hI => ?_)
  refine lv_dup S.1 S.2.1 d_MD_init_105 rfl ?_
  refine lv_bipush (v := 8) S.1 S.2.1 d_MD_init_106 (by decide) ?_
  refine lv_ldc2 (v := 30515173109162853) S.1 S.2.1 S.2.2.2.1 (S.2.2.2.2 _ (List.mem_cons_of_mem _ wd_525)) d_MD_init_108 ?_
  refine x_last (t := 7) S hK hI rfl d_MD_init_111 hf (fun M H locs hf hI => ?_)
  refine lv_dup S.1 S.2.1 d_MD_init_112 rfl ?_
  refine lv_bipush (v := 9) S.1 S.2.1 d_MD_init_113 (by decide) ?_
  refine lv_ldc2 (v := 118083237733746) S.1 S.2.1 S.2.2.2.1 (S.2.2.2.2 _ (List.mem_cons_of_mem _ wd_526)) d_MD_init_115 ?_
  refine x_last (t := 7) S hK hI rfl d_MD_init_118 hf (fun M H locs hf hI => ?_)
  refine lv_dup S.1 S.2.1 d_MD_init_119 rfl ?_
  refine lv_bipush (v := 10) S.1 S.2.1 d_MD_init_120 (by decide) ?_
  refine lv_ldc2 (v := 126870958469236) S.1 S.2.1 S.2.2.2.1 (S.2.2.2.2 _ (List.mem_cons_of_mem _ wd_527)) d_MD_init_122 ?_
  refine x_last (t := 7) S hK hI rfl d_MD_init_125 hf (fun M H locs hf hI => ?_)
  refine lv_dup S.1 S.2.1 d_MD_init_126 rfl ?_
  refine lv_bipush (v := 11) S.1 S.2.1 d_MD_init_127 (by decide) ?_
  refine lv_ldc2 (v := 1718185061) S.1 S.2.1 S.2.2.2.1 (S.2.2.2.2 _ (List.mem_cons_of_mem _ wd_528)) d_MD_init_129 ?_
  refine x_last (t := 7) S hK hI rfl d_MD_init_132 hf (fun M H locs hf hI => ?_)
  refine x_put (ci := 1) (k := 9) S hK hI (fun w h => List.mem_cons_of_mem _ (i_MD w h)) t_MD t_MD_ok n_MD rfl (by decide) (List.mem_cons_of_mem _ wd_529) rfl (Or.inr ⟨rfl, hin, rfl⟩) (by rfl) rfl d_MD_init_133 hf (fun M H locs hf hI => ?_)
  refine lv_aload_n S.1 S.2.1 d_MD_init_136 rfl (lv_at hl 0 rfl) ?_
  refine lv_bipush (v := 12) S.1 S.2.1 d_MD_init_137 (by decide) ?_
  refine x_newa (t := 2) (atype := .int) S hK hI hR (List.mem_cons_of_mem _ wd_18) rfl (by decide) rfl (fun h => h) d_MD_init_139 hf (fun q4 M H hf hI => ?_)
  refine lv_dup S.1 S.2.1 d_MD_init_141 rfl ?_
  refine lv_iconst (v := 0) S.1 S.2.1 d_MD_init_142 (by decide) ?_
  refine lv_iconst (v := 0) S.1 S.2.1 d_MD_init_143 (by decide) ?_
  refine x_iast (t := 2) S hK hI rfl d_MD_init_144 hf (fun M H locs hf hI => ?_)
  refine lv_dup S.1 S.2.1 d_MD_init_145 rfl ?_
  refine lv_iconst (v := 1) S.1 S.2.1 d_MD_init_146 (by decide) ?_
  refine lv_iconst (v := 5) S.1 S.2.1 d_MD_init_147 (by decide) ?_
  refine x_iast (t := 2) S hK hI rfl d_MD_init_148 hf (fun M H locs hf hI => ?_)
  refine lv_dup S.1 S.2.1 d_MD_init_149 rfl ?_
  refine lv_iconst (v := 2) S.1 S.2.1 d_MD_init_150 (by decide) ?_
  refine lv_bipush (v := 6) S.1 S.2.1 d_MD_init_151 (by decide) ?_
  refine x_iast (t := 2) S hK hI rfl d_MD_init_153 hf (fun M H locs hf hI => ?_)
  refine lv_dup S.1 S.2.1 d_MD_init_154 rfl ?_
  refine lv_iconst (v := 3) S.1 S.2.1 d_MD_init_155 (by decide) ?_
  refine lv_bipush (v := 7) S.1 S.2.1 d_MD_init_156 (by decide) ?_
  refine x_iast (t := 2) S hK hI rfl d_MD_init_158 hf (fun M H locs hf hI => ?_)
  refine lv_dup S.1 S.2.1 d_MD_init_159 rfl ?_
  refine lv_iconst (v := 4) S.1 S.2.1 d_MD_init_160 (by decide) ?_
  refine lv_bipush (v := 8) S.1 S.2.1 d_MD_init_161 (by decide) ?_
  refine x_iast (t := 2) S hK hI rfl d_MD_init_163 hf (fun M H locs hf hI => ?_)
  refine lv_dup S.1 S.2.1 d_MD_init_164 rfl ?_
  refine lv_iconst (v := 5) S.1 S.2.1 d_MD_init_165 (by decide) ?_
  refine lv_bipush (v := 9) S.1 S.2.1 d_MD_init_166 (by decide) ?_
  refine x_iast (t := 2) S hK hI rfl d_MD_init_168 hf (fun M H locs hf hI => ?_)
  refine lv_dup S.1 S.2.1 d_MD_init_169 rfl ?_
  refine lv_bipush (v := 6) S.1 S.2.1 d_MD_init_170 (by decide) ?_
  refine lv_bipush (v := 10) S.1 S.2.1 d_MD_init_172 (by decide) ?_
  refine x_iast (t := 2) S hK hI rfl d_MD_init_174 hf (fun M H locs hf hI => ?_)
  refine lv_dup S.1 S.2.1 d_MD_init_175 rfl ?_
  refine lv_bipush (v := 7) S.1 S.2.1 d_MD_init_176 (by decide) ?_
  refine lv_bipush (v := 11) S.1 S.2.1 d_MD_init_178 (by decide) ?_
  refine x_iast (t := 2) S hK hI rfl d_MD_init_180 hf (fun M H locs hf hI => ?_)
  refine lv_dup S.1 S.2.1 d_MD_init_181 rfl ?_
  refine lv_bipush (v := 8) S.1 S.2.1 d_MD_init_182 (by decide) ?_
  refine lv_bipush (v := 12) S.1 S.2.1 d_MD_init_184 (by decide) ?_
  refine x_iast (t := 2) S hK hI rfl d_MD_init_186 hf (fun M H locs hf hI => ?_)
  refine lv_dup S.1 S.2.1 d_MD_init_187 rfl ?_
  refine lv_bipush (v := 9) S.1 S.2.1 d_MD_init_188 (by decide) ?_
  refine lv_bipush (v := 13) S.1 S.2.1 d_MD_init_190 (by decide) ?_
  refine x_iast (t := 2) S hK hI rfl d_MD_init_192 hf (fun M H locs hf hI => ?_)
  refine lv_dup S.1 S.2.1 d_MD_init_193 rfl ?_
  refine lv_bipush (v := 10) S.1 S.2.1 d_MD_init_194 (by decide) ?_
  refine lv_bipush (v := 14) S.1 S.2.1 d_MD_init_196 (by decide) ?_
  refine x_iast (t := 2) S hK hI rfl d_MD_init_198 hf (fun M H locs hf hI => ?_)
  refine lv_dup S.1 S.2.1 d_MD_init_199 rfl ?_
  refine lv_bipush (v := 11) S.1 S.2.1 d_MD_init_200 (by decide) ?_
  refine lv_bipush (v := 15) S.1 S.2.1 d_MD_init_202 (by decide) ?_
  refine x_iast (t := 2) S hK hI rfl d_MD_init_204 hf (fun M H locs hf hI => ?_)
  refine x_put (ci := 1) (k := 10) S hK hI (fun w h => List.mem_cons_of_mem _ (i_MD w h)) t_MD t_MD_ok n_MD rfl (by decide) (List.mem_cons_of_mem _ wd_530) rfl (Or.inr ⟨rfl, hin, rfl⟩) (by rfl) rfl d_MD_init_205 hf (fun M H locs hf hI => ?_)
  refine lv_aload_n S.1 S.2.1 d_MD_init_208 rfl (lv_at hl 0 rfl) ?_
  refine lv_bipush (v := 41) S.1 S.2.1 d_MD_init_209 (by decide) ?_
  refine x_newa (t := 2) (atype := .int) S hK hI hR (List.mem_cons_of_mem _ wd_18) rfl (by decide) rfl (fun h => h) d_MD_init_211 hf (fun q5 M H hf hI => ?_)
  refine x_put (ci := 1) (k := 12) S hK hI (fun w h => List.mem_cons_of_mem _ (i_MD w h)) t_MD t_MD_ok n_MD rfl (by decide) (List.mem_cons_of_mem _ wd_531) rfl (Or.inr ⟨rfl, hin, rfl⟩) (by rfl) rfl d_MD_init_213 hf (fun M H locs hf hI => ?_)
  refine lv_aload_n S.1 S.2.1 d_MD_init_216 rfl (lv_at hl 0 rfl) ?_
  refine lv_bipush (v := 41) S.1 S.2.1 d_MD_init_217 (by decide) ?_
  refine x_newa (t := 2) (atype := .int) S hK hI hR (List.mem_cons_of_mem _ wd_18) rfl (by decide) rfl (fun h => h) d_MD_init_219 hf (fun q6 M H hf hI => ?_)
  refine x_put (ci := 1) (k := 13) S hK hI (fun w h => List.mem_cons_of_mem _ (i_MD w h)) t_MD t_MD_ok n_MD rfl (by decide) (List.mem_cons_of_mem _ wd_532) rfl (Or.inr ⟨rfl, hin, rfl⟩) (by rfl) rfl d_MD_init_221 hf (fun M H locs hf hI => ?_)
  refine lv_aload_n S.1 S.2.1 d_MD_init_224 rfl (lv_at hl 0 rfl) ?_
  refine lv_bipush (v := 41) S.1 S.2.1 d_MD_init_225 (by decide) ?_
  refine x_newa (t := 2) (atype := .int) S hK hI hR (List.mem_cons_of_mem _ wd_18) rfl (by decide) rfl (fun h => h) d_MD_init_227 hf (fun q7 M H hf hI => ?_)
  refine x_put (ci := 1) (k := 14) S hK hI (fun w h => List.mem_cons_of_mem _ (i_MD w h)) t_MD t_MD_ok n_MD rfl (by decide) (List.mem_cons_of_mem _ wd_533) rfl (Or.inr ⟨rfl, hin, rfl⟩) (by rfl) rfl d_MD_init_229 hf (fun M H locs hf hI => ?_)
  refine lv_aload_n S.1 S.2.1 d_MD_init_232 rfl (lv_at hl 0 rfl) ?_
  refine lv_sipush (v := 820) S.1 S.2.1 d_MD_init_233 (by decide) ?_
  refine x_newa (t := 6) (atype := .byte) S hK hI hR (List.mem_cons_of_mem _ wd_508) rfl (by decide) rfl (fun h => h) d_MD_init_236 hf (fun q8 M H hf hI => ?_)
  refine x_put (ci := 1) (k := 15) S hK hI (fun w h => List.mem_cons_of_mem _ (i_MD w h)) t_MD t_MD_ok n_MD rfl (by decide) (List.mem_cons_of_mem _ wd_534) rfl (Or.inr ⟨rfl, hin, rfl⟩) (by rfl) rfl d_MD_init_238 hf (fun M H locs hf hI => ?_)
  refine lv_aload_n S.1 S.2.1 d_MD_init_241 rfl (lv_at hl 0 rfl) ?_
  refine lv_bipush (v := 41) S.1 S.2.1 d_MD_init_242 (by decide) ?_
  refine x_newL (t := 7) (atype := .long) S hK hI hR (List.mem_cons_of_mem _ wd_510) rfl (by decide) rfl (fun h => h) d_MD_init_244 hf (fun q9 M H hf hI => ?_)
  refine x_put (ci := 1) (k := 16) S hK hI (fun w h => List.mem_cons_of_mem _ (i_MD w h)) t_MD t_MD_ok n_MD rfl (by decide) (List.mem_cons_of_mem _ wd_535) rfl (Or.inr ⟨rfl, hin, rfl⟩) (by rfl) rfl d_MD_init_246 hf (fun M H locs hf hI => ?_)
  refine lv_aload_n S.1 S.2.1 d_MD_init_249 rfl (lv_at hl 0 rfl) ?_
  refine lv_ldc (v := 205000) S.1 S.2.1 S.2.2.2.1 (S.2.2.2.2 _ (List.mem_cons_of_mem _ wd_536)) d_MD_init_250 ?_
  refine x_newa (t := 6) (atype := .byte) S hK hI hR (List.mem_cons_of_mem _ wd_508) rfl (by decide) rfl (fun h => h) d_MD_init_252 hf (fun q10 M H hf hI => ?_)
  refine x_put (ci := 1) (k := 17) S hK hI (fun w h => List.mem_cons_of_mem _ (i_MD w h)) t_MD t_MD_ok n_MD rfl (by decide) (List.mem_cons_of_mem _ wd_537) rfl (Or.inr ⟨rfl, hin, rfl⟩) (by rfl) rfl d_MD_init_254 hf (fun M H locs hf hI => ?_)
  refine lv_aload_n S.1 S.2.1 d_MD_init_257 rfl (lv_at hl 0 rfl) ?_
  refine lv_sipush (v := 10250) S.1 S.2.1 d_MD_init_258 (by decide) ?_
  refine x_newa (t := 2) (atype := .int) S hK hI hR (List.mem_cons_of_mem _ wd_18) rfl (by decide) rfl (fun h => h) d_MD_init_261 hf (fun q11 M H hf hI => ?_)
  refine x_put (ci := 1) (k := 18) S hK hI (fun w h => List.mem_cons_of_mem _ (i_MD w h)) t_MD t_MD_ok n_MD rfl (by decide) (List.mem_cons_of_mem _ wd_538) rfl (Or.inr ⟨rfl, hin, rfl⟩) (by rfl) rfl d_MD_init_263 hf (fun M H locs hf hI => ?_)
  refine lv_aload_n S.1 S.2.1 d_MD_init_266 rfl (lv_at hl 0 rfl) ?_
  refine lv_sipush (v := 8200) S.1 S.2.1 d_MD_init_267 (by decide) ?_
  refine x_newa (t := 6) (atype := .byte) S hK hI hR (List.mem_cons_of_mem _ wd_508) rfl (by decide) rfl (fun h => h) d_MD_init_270 hf (fun q12 M H hf hI => ?_)
  refine x_put (ci := 1) (k := 19) S hK hI (fun w h => List.mem_cons_of_mem _ (i_MD w h)) t_MD t_MD_ok n_MD rfl (by decide) (List.mem_cons_of_mem _ wd_539) rfl (Or.inr ⟨rfl, hin, rfl⟩) (by rfl) rfl d_MD_init_272 hf (fun M H locs hf hI => ?_)
  refine lv_aload_n S.1 S.2.1 d_MD_init_275 rfl (lv_at hl 0 rfl) ?_
  refine lv_sipush (v := 8200) S.1 S.2.1 d_MD_init_276 (by decide) ?_
  refine x_newa (t := 2) (atype := .int) S hK hI hR (List.mem_cons_of_mem _ wd_18) rfl (by decide) rfl (fun h => h) d_MD_init_279 hf (fun q13 M H hf hI => ?_)
  refine x_put (ci := 1) (k := 20) S hK hI (fun w h => List.mem_cons_of_mem _ (i_MD w h)) t_MD t_MD_ok n_MD rfl (by decide) (List.mem_cons_of_mem _ wd_540) rfl (Or.inr ⟨rfl, hin, rfl⟩) (by rfl) rfl d_MD_init_281 hf (fun M H locs hf hI => ?_)
  refine lv_aload_n S.1 S.2.1 d_MD_init_284 rfl (lv_at hl 0 rfl) ?_
  refine lv_sipush (v := 8200) S.1 S.2.1 d_MD_init_285 (by decide) ?_
  refine x_newa (t := 2) (atype := .int) S hK hI hR (List.mem_cons_of_mem _ wd_18) rfl (by decide) rfl (fun h => h) d_MD_init_288 hf (fun q14 M H hf hI => ?_)
  refine x_put (ci := 1) (k := 21) S hK hI (fun w h => List.mem_cons_of_mem _ (i_MD w h)) t_MD t_MD_ok n_MD rfl (by decide) (List.mem_cons_of_mem _ wd_541) rfl (Or.inr ⟨rfl, hin, rfl⟩) (by rfl) rfl d_MD_init_290 hf (fun M H locs hf hI => ?_)
  refine lv_aload_n S.1 S.2.1 d_MD_init_293 rfl (lv_at hl 0 rfl) ?_
  refine lv_sipush (v := 8200) S.1 S.2.1 d_MD_init_294 (by decide) ?_
  refine x_newa (t := 2) (atype := .int) S hK hI hR (List.mem_cons_of_mem _ wd_18) rfl (by decide) rfl (fun h => h) d_MD_init_297 hf (fun q15 M H hf hI => ?_)
  refine x_put (ci := 1) (k := 22) S hK hI (fun w h => List.mem_cons_of_mem _ (i_MD w h)) t_MD t_MD_ok n_MD rfl (by decide) (List.mem_cons_of_mem _ wd_542) rfl (Or.inr ⟨rfl, hin, rfl⟩) (by rfl) rfl d_MD_init_299 hf (fun M H locs hf hI => ?_)
  refine lv_aload_n S.1 S.2.1 d_MD_init_302 rfl (lv_at hl 0 rfl) ?_
  refine lv_ldc (v := 164000) S.1 S.2.1 S.2.2.2.1 (S.2.2.2.2 _ (List.mem_cons_of_mem _ wd_543)) d_MD_init_303 ?_
  refine x_newa (t := 6) (atype := .byte) S hK hI hR (List.mem_cons_of_mem _ wd_508) rfl (by decide) rfl (fun h => h) d_MD_init_305 hf (fun q16 M H hf hI => ?_)
  refine x_put (ci := 1) (k := 23) S hK hI (fun w h => List.mem_cons_of_mem _ (i_MD w h)) t_MD t_MD_ok n_MD rfl (by decide) (List.mem_cons_of_mem _ wd_544) rfl (Or.inr ⟨rfl, hin, rfl⟩) (by rfl) rfl d_MD_init_307 hf (fun M H locs hf hI => ?_)
  refine lv_aload_n S.1 S.2.1 d_MD_init_310 rfl (lv_at hl 0 rfl) ?_
  refine lv_ldc (v := 164000) S.1 S.2.1 S.2.2.2.1 (S.2.2.2.2 _ (List.mem_cons_of_mem _ wd_543)) d_MD_init_311 ?_
  refine x_newa (t := 6) (atype := .byte) S hK hI hR (List.mem_cons_of_mem _ wd_508) rfl (by decide) rfl (fun h => h) d_MD_init_313 hf (fun q17 M H hf hI => ?_)
  refine x_put (ci := 1) (k := 24) S hK hI (fun w h => List.mem_cons_of_mem _ (i_MD w h)) t_MD t_MD_ok n_MD rfl (by decide) (List.mem_cons_of_mem _ wd_545) rfl (Or.inr ⟨rfl, hin, rfl⟩) (by rfl) rfl d_MD_init_315 hf (fun M H locs hf hI => ?_)
  refine lv_aload_n S.1 S.2.1 d_MD_init_318 rfl (lv_at hl 0 rfl) ?_
  refine lv_sipush (v := 8200) S.1 S.2.1 d_MD_init_319 (by decide) ?_
  refine x_newL (t := 7) (atype := .long) S hK hI hR (List.mem_cons_of_mem _ wd_510) rfl (by decide) rfl (fun h => h) d_MD_init_322 hf (fun q18 M H hf hI => ?_)
  refine x_put (ci := 1) (k := 25) S hK hI (fun w h => List.mem_cons_of_mem _ (i_MD w h)) t_MD t_MD_ok n_MD rfl (by decide) (List.mem_cons_of_mem _ wd_546) rfl (Or.inr ⟨rfl, hin, rfl⟩) (by rfl) rfl d_MD_init_324 hf (fun M H locs hf hI => ?_)
  refine lv_aload_n S.1 S.2.1 d_MD_init_327 rfl (lv_at hl 0 rfl) ?_
  refine lv_sipush (v := 8200) S.1 S.2.1 d_MD_init_328 (by decide) ?_
  refine x_newL (t := 7) (atype := .long) S hK hI hR (List.mem_cons_of_mem _ wd_510) rfl (by decide) rfl (fun h => h) d_MD_init_331 hf (fun q19 M H hf hI => ?_)
  refine x_put (ci := 1) (k := 26) S hK hI (fun w h => List.mem_cons_of_mem _ (i_MD w h)) t_MD t_MD_ok n_MD rfl (by decide) (List.mem_cons_of_mem _ wd_547) rfl (Or.inr ⟨rfl, hin, rfl⟩) (by rfl) rfl d_MD_init_333 hf (fun M H locs hf hI => ?_)
  refine lv_aload_n S.1 S.2.1 d_MD_init_336 rfl (lv_at hl 0 rfl) ?_
  refine lv_sipush (v := 8200) S.1 S.2.1 d_MD_init_337 (by decide) ?_
  refine x_newa (t := 5) (atype := .boolean) S hK hI hR (List.mem_cons_of_mem _ wd_41) rfl (by decide) rfl (fun h => h) d_MD_init_340 hf (fun q20 M H hf hI => ?_)
  refine x_put (ci := 1) (k := 27) S hK hI (fun w h => List.mem_cons_of_mem _ (i_MD w h)) t_MD t_MD_ok n_MD rfl (by decide) (List.mem_cons_of_mem _ wd_548) rfl (Or.inr ⟨rfl, hin, rfl⟩) (by rfl) rfl d_MD_init_342 hf (fun M H locs hf hI => ?_)
  refine lv_aload_n S.1 S.2.1 d_MD_init_345 rfl (lv_at hl 0 rfl) ?_
  refine lv_sipush (v := 201) S.1 S.2.1 d_MD_init_346 (by decide) ?_
  refine x_newa (t := 2) (atype := .int) S hK hI hR (List.mem_cons_of_mem _ wd_18) rfl (by decide) rfl (fun h => h) d_MD_init_349 hf (fun q21 M H hf hI => ?_)
  refine x_put (ci := 1) (k := 35) S hK hI (fun w h => List.mem_cons_of_mem _ (i_MD w h)) t_MD t_MD_ok n_MD rfl (by decide) (List.mem_cons_of_mem _ wd_549) rfl (Or.inr ⟨rfl, hin, rfl⟩) (by rfl) rfl d_MD_init_351 hf (fun M H locs hf hI => ?_)
  refine lv_aload_n S.1 S.2.1 d_MD_init_354 rfl (lv_at hl 0 rfl) ?_
  refine lv_sipush (v := 201) S.1 S.2.1 d_MD_init_355 (by decide) ?_
  refine x_newa (t := 2) (atype := .int) S hK hI hR (List.mem_cons_of_mem _ wd_18) rfl (by decide) rfl (fun h => h) d_MD_init_358 hf (fun q22 M H hf hI => ?_)
  refine x_put (ci := 1) (k := 36) S hK hI (fun w h => List.mem_cons_of_mem _ (i_MD w h)) t_MD t_MD_ok n_MD rfl (by decide) (List.mem_cons_of_mem _ wd_550) rfl (Or.inr ⟨rfl, hin, rfl⟩) (by rfl) rfl d_MD_init_360 hf (fun M H locs hf hI => ?_)
  refine lv_aload_n S.1 S.2.1 d_MD_init_363 rfl (lv_at hl 0 rfl) ?_
  refine lv_bipush (v := 20) S.1 S.2.1 d_MD_init_364 (by decide) ?_
  refine x_newa (t := 6) (atype := .byte) S hK hI hR (List.mem_cons_of_mem _ wd_508) rfl (by decide) rfl (fun h => h) d_MD_init_366 hf (fun q23 M H hf hI => ?_)
  refine x_put (ci := 1) (k := 37) S hK hI (fun w h => List.mem_cons_of_mem _ (i_MD w h)) t_MD t_MD_ok n_MD rfl (by decide) (List.mem_cons_of_mem _ wd_551) rfl (Or.inr ⟨rfl, hin, rfl⟩) (by rfl) rfl d_MD_init_368 hf (fun M H locs hf hI => ?_)
  refine lv_aload_n S.1 S.2.1 d_MD_init_371 rfl (lv_at hl 0 rfl) ?_
  refine lv_bipush (v := 20) S.1 S.2.1 d_MD_init_372 (by decide) ?_
  refine x_newa (t := 6) (atype := .byte) S hK hI hR (List.mem_cons_of_mem _ wd_508) rfl (by decide) rfl (fun h => h) d_MD_init_374 hf (fun q24 M H hf hI => ?_)
  refine x_put (ci := 1) (k := 38) S hK hI (fun w h => List.mem_cons_of_mem _ (i_MD w h)) t_MD t_MD_ok n_MD rfl (by decide) (List.mem_cons_of_mem _ wd_552) rfl (Or.inr ⟨rfl, hin, rfl⟩) (by rfl) rfl d_MD_init_376 hf (fun M H locs hf hI => ?_)
  refine lv_aload_n S.1 S.2.1 d_MD_init_379 rfl (lv_at hl 0 rfl) ?_
  refine lv_sipush (v := 400) S.1 S.2.1 d_MD_init_380 (by decide) ?_
  refine x_newa (t := 2) (atype := .int) S hK hI hR (List.mem_cons_of_mem _ wd_18) rfl (by decide) rfl (fun h => h) d_MD_init_383 hf (fun q25 M H hf hI => ?_)
  refine x_put (ci := 1) (k := 40) S hK hI (fun w h => List.mem_cons_of_mem _ (i_MD w h)) t_MD t_MD_ok n_MD rfl (by decide) (List.mem_cons_of_mem _ wd_553) rfl (Or.inr ⟨rfl, hin, rfl⟩) (by rfl) rfl d_MD_init_385 hf (fun M H locs hf hI => ?_)
  refine lv_aload_n S.1 S.2.1 d_MD_init_388 rfl (lv_at hl 0 rfl) ?_
  refine lv_sipush (v := 400) S.1 S.2.1 d_MD_init_389 (by decide) ?_
  refine x_newa (t := 2) (atype := .int) S hK hI hR (List.mem_cons_of_mem _ wd_18) rfl (by decide) rfl (fun h => h) d_MD_init_392 hf (fun q26 M H hf hI => ?_)
  refine x_put (ci := 1) (k := 41) S hK hI (fun w h => List.mem_cons_of_mem _ (i_MD w h)) t_MD t_MD_ok n_MD rfl (by decide) (List.mem_cons_of_mem _ wd_554) rfl (Or.inr ⟨rfl, hin, rfl⟩) (by rfl) rfl d_MD_init_394 hf (fun M H locs hf hI => ?_)
  refine lv_aload_n S.1 S.2.1 d_MD_init_397 rfl (lv_at hl 0 rfl) ?_
  refine lv_sipush (v := 200) S.1 S.2.1 d_MD_init_398 (by decide) ?_
  refine x_newa (t := 5) (atype := .boolean) S hK hI hR (List.mem_cons_of_mem _ wd_41) rfl (by decide) rfl (fun h => h) d_MD_init_401 hf (fun q27 M H hf hI => ?_)
  refine x_put (ci := 1) (k := 42) S hK hI (fun w h => List.mem_cons_of_mem _ (i_MD w h)) t_MD t_MD_ok n_MD rfl (by decide) (List.mem_cons_of_mem _ wd_555) rfl (Or.inr ⟨rfl, hin, rfl⟩) (by rfl) rfl d_MD_init_403 hf (fun M H locs hf hI => ?_)
  refine lv_aload_n S.1 S.2.1 d_MD_init_406 rfl (lv_at hl 0 rfl) ?_
  refine lv_ldc (v := 60000) S.1 S.2.1 S.2.2.2.1 (S.2.2.2.2 _ (List.mem_cons_of_mem _ wd_556)) d_MD_init_407 ?_
  refine x_newa (t := 6) (atype := .byte) S hK hI hR (List.mem_cons_of_mem _ wd_508) rfl (by decide) rfl (fun h => h) d_MD_init_409 hf (fun q28 M H hf hI => ?_)
  refine x_put (ci := 1) (k := 44) S hK hI (fun w h => List.mem_cons_of_mem _ (i_MD w h)) t_MD t_MD_ok n_MD rfl (by decide) (List.mem_cons_of_mem _ wd_557) rfl (Or.inr ⟨rfl, hin, rfl⟩) (by rfl) rfl d_MD_init_411 hf (fun M H locs hf hI => ?_)
  exact hret _ _ _ _ _ _ _ d_MD_init_414 hf hI
set_option maxHeartbeats 4000000 in
set_option maxRecDepth 100000 in
theorem c_MD_type (l : Launch) {D : va_G} {dA : Nat → ClassId} {aK aV : Nat → Nat} {z : Nat} {N : Nat} {h0 : Nat} {p0 : Int64} {M : hM} {Z : Unit × hM} (hf : (f_MD_type N h0 p0).1 M = some Z) : Met l y_MD_type w_MD_type ({ frames := 0, cells := Z.2.2.1 - M.2.1, slots := Z.2.2.2 - M.2.2, locals := 0 }) (va_Pc [.ref h0, .long p0] (hm_B D dA hCl (hTy dA) sT aK aV z M)) (hm_Q D dA hCl (hTy dA) sT aK aV z none Z.2) (Z.2.2.1 - M.2.1) (Z.2.2.2 - M.2.2) (fun q => z ≤ q) := by
  refine Met.ofW (cc := b_MD_type) (maxL := 5) (ret := none) (by decide) rfl ?_
  intro p e s m args below meth c s₁ B hml hv
  obtain ⟨hav, hB⟩ := hv
  have S : CallFix p m c b_MD_type 5 s args w_MD_type R_MD := ⟨B.exec, B.bytes, hml, findClass_of_methodNamed B.named, atoms_spec (ws := w_MD_type) B.pre⟩
  have hr : meth.sig.returnType = none := B.returns
  have hlocks := B.notSynchronized
  have hK := hB.2.2.1
  have hG := hB.2.2.2.2.2
  have hI := hm_I.start hB
  rw [← hB.2.1]
  generalize M.2.2 = k1 at hI ⊢
  refine W.eq (g2 := F0 m 0 ((lg_sl ([.ref h0, .long p0]) ++ List.replicate (5 - (lg_sl ([.ref h0, .long p0])).length) Slot.unset).toArray) []) (by rw [hav]; exact lg_entry_eq m ([.ref h0, .long p0]) 5) ?_
  have hl := lv_entry ([.ref h0, .long p0]) (n := 5) (Nat.le_of_ble_eq_true rfl)
  generalize (lg_sl ([.ref h0, .long p0]) ++ List.replicate (5 - (lg_sl ([.ref h0, .long p0])).length) Slot.unset).toArray = ls at hl ⊢
  simp only [lvA_nil, lvA_i, lvA_l, lvA_a, lvA_r, Nat.zero_add, Nat.reduceAdd] at hl
  have hret : ∀ (M : hM) (H : Heap) (locs : List Loc) (cells slots : Nat) (ls : Array Slot) (pc : Nat), decode b_MD_type pc = .ok (.return_, 1) → (b_ret ()).1 M = some Z → hm_I D dA hCl z k1 s M H locs cells slots → W p l e (headSpec w_MD_type { frames := 0, cells := Z.2.2.1 - s.heap.size, slots := Z.2.2.2 - k1, locals := 0 }).room s m args below meth c H locs cells slots (MQ below (hm_Q D dA hCl (hTy dA) sT aK aV z none Z.2) args s (Z.2.2.1 - s.heap.size) (Z.2.2.2 - k1) (fun q => z ≤ q)) (F0 m pc ls []) := fun M H locs cells slots ls pc hdg hf hI => x_retv S hK hG hI hr hlocks hdg hf
  have hR : Z.2.2.1 - s.heap.size ≤ (headSpec w_MD_type { frames := 0, cells := Z.2.2.1 - s.heap.size, slots := Z.2.2.2 - k1, locals := 0 }).room.cells ∧ Z.2.2.2 - k1 ≤ (headSpec w_MD_type { frames := 0, cells := Z.2.2.1 - s.heap.size, slots := Z.2.2.2 - k1, locals := 0 }).room.slots := ⟨Nat.le_refl _, Nat.le_refl _⟩
  have hRf : 0 ≤ (headSpec w_MD_type { frames := 0, cells := Z.2.2.1 - s.heap.size, slots := Z.2.2.2 - k1, locals := 0 }).room.frames ∧ 0 ≤ (headSpec w_MD_type { frames := 0, cells := Z.2.2.1 - s.heap.size, slots := Z.2.2.2 - k1, locals := 0 }).room.locals := ⟨Nat.le_refl _, Nat.le_refl _⟩
  generalize (headSpec w_MD_type { frames := 0, cells := Z.2.2.1 - s.heap.size, slots := Z.2.2.2 - k1, locals := 0 }).room = R at hret hR hRf ⊢
  generalize (MQ below (hm_Q D dA hCl (hTy dA) sT aK aV z none Z.2) args s (Z.2.2.1 - s.heap.size) (Z.2.2.2 - k1) (fun q => z ≤ q)) = Q at hret ⊢
  rw [e_MD_type] at hf
  have w8 : ∀ (n : Nat) (x3 : Int32) (M : hM) (H : Heap) (locs : List Loc) (ls : Array Slot) (cells slots : Nat), (f_MD_type_8 N h0 p0  n x3).1 M = some Z → hm_I D dA hCl z k1 s M H locs cells slots → lv_has ls 5 [(0, .ref h0), (1, .long p0), (3, .int x3)] → W p l e R s m args below meth c H locs cells slots Q (F0 m 8 ls []) := by
    intro n
    induction n with
    | zero => intro x3 M H locs ls cells slots hf hI hl; cases hf
    | succ n8 ih8 =>
      intro x3 M H locs ls cells slots hf hI hl
      rw [e_MD_type_8] at hf
      obtain ⟨J55, eJ55, hf⟩ := b_let_inv hf
      have w55 : ∀ (x3 : Int32) (M : hM) (H : Heap) (locs : List Loc) (ls : Array Slot) (cells slots : Nat), (J55 x3).1 M = some Z → hm_I D dA hCl z k1 s M H locs cells slots → lv_has ls 5 [(0, .ref h0), (1, .long p0), (3, .int x3)] → W p l e R s m args below meth c H locs cells slots Q (F0 m 55 ls []) := by
        intro x3 M H locs ls cells slots hf hI hl
        rw [eJ55] at hf
        refine x_iinc (v := (-8)) (lv2 := [(0, .ref h0), (1, .long p0)]) S d_MD_type_55 hl 2 rfl (by decide) (by decide) [0, 1] rfl ⟨⟨(by decide : (0 : Nat) ≠ 3), fun h => absurd (show (0 : Nat) + 1 = 3 from h) (by decide)⟩, ⟨⟨(by decide : (1 : Nat) ≠ 3), fun h => absurd (show (1 : Nat) + 1 = 3 from h) (by decide)⟩, trivial⟩⟩ (fun ls hl => ?_)
        refine lv_goto (tgt := 8) S.1 S.2.1 d_MD_type_58 (by decide) ?_
        exact ih8 (x3 + (-8)) _ _ _ _ _ _ hf hI (lv_sub hl [1, 2, 0] rfl)
      refine lv_iload_n S.1 S.2.1 d_MD_type_8 rfl (lv_at hl 2 rfl) ?_
      refine lv_if_lt (tgt := 61) S.1 S.2.1 d_MD_type_9 (by decide) (fun hc => ?_) (fun hc => ?_)
      · have hf := b_if_t hc hf
        exact hret _ _ _ _ _ _ _ d_MD_type_61 hf hI
      · have hf := b_if_f hc hf
        refine lv_lload_n S.1 S.2.1 d_MD_type_12 rfl (lv_at hl 1 rfl) ?_
        refine lv_iload_n S.1 S.2.1 d_MD_type_13 rfl (lv_at hl 2 rfl) ?_
        refine lv_lshr S.1 S.2.1 d_MD_type_14 rfl ?_
        refine lv_l2i S.1 S.2.1 d_MD_type_15 rfl ?_
        refine lv_i2b S.1 S.2.1 d_MD_type_16 rfl ?_
        refine x_istore (lv2 := [(0, .ref h0), (1, .long p0), (3, .int x3)]) S d_MD_type_17 hl (by decide) [0, 1, 2] rfl ⟨⟨(by decide : (0 : Nat) ≠ 4), fun h => absurd (show (0 : Nat) + 1 = 4 from h) (by decide)⟩, ⟨⟨(by decide : (1 : Nat) ≠ 4), fun h => absurd (show (1 : Nat) + 1 = 4 from h) (by decide)⟩, ⟨⟨(by decide : (3 : Nat) ≠ 4), fun _ => rfl⟩, trivial⟩⟩⟩ (fun ls hl => ?_)
        refine lv_iload S.1 S.2.1 d_MD_type_19 (lv_at hl 0 rfl) ?_
        refine lv_if_eq (tgt := 55) S.1 S.2.1 d_MD_type_21 (by decide) (fun hc => ?_) (fun hc => ?_)
        · have hf := b_if_t hc hf
          exact w55 x3 _ _ _ _ _ _ hf hI (lv_sub hl [1, 2, 3] rfl)
        · have hf := b_if_f hc hf
          refine lv_aload_n S.1 S.2.1 d_MD_type_24 rfl (lv_at hl 1 rfl) ?_
          refine x_getI (ci := 1) (k := 2) S hK hI (fun w h => List.mem_cons_of_mem _ (i_MD w h)) rfl (by decide) (List.mem_cons_of_mem _ wd_558) rfl d_MD_type_25 hf (fun v1 hf => ?_)
          refine lv_sipush (v := 2000) S.1 S.2.1 d_MD_type_28 (by decide) ?_
          refine lv_icmp_ge (tgt := 55) S.1 S.2.1 d_MD_type_31 (by decide) (fun hc => ?_) (fun hc => ?_)
          · have hf := b_if_t hc hf
            exact w55 x3 _ _ _ _ _ _ hf hI (lv_sub hl [1, 2, 3] rfl)
          · have hf := b_if_f hc hf
            refine lv_aload_n S.1 S.2.1 d_MD_type_34 rfl (lv_at hl 1 rfl) ?_
            refine x_getR (ci := 1) (k := 1) S hK hI (fun w h => List.mem_cons_of_mem _ (i_MD w h)) rfl (by decide) (List.mem_cons_of_mem _ wd_509) rfl d_MD_type_35 hf (fun r2 hf => ?_)
            refine lv_aload_n S.1 S.2.1 d_MD_type_38 rfl (lv_at hl 1 rfl) ?_
            refine x_getI (ci := 1) (k := 2) S hK hI (fun w h => List.mem_cons_of_mem _ (i_MD w h)) rfl (by decide) (List.mem_cons_of_mem _ wd_558) rfl d_MD_type_39 hf (fun v3 hf => ?_)
            refine lv_iload S.1 S.2.1 d_MD_type_42 (lv_at hl 0 rfl) ?_
            obtain ⟨a4, ea4, hg⟩ := b_nn_inv hf
            have hI0 := hI
            have hl0 := hl
            clear hf hI hl
            subst ea4
            have hf := hg
            have hI := hI0
            have hl := hl0
            clear hg hI0 hl0
            refine x_bast (t := 6) S hK hI rfl d_MD_type_44 hf (fun M H locs hf hI => ?_)
            refine lv_aload_n S.1 S.2.1 d_MD_type_45 rfl (lv_at hl 1 rfl) ?_
            refine lv_dup S.1 S.2.1 d_MD_type_46 rfl ?_
            refine x_getI (ci := 1) (k := 2) S hK hI (fun w h => List.mem_cons_of_mem _ (i_MD w h)) rfl (by decide) (List.mem_cons_of_mem _ wd_558) rfl d_MD_type_47 hf (fun v5 hf => ?_)
            refine lv_iconst (v := 1) S.1 S.2.1 d_MD_type_50 (by decide) ?_
            refine lv_iadd S.1 S.2.1 d_MD_type_51 ?_
            refine x_put (ci := 1) (k := 2) S hK hI (fun w h => List.mem_cons_of_mem _ (i_MD w h)) t_MD t_MD_ok n_MD rfl (by decide) (List.mem_cons_of_mem _ wd_558) rfl (Or.inl rfl) (by rfl) rfl d_MD_type_52 hf (fun M H locs hf hI => ?_)
            exact w55 x3 _ _ _ _ _ _ hf hI (lv_sub hl [1, 2, 3] rfl)
  refine lv_aload_n S.1 S.2.1 d_MD_type_0 rfl (lv_at hl 0 rfl) ?_
  refine lv_iconst (v := 0) S.1 S.2.1 d_MD_type_1 (by decide) ?_
  refine x_put (ci := 1) (k := 0) S hK hI (fun w h => List.mem_cons_of_mem _ (i_MD w h)) t_MD t_MD_ok n_MD rfl (by decide) (List.mem_cons_of_mem _ wd_559) rfl (Or.inl rfl) (by rfl) rfl d_MD_type_2 hf (fun M H locs hf hI => ?_)
  refine lv_bipush (v := 56) S.1 S.2.1 d_MD_type_5 (by decide) ?_
  refine x_istore_n (lv2 := [(0, .ref h0), (1, .long p0)]) S d_MD_type_7 rfl hl (by decide) [0, 1] rfl ⟨⟨(by decide : (0 : Nat) ≠ 3), fun h => absurd (show (0 : Nat) + 1 = 3 from h) (by decide)⟩, ⟨⟨(by decide : (1 : Nat) ≠ 3), fun h => absurd (show (1 : Nat) + 1 = 3 from h) (by decide)⟩, trivial⟩⟩ (fun ls hl => ?_)
  exact w8 N 56 _ _ _ _ _ _ hf hI (lv_sub hl [1, 2, 0] rfl)
set_option maxHeartbeats 4000000 in
set_option maxRecDepth 100000 in
theorem c_MD_isLetter (l : Launch) {D : va_G} {dA : Nat → ClassId} {aK aV : Nat → Nat} {z : Nat} {N : Nat} {p0 : Int32} {M : hM} {Z : Int32 × hM} (hf : (f_MD_isLetter N p0).1 M = some Z) : Met l y_MD_isLetter w_MD_isLetter ({ frames := 0, cells := Z.2.2.1 - M.2.1, slots := Z.2.2.2 - M.2.2, locals := 0 }) (va_Pc [.int p0] (hm_B D dA hCl (hTy dA) sT aK aV z M)) (hm_Q D dA hCl (hTy dA) sT aK aV z (some (.int Z.1)) Z.2) (Z.2.2.1 - M.2.1) (Z.2.2.2 - M.2.2) (fun q => z ≤ q) := by
  refine Met.ofW (cc := b_MD_isLetter) (maxL := 1) (ret := (some .boolean)) (by decide) rfl ?_
  intro p e s m args below meth c s₁ B hml hv
  obtain ⟨hav, hB⟩ := hv
  have S : CallFix p m c b_MD_isLetter 1 s args w_MD_isLetter R_MD := ⟨B.exec, B.bytes, hml, findClass_of_methodNamed B.named, atoms_spec (ws := w_MD_isLetter) B.pre⟩
  have hr : meth.sig.returnType = (some .boolean) := B.returns
  have hlocks := B.notSynchronized
  have hK := hB.2.2.1
  have hG := hB.2.2.2.2.2
  have hI := hm_I.start hB
  rw [← hB.2.1]
  generalize M.2.2 = k1 at hI ⊢
  refine W.eq (g2 := F0 m 0 ((lg_sl ([.int p0]) ++ List.replicate (1 - (lg_sl ([.int p0])).length) Slot.unset).toArray) []) (by rw [hav]; exact lg_entry_eq m ([.int p0]) 1) ?_
  have hl := lv_entry ([.int p0]) (n := 1) (Nat.le_of_ble_eq_true rfl)
  generalize (lg_sl ([.int p0]) ++ List.replicate (1 - (lg_sl ([.int p0])).length) Slot.unset).toArray = ls at hl ⊢
  simp only [lvA_nil, lvA_i, lvA_l, lvA_a, lvA_r, Nat.zero_add, Nat.reduceAdd] at hl
  have hret : ∀ (v : Int32) (M : hM) (H : Heap) (locs : List Loc) (cells slots : Nat) (ls : Array Slot) (pc : Nat), decode b_MD_isLetter pc = .ok (.ireturn, 1) → (b_retN .boolean v).1 M = some Z → hm_I D dA hCl z k1 s M H locs cells slots → W p l e (headSpec w_MD_isLetter { frames := 0, cells := Z.2.2.1 - s.heap.size, slots := Z.2.2.2 - k1, locals := 0 }).room s m args below meth c H locs cells slots (MQ below (hm_Q D dA hCl (hTy dA) sT aK aV z (some (.int Z.1)) Z.2) args s (Z.2.2.1 - s.heap.size) (Z.2.2.2 - k1) (fun q => z ≤ q)) (F0 m pc ls [.int v]) := fun v M H locs cells slots ls pc hdg hf hI => x_retn S hK hG hI hr hlocks hdg hf
  have hR : Z.2.2.1 - s.heap.size ≤ (headSpec w_MD_isLetter { frames := 0, cells := Z.2.2.1 - s.heap.size, slots := Z.2.2.2 - k1, locals := 0 }).room.cells ∧ Z.2.2.2 - k1 ≤ (headSpec w_MD_isLetter { frames := 0, cells := Z.2.2.1 - s.heap.size, slots := Z.2.2.2 - k1, locals := 0 }).room.slots := ⟨Nat.le_refl _, Nat.le_refl _⟩
  have hRf : 0 ≤ (headSpec w_MD_isLetter { frames := 0, cells := Z.2.2.1 - s.heap.size, slots := Z.2.2.2 - k1, locals := 0 }).room.frames ∧ 0 ≤ (headSpec w_MD_isLetter { frames := 0, cells := Z.2.2.1 - s.heap.size, slots := Z.2.2.2 - k1, locals := 0 }).room.locals := ⟨Nat.le_refl _, Nat.le_refl _⟩
  generalize (headSpec w_MD_isLetter { frames := 0, cells := Z.2.2.1 - s.heap.size, slots := Z.2.2.2 - k1, locals := 0 }).room = R at hret hR hRf ⊢
  generalize (MQ below (hm_Q D dA hCl (hTy dA) sT aK aV z (some (.int Z.1)) Z.2) args s (Z.2.2.1 - s.heap.size) (Z.2.2.2 - k1) (fun q => z ≤ q)) = Q at hret ⊢
  rw [e_MD_isLetter] at hf
  obtain ⟨J29, eJ29, hf⟩ := b_let_inv hf
  have w29 : ∀ (y0 : Int32) (M : hM) (H : Heap) (locs : List Loc) (ls : Array Slot) (cells slots : Nat), (J29 y0).1 M = some Z → hm_I D dA hCl z k1 s M H locs cells slots → lv_has ls 1 [] → W p l e R s m args below meth c H locs cells slots Q (F0 m 29 ls [.int y0]) := by
    intro y0 M H locs ls cells slots hf hI hl
    rw [eJ29] at hf
    exact hret _ _ _ _ _ _ _ _ d_MD_isLetter_29 hf hI
  obtain ⟨J24, eJ24, hf⟩ := b_let_inv hf
  have w24 : ∀  (M : hM) (H : Heap) (locs : List Loc) (ls : Array Slot) (cells slots : Nat), (J24).1 M = some Z → hm_I D dA hCl z k1 s M H locs cells slots → lv_has ls 1 [] → W p l e R s m args below meth c H locs cells slots Q (F0 m 24 ls []) := by
    intro M H locs ls cells slots hf hI hl
    rw [eJ24] at hf
    refine lv_iconst (v := 1) S.1 S.2.1 d_MD_isLetter_24 (by decide) ?_
    refine lv_goto (tgt := 29) S.1 S.2.1 d_MD_isLetter_25 (by decide) ?_
    exact w29 1 _ _ _ _ _ _ hf hI (lv_sub hl [] rfl)
  obtain ⟨J12, eJ12, hf⟩ := b_let_inv hf
  have w12 : ∀  (M : hM) (H : Heap) (locs : List Loc) (ls : Array Slot) (cells slots : Nat), (J12).1 M = some Z → hm_I D dA hCl z k1 s M H locs cells slots → lv_has ls 1 [(0, .int p0)] → W p l e R s m args below meth c H locs cells slots Q (F0 m 12 ls []) := by
    intro M H locs ls cells slots hf hI hl
    rw [eJ12] at hf
    obtain ⟨J28, eJ28, hf⟩ := b_let_inv hf
    have w28 : ∀  (M : hM) (H : Heap) (locs : List Loc) (ls : Array Slot) (cells slots : Nat), (J28).1 M = some Z → hm_I D dA hCl z k1 s M H locs cells slots → lv_has ls 1 [] → W p l e R s m args below meth c H locs cells slots Q (F0 m 28 ls []) := by
      intro M H locs ls cells slots hf hI hl
      rw [eJ28] at hf
      refine lv_iconst (v := 0) S.1 S.2.1 d_MD_isLetter_28 (by decide) ?_
      exact w29 0 _ _ _ _ _ _ hf hI (lv_sub hl [] rfl)
    refine lv_iload_n S.1 S.2.1 d_MD_isLetter_12 rfl (lv_at hl 0 rfl) ?_
    refine lv_bipush (v := 65) S.1 S.2.1 d_MD_isLetter_13 (by decide) ?_
    refine lv_icmp_lt (tgt := 28) S.1 S.2.1 d_MD_isLetter_15 (by decide) (fun hc => ?_) (fun hc => ?_)
    · have hf := b_if_t hc hf
      exact w28  _ _ _ _ _ _ hf hI (lv_sub hl [] rfl)
    · have hf := b_if_f hc hf
      refine lv_iload_n S.1 S.2.1 d_MD_isLetter_18 rfl (lv_at hl 0 rfl) ?_
      refine lv_bipush (v := 90) S.1 S.2.1 d_MD_isLetter_19 (by decide) ?_
      refine lv_icmp_gt (tgt := 28) S.1 S.2.1 d_MD_isLetter_21 (by decide) (fun hc => ?_) (fun hc => ?_)
      · have hf := b_if_t hc hf
        exact w28  _ _ _ _ _ _ hf hI (lv_sub hl [] rfl)
      · have hf := b_if_f hc hf
        exact w24  _ _ _ _ _ _ hf hI (lv_sub hl [] rfl)
  refine lv_iload_n S.1 S.2.1 d_MD_isLetter_0 rfl (lv_at hl 0 rfl) ?_
  refine lv_bipush (v := 97) S.1 S.2.1 d_MD_isLetter_1 (by decide) ?_
  refine lv_icmp_lt (tgt := 12) S.1 S.2.1 d_MD_isLetter_3 (by decide) (fun hc => ?_) (fun hc => ?_)
  · have hf := b_if_t hc hf
    exact w12  _ _ _ _ _ _ hf hI (lv_sub hl [0] rfl)
  · have hf := b_if_f hc hf
    refine lv_iload_n S.1 S.2.1 d_MD_isLetter_6 rfl (lv_at hl 0 rfl) ?_
    refine lv_bipush (v := 122) S.1 S.2.1 d_MD_isLetter_7 (by decide) ?_
    refine lv_icmp_le (tgt := 24) S.1 S.2.1 d_MD_isLetter_9 (by decide) (fun hc => ?_) (fun hc => ?_)
    · have hf := b_if_t hc hf
      exact w24  _ _ _ _ _ _ hf hI (lv_sub hl [] rfl)
    · have hf := b_if_f hc hf
      exact w12  _ _ _ _ _ _ hf hI (lv_sub hl [0] rfl)
set_option maxHeartbeats 4000000 in
set_option maxRecDepth 100000 in
theorem c_MD_isDigit (l : Launch) {D : va_G} {dA : Nat → ClassId} {aK aV : Nat → Nat} {z : Nat} {N : Nat} {p0 : Int32} {M : hM} {Z : Int32 × hM} (hf : (f_MD_isDigit N p0).1 M = some Z) : Met l y_MD_isDigit w_MD_isDigit ({ frames := 0, cells := Z.2.2.1 - M.2.1, slots := Z.2.2.2 - M.2.2, locals := 0 }) (va_Pc [.int p0] (hm_B D dA hCl (hTy dA) sT aK aV z M)) (hm_Q D dA hCl (hTy dA) sT aK aV z (some (.int Z.1)) Z.2) (Z.2.2.1 - M.2.1) (Z.2.2.2 - M.2.2) (fun q => z ≤ q) := by
  refine Met.ofW (cc := b_MD_isDigit) (maxL := 1) (ret := (some .boolean)) (by decide) rfl ?_
  intro p e s m args below meth c s₁ B hml hv
  obtain ⟨hav, hB⟩ := hv
  have S : CallFix p m c b_MD_isDigit 1 s args w_MD_isDigit R_MD := ⟨B.exec, B.bytes, hml, findClass_of_methodNamed B.named, atoms_spec (ws := w_MD_isDigit) B.pre⟩
  have hr : meth.sig.returnType = (some .boolean) := B.returns
  have hlocks := B.notSynchronized
  have hK := hB.2.2.1
  have hG := hB.2.2.2.2.2
  have hI := hm_I.start hB
  rw [← hB.2.1]
  generalize M.2.2 = k1 at hI ⊢
  refine W.eq (g2 := F0 m 0 ((lg_sl ([.int p0]) ++ List.replicate (1 - (lg_sl ([.int p0])).length) Slot.unset).toArray) []) (by rw [hav]; exact lg_entry_eq m ([.int p0]) 1) ?_
  have hl := lv_entry ([.int p0]) (n := 1) (Nat.le_of_ble_eq_true rfl)
  generalize (lg_sl ([.int p0]) ++ List.replicate (1 - (lg_sl ([.int p0])).length) Slot.unset).toArray = ls at hl ⊢
  simp only [lvA_nil, lvA_i, lvA_l, lvA_a, lvA_r, Nat.zero_add, Nat.reduceAdd] at hl
  have hret : ∀ (v : Int32) (M : hM) (H : Heap) (locs : List Loc) (cells slots : Nat) (ls : Array Slot) (pc : Nat), decode b_MD_isDigit pc = .ok (.ireturn, 1) → (b_retN .boolean v).1 M = some Z → hm_I D dA hCl z k1 s M H locs cells slots → W p l e (headSpec w_MD_isDigit { frames := 0, cells := Z.2.2.1 - s.heap.size, slots := Z.2.2.2 - k1, locals := 0 }).room s m args below meth c H locs cells slots (MQ below (hm_Q D dA hCl (hTy dA) sT aK aV z (some (.int Z.1)) Z.2) args s (Z.2.2.1 - s.heap.size) (Z.2.2.2 - k1) (fun q => z ≤ q)) (F0 m pc ls [.int v]) := fun v M H locs cells slots ls pc hdg hf hI => x_retn S hK hG hI hr hlocks hdg hf
  have hR : Z.2.2.1 - s.heap.size ≤ (headSpec w_MD_isDigit { frames := 0, cells := Z.2.2.1 - s.heap.size, slots := Z.2.2.2 - k1, locals := 0 }).room.cells ∧ Z.2.2.2 - k1 ≤ (headSpec w_MD_isDigit { frames := 0, cells := Z.2.2.1 - s.heap.size, slots := Z.2.2.2 - k1, locals := 0 }).room.slots := ⟨Nat.le_refl _, Nat.le_refl _⟩
  have hRf : 0 ≤ (headSpec w_MD_isDigit { frames := 0, cells := Z.2.2.1 - s.heap.size, slots := Z.2.2.2 - k1, locals := 0 }).room.frames ∧ 0 ≤ (headSpec w_MD_isDigit { frames := 0, cells := Z.2.2.1 - s.heap.size, slots := Z.2.2.2 - k1, locals := 0 }).room.locals := ⟨Nat.le_refl _, Nat.le_refl _⟩
  generalize (headSpec w_MD_isDigit { frames := 0, cells := Z.2.2.1 - s.heap.size, slots := Z.2.2.2 - k1, locals := 0 }).room = R at hret hR hRf ⊢
  generalize (MQ below (hm_Q D dA hCl (hTy dA) sT aK aV z (some (.int Z.1)) Z.2) args s (Z.2.2.1 - s.heap.size) (Z.2.2.2 - k1) (fun q => z ≤ q)) = Q at hret ⊢
  rw [e_MD_isDigit] at hf
  obtain ⟨J17, eJ17, hf⟩ := b_let_inv hf
  have w17 : ∀ (y0 : Int32) (M : hM) (H : Heap) (locs : List Loc) (ls : Array Slot) (cells slots : Nat), (J17 y0).1 M = some Z → hm_I D dA hCl z k1 s M H locs cells slots → lv_has ls 1 [] → W p l e R s m args below meth c H locs cells slots Q (F0 m 17 ls [.int y0]) := by
    intro y0 M H locs ls cells slots hf hI hl
    rw [eJ17] at hf
    exact hret _ _ _ _ _ _ _ _ d_MD_isDigit_17 hf hI
  obtain ⟨J16, eJ16, hf⟩ := b_let_inv hf
  have w16 : ∀  (M : hM) (H : Heap) (locs : List Loc) (ls : Array Slot) (cells slots : Nat), (J16).1 M = some Z → hm_I D dA hCl z k1 s M H locs cells slots → lv_has ls 1 [] → W p l e R s m args below meth c H locs cells slots Q (F0 m 16 ls []) := by
    intro M H locs ls cells slots hf hI hl
    rw [eJ16] at hf
    refine lv_iconst (v := 0) S.1 S.2.1 d_MD_isDigit_16 (by decide) ?_
    exact w17 0 _ _ _ _ _ _ hf hI (lv_sub hl [] rfl)
  refine lv_iload_n S.1 S.2.1 d_MD_isDigit_0 rfl (lv_at hl 0 rfl) ?_
  refine lv_bipush (v := 48) S.1 S.2.1 d_MD_isDigit_1 (by decide) ?_
  refine lv_icmp_lt (tgt := 16) S.1 S.2.1 d_MD_isDigit_3 (by decide) (fun hc => ?_) (fun hc => ?_)
  · have hf := b_if_t hc hf
    exact w16  _ _ _ _ _ _ hf hI (lv_sub hl [] rfl)
  · have hf := b_if_f hc hf
    refine lv_iload_n S.1 S.2.1 d_MD_isDigit_6 rfl (lv_at hl 0 rfl) ?_
    refine lv_bipush (v := 57) S.1 S.2.1 d_MD_isDigit_7 (by decide) ?_
    refine lv_icmp_gt (tgt := 16) S.1 S.2.1 d_MD_isDigit_9 (by decide) (fun hc => ?_) (fun hc => ?_)
    · have hf := b_if_t hc hf
      exact w16  _ _ _ _ _ _ hf hI (lv_sub hl [] rfl)
    · have hf := b_if_f hc hf
      refine lv_iconst (v := 1) S.1 S.2.1 d_MD_isDigit_12 (by decide) ?_
      refine lv_goto (tgt := 17) S.1 S.2.1 d_MD_isDigit_13 (by decide) ?_
      exact w17 1 _ _ _ _ _ _ hf hI (lv_sub hl [] rfl)
set_option maxHeartbeats 4000000 in
set_option maxRecDepth 100000 in
theorem c_MD_isDash (l : Launch) {D : va_G} {dA : Nat → ClassId} {aK aV : Nat → Nat} {z : Nat} {N : Nat} {p0 : Int32} {M : hM} {Z : Int32 × hM} (hf : (f_MD_isDash N p0).1 M = some Z) : Met l y_MD_isDash w_MD_isDash ({ frames := 0, cells := Z.2.2.1 - M.2.1, slots := Z.2.2.2 - M.2.2, locals := 0 }) (va_Pc [.int p0] (hm_B D dA hCl (hTy dA) sT aK aV z M)) (hm_Q D dA hCl (hTy dA) sT aK aV z (some (.int Z.1)) Z.2) (Z.2.2.1 - M.2.1) (Z.2.2.2 - M.2.2) (fun q => z ≤ q) := by
  refine Met.ofW (cc := b_MD_isDash) (maxL := 1) (ret := (some .boolean)) (by decide) rfl ?_
  intro p e s m args below meth c s₁ B hml hv
  obtain ⟨hav, hB⟩ := hv
  have S : CallFix p m c b_MD_isDash 1 s args w_MD_isDash R_MD := ⟨B.exec, B.bytes, hml, findClass_of_methodNamed B.named, atoms_spec (ws := w_MD_isDash) B.pre⟩
  have hr : meth.sig.returnType = (some .boolean) := B.returns
  have hlocks := B.notSynchronized
  have hK := hB.2.2.1
  have hG := hB.2.2.2.2.2
  have hI := hm_I.start hB
  rw [← hB.2.1]
  generalize M.2.2 = k1 at hI ⊢
  refine W.eq (g2 := F0 m 0 ((lg_sl ([.int p0]) ++ List.replicate (1 - (lg_sl ([.int p0])).length) Slot.unset).toArray) []) (by rw [hav]; exact lg_entry_eq m ([.int p0]) 1) ?_
  have hl := lv_entry ([.int p0]) (n := 1) (Nat.le_of_ble_eq_true rfl)
  generalize (lg_sl ([.int p0]) ++ List.replicate (1 - (lg_sl ([.int p0])).length) Slot.unset).toArray = ls at hl ⊢
  simp only [lvA_nil, lvA_i, lvA_l, lvA_a, lvA_r, Nat.zero_add, Nat.reduceAdd] at hl
  have hret : ∀ (v : Int32) (M : hM) (H : Heap) (locs : List Loc) (cells slots : Nat) (ls : Array Slot) (pc : Nat), decode b_MD_isDash pc = .ok (.ireturn, 1) → (b_retN .boolean v).1 M = some Z → hm_I D dA hCl z k1 s M H locs cells slots → W p l e (headSpec w_MD_isDash { frames := 0, cells := Z.2.2.1 - s.heap.size, slots := Z.2.2.2 - k1, locals := 0 }).room s m args below meth c H locs cells slots (MQ below (hm_Q D dA hCl (hTy dA) sT aK aV z (some (.int Z.1)) Z.2) args s (Z.2.2.1 - s.heap.size) (Z.2.2.2 - k1) (fun q => z ≤ q)) (F0 m pc ls [.int v]) := fun v M H locs cells slots ls pc hdg hf hI => x_retn S hK hG hI hr hlocks hdg hf
  have hR : Z.2.2.1 - s.heap.size ≤ (headSpec w_MD_isDash { frames := 0, cells := Z.2.2.1 - s.heap.size, slots := Z.2.2.2 - k1, locals := 0 }).room.cells ∧ Z.2.2.2 - k1 ≤ (headSpec w_MD_isDash { frames := 0, cells := Z.2.2.1 - s.heap.size, slots := Z.2.2.2 - k1, locals := 0 }).room.slots := ⟨Nat.le_refl _, Nat.le_refl _⟩
  have hRf : 0 ≤ (headSpec w_MD_isDash { frames := 0, cells := Z.2.2.1 - s.heap.size, slots := Z.2.2.2 - k1, locals := 0 }).room.frames ∧ 0 ≤ (headSpec w_MD_isDash { frames := 0, cells := Z.2.2.1 - s.heap.size, slots := Z.2.2.2 - k1, locals := 0 }).room.locals := ⟨Nat.le_refl _, Nat.le_refl _⟩
  generalize (headSpec w_MD_isDash { frames := 0, cells := Z.2.2.1 - s.heap.size, slots := Z.2.2.2 - k1, locals := 0 }).room = R at hret hR hRf ⊢
  generalize (MQ below (hm_Q D dA hCl (hTy dA) sT aK aV z (some (.int Z.1)) Z.2) args s (Z.2.2.1 - s.heap.size) (Z.2.2.2 - k1) (fun q => z ≤ q)) = Q at hret ⊢
  rw [e_MD_isDash] at hf
  obtain ⟨J23, eJ23, hf⟩ := b_let_inv hf
  have w23 : ∀ (y0 : Int32) (M : hM) (H : Heap) (locs : List Loc) (ls : Array Slot) (cells slots : Nat), (J23 y0).1 M = some Z → hm_I D dA hCl z k1 s M H locs cells slots → lv_has ls 1 [] → W p l e R s m args below meth c H locs cells slots Q (F0 m 23 ls [.int y0]) := by
    intro y0 M H locs ls cells slots hf hI hl
    rw [eJ23] at hf
    exact hret _ _ _ _ _ _ _ _ d_MD_isDash_23 hf hI
  obtain ⟨J18, eJ18, hf⟩ := b_let_inv hf
  have w18 : ∀  (M : hM) (H : Heap) (locs : List Loc) (ls : Array Slot) (cells slots : Nat), (J18).1 M = some Z → hm_I D dA hCl z k1 s M H locs cells slots → lv_has ls 1 [] → W p l e R s m args below meth c H locs cells slots Q (F0 m 18 ls []) := by
    intro M H locs ls cells slots hf hI hl
    rw [eJ18] at hf
    refine lv_iconst (v := 1) S.1 S.2.1 d_MD_isDash_18 (by decide) ?_
    refine lv_goto (tgt := 23) S.1 S.2.1 d_MD_isDash_19 (by decide) ?_
    exact w23 1 _ _ _ _ _ _ hf hI (lv_sub hl [] rfl)
  refine lv_iload_n S.1 S.2.1 d_MD_isDash_0 rfl (lv_at hl 0 rfl) ?_
  refine lv_bipush (v := 45) S.1 S.2.1 d_MD_isDash_1 (by decide) ?_
  refine lv_icmp_eq (tgt := 18) S.1 S.2.1 d_MD_isDash_3 (by decide) (fun hc => ?_) (fun hc => ?_)
  · have hf := b_if_t hc hf
    exact w18  _ _ _ _ _ _ hf hI (lv_sub hl [] rfl)
  · have hf := b_if_f hc hf
    refine lv_iload_n S.1 S.2.1 d_MD_isDash_6 rfl (lv_at hl 0 rfl) ?_
    refine lv_bipush (v := 95) S.1 S.2.1 d_MD_isDash_7 (by decide) ?_
    refine lv_icmp_eq (tgt := 18) S.1 S.2.1 d_MD_isDash_9 (by decide) (fun hc => ?_) (fun hc => ?_)
    · have hf := b_if_t hc hf
      exact w18  _ _ _ _ _ _ hf hI (lv_sub hl [] rfl)
    · have hf := b_if_f hc hf
      refine lv_iload_n S.1 S.2.1 d_MD_isDash_12 rfl (lv_at hl 0 rfl) ?_
      refine lv_bipush (v := 46) S.1 S.2.1 d_MD_isDash_13 (by decide) ?_
      refine lv_icmp_ne (tgt := 22) S.1 S.2.1 d_MD_isDash_15 (by decide) (fun hc => ?_) (fun hc => ?_)
      · have hf := b_if_f hc hf
        refine lv_iconst (v := 0) S.1 S.2.1 d_MD_isDash_22 (by decide) ?_
        exact w23 0 _ _ _ _ _ _ hf hI (lv_sub hl [] rfl)
      · have hf := b_if_t hc hf
        exact w18  _ _ _ _ _ _ hf hI (lv_sub hl [] rfl)
set_option maxHeartbeats 4000000 in
set_option maxRecDepth 100000 in
theorem c_MD_next (l : Launch) {D : va_G} {dA : Nat → ClassId} {aK aV : Nat → Nat} {z : Nat} {N : Nat} {h0 : Nat} {M : hM} {Z : Unit × hM} (hf : (f_MD_next N h0 ).1 M = some Z) : Met l y_MD_next w_MD_next ({ frames := 1, cells := Z.2.2.1 - M.2.1, slots := Z.2.2.2 - M.2.2, locals := 20 }) (va_Pc [.ref h0] (hm_B D dA hCl (hTy dA) sT aK aV z M)) (hm_Q D dA hCl (hTy dA) sT aK aV z none Z.2) (Z.2.2.1 - M.2.1) (Z.2.2.2 - M.2.2) (fun q => z ≤ q) := by
  refine Met.ofW (cc := b_MD_next) (maxL := 3) (ret := none) (by decide) rfl ?_
  intro p e s m args below meth c s₁ B hml hv
  obtain ⟨hav, hB⟩ := hv
  have S : CallFix p m c b_MD_next 3 s args w_MD_next R_MD := ⟨B.exec, B.bytes, hml, findClass_of_methodNamed B.named, atoms_spec (ws := w_MD_next) B.pre⟩
  have hr : meth.sig.returnType = none := B.returns
  have hlocks := B.notSynchronized
  have hK := hB.2.2.1
  have hG := hB.2.2.2.2.2
  have hI := hm_I.start hB
  rw [← hB.2.1]
  generalize M.2.2 = k1 at hI ⊢
  refine W.eq (g2 := F0 m 0 ((lg_sl ([.ref h0]) ++ List.replicate (3 - (lg_sl ([.ref h0])).length) Slot.unset).toArray) []) (by rw [hav]; exact lg_entry_eq m ([.ref h0]) 3) ?_
  have hl := lv_entry ([.ref h0]) (n := 3) (Nat.le_of_ble_eq_true rfl)
  generalize (lg_sl ([.ref h0]) ++ List.replicate (3 - (lg_sl ([.ref h0])).length) Slot.unset).toArray = ls at hl ⊢
  simp only [lvA_nil, lvA_i, lvA_l, lvA_a, lvA_r, Nat.zero_add, Nat.reduceAdd] at hl
  have hret : ∀ (M : hM) (H : Heap) (locs : List Loc) (cells slots : Nat) (ls : Array Slot) (pc : Nat), decode b_MD_next pc = .ok (.return_, 1) → (b_ret ()).1 M = some Z → hm_I D dA hCl z k1 s M H locs cells slots → W p l e (headSpec w_MD_next { frames := 1, cells := Z.2.2.1 - s.heap.size, slots := Z.2.2.2 - k1, locals := 20 }).room s m args below meth c H locs cells slots (MQ below (hm_Q D dA hCl (hTy dA) sT aK aV z none Z.2) args s (Z.2.2.1 - s.heap.size) (Z.2.2.2 - k1) (fun q => z ≤ q)) (F0 m pc ls []) := fun M H locs cells slots ls pc hdg hf hI => x_retv S hK hG hI hr hlocks hdg hf
  have hR : Z.2.2.1 - s.heap.size ≤ (headSpec w_MD_next { frames := 1, cells := Z.2.2.1 - s.heap.size, slots := Z.2.2.2 - k1, locals := 20 }).room.cells ∧ Z.2.2.2 - k1 ≤ (headSpec w_MD_next { frames := 1, cells := Z.2.2.1 - s.heap.size, slots := Z.2.2.2 - k1, locals := 20 }).room.slots := ⟨Nat.le_refl _, Nat.le_refl _⟩
  have hRf : 1 ≤ (headSpec w_MD_next { frames := 1, cells := Z.2.2.1 - s.heap.size, slots := Z.2.2.2 - k1, locals := 20 }).room.frames ∧ 20 ≤ (headSpec w_MD_next { frames := 1, cells := Z.2.2.1 - s.heap.size, slots := Z.2.2.2 - k1, locals := 20 }).room.locals := ⟨Nat.le_refl _, Nat.le_refl _⟩
  generalize (headSpec w_MD_next { frames := 1, cells := Z.2.2.1 - s.heap.size, slots := Z.2.2.2 - k1, locals := 20 }).room = R at hret hR hRf ⊢
  generalize (MQ below (hm_Q D dA hCl (hTy dA) sT aK aV z none Z.2) args s (Z.2.2.1 - s.heap.size) (Z.2.2.2 - k1) (fun q => z ≤ q)) = Q at hret ⊢
  rw [e_MD_next] at hf
  have w16 : ∀ (n : Nat)  (M : hM) (H : Heap) (locs : List Loc) (ls : Array Slot) (cells slots : Nat), (f_MD_next_16 N h0  n).1 M = some Z → hm_I D dA hCl z k1 s M H locs cells slots → lv_has ls 3 [(0, .ref h0)] → W p l e R s m args below meth c H locs cells slots Q (F0 m 16 ls []) := by
    intro n
    induction n with
    | zero => intro M H locs ls cells slots hf hI hl; cases hf
    | succ n16 ih16 =>
      intro M H locs ls cells slots hf hI hl
      rw [e_MD_next_16] at hf
      obtain ⟨J55, eJ55, hf⟩ := b_let_inv hf
      have w55 : ∀  (M : hM) (H : Heap) (locs : List Loc) (ls : Array Slot) (cells slots : Nat), (J55).1 M = some Z → hm_I D dA hCl z k1 s M H locs cells slots → lv_has ls 3 [(0, .ref h0)] → W p l e R s m args below meth c H locs cells slots Q (F0 m 55 ls []) := by
        intro M H locs ls cells slots hf hI hl
        rw [eJ55] at hf
        refine lv_aload_n S.1 S.2.1 d_MD_next_55 rfl (lv_at hl 0 rfl) ?_
        refine lv_dup S.1 S.2.1 d_MD_next_56 rfl ?_
        refine x_getI (ci := 1) (k := 3) S hK hI (fun w h => List.mem_cons_of_mem _ (i_MD w h)) rfl (by decide) (List.mem_cons_of_mem _ wd_560) rfl d_MD_next_57 hf (fun v1 hf => ?_)
        refine lv_iconst (v := 1) S.1 S.2.1 d_MD_next_60 (by decide) ?_
        refine lv_iadd S.1 S.2.1 d_MD_next_61 ?_
        refine x_put (ci := 1) (k := 3) S hK hI (fun w h => List.mem_cons_of_mem _ (i_MD w h)) t_MD t_MD_ok n_MD rfl (by decide) (List.mem_cons_of_mem _ wd_560) rfl (Or.inl rfl) (by rfl) rfl d_MD_next_62 hf (fun M H locs hf hI => ?_)
        refine lv_goto (tgt := 16) S.1 S.2.1 d_MD_next_65 (by decide) ?_
        exact ih16  _ _ _ _ _ _ hf hI (lv_sub hl [0] rfl)
      obtain ⟨J68, eJ68, hf⟩ := b_let_inv hf
      have w68 : ∀  (M : hM) (H : Heap) (locs : List Loc) (ls : Array Slot) (cells slots : Nat), (J68).1 M = some Z → hm_I D dA hCl z k1 s M H locs cells slots → lv_has ls 3 [(0, .ref h0)] → W p l e R s m args below meth c H locs cells slots Q (F0 m 68 ls []) := by
        intro M H locs ls cells slots hf hI hl
        rw [eJ68] at hf
        have w116 : ∀ (n : Nat)  (M : hM) (H : Heap) (locs : List Loc) (ls : Array Slot) (cells slots : Nat), (f_MD_next_116 N h0  n).1 M = some Z → hm_I D dA hCl z k1 s M H locs cells slots → lv_has ls 3 [(0, .ref h0)] → W p l e R s m args below meth c H locs cells slots Q (F0 m 116 ls []) := by
          intro n
          induction n with
          | zero => intro M H locs ls cells slots hf hI hl; cases hf
          | succ n116 ih116 =>
            intro M H locs ls cells slots hf hI hl
            rw [e_MD_next_116] at hf
            obtain ⟨J172, eJ172, hf⟩ := b_let_inv hf
            have w172 : ∀  (M : hM) (H : Heap) (locs : List Loc) (ls : Array Slot) (cells slots : Nat), (J172).1 M = some Z → hm_I D dA hCl z k1 s M H locs cells slots → lv_has ls 3 [(0, .ref h0)] → W p l e R s m args below meth c H locs cells slots Q (F0 m 172 ls []) := by
              intro M H locs ls cells slots hf hI hl
              rw [eJ172] at hf
              refine lv_aload_n S.1 S.2.1 d_MD_next_172 rfl (lv_at hl 0 rfl) ?_
              refine lv_dup S.1 S.2.1 d_MD_next_173 rfl ?_
              refine x_getI (ci := 1) (k := 4) S hK hI (fun w h => List.mem_cons_of_mem _ (i_MD w h)) rfl (by decide) (List.mem_cons_of_mem _ wd_561) rfl d_MD_next_174 hf (fun v2 hf => ?_)
              refine lv_iconst (v := 1) S.1 S.2.1 d_MD_next_177 (by decide) ?_
              refine lv_iadd S.1 S.2.1 d_MD_next_178 ?_
              refine x_put (ci := 1) (k := 4) S hK hI (fun w h => List.mem_cons_of_mem _ (i_MD w h)) t_MD t_MD_ok n_MD rfl (by decide) (List.mem_cons_of_mem _ wd_561) rfl (Or.inl rfl) (by rfl) rfl d_MD_next_179 hf (fun M H locs hf hI => ?_)
              refine lv_goto (tgt := 116) S.1 S.2.1 d_MD_next_182 (by decide) ?_
              exact ih116  _ _ _ _ _ _ hf hI (lv_sub hl [0] rfl)
            refine lv_aload_n S.1 S.2.1 d_MD_next_116 rfl (lv_at hl 0 rfl) ?_
            refine x_getI (ci := 1) (k := 4) S hK hI (fun w h => List.mem_cons_of_mem _ (i_MD w h)) rfl (by decide) (List.mem_cons_of_mem _ wd_561) rfl d_MD_next_117 hf (fun v3 hf => ?_)
            refine lv_aload_n S.1 S.2.1 d_MD_next_120 rfl (lv_at hl 0 rfl) ?_
            refine x_getI (ci := 1) (k := 2) S hK hI (fun w h => List.mem_cons_of_mem _ (i_MD w h)) rfl (by decide) (List.mem_cons_of_mem _ wd_558) rfl d_MD_next_121 hf (fun v4 hf => ?_)
            refine lv_icmp_ge (tgt := 328) S.1 S.2.1 d_MD_next_124 (by decide) (fun hc => ?_) (fun hc => ?_)
            · have hf := b_if_t hc hf
              exact hret _ _ _ _ _ _ _ d_MD_next_328 hf hI
            · have hf := b_if_f hc hf
              refine lv_aload_n S.1 S.2.1 d_MD_next_127 rfl (lv_at hl 0 rfl) ?_
              refine x_getR (ci := 1) (k := 1) S hK hI (fun w h => List.mem_cons_of_mem _ (i_MD w h)) rfl (by decide) (List.mem_cons_of_mem _ wd_509) rfl d_MD_next_128 hf (fun r5 hf => ?_)
              refine lv_aload_n S.1 S.2.1 d_MD_next_131 rfl (lv_at hl 0 rfl) ?_
              refine x_getI (ci := 1) (k := 4) S hK hI (fun w h => List.mem_cons_of_mem _ (i_MD w h)) rfl (by decide) (List.mem_cons_of_mem _ wd_561) rfl d_MD_next_132 hf (fun v6 hf => ?_)
              obtain ⟨a7, ea7, hg⟩ := b_nn_inv hf
              have hI0 := hI
              have hl0 := hl
              clear hf hI hl
              subst ea7
              have hf := hg
              have hI := hI0
              have hl := hl0
              clear hg hI0 hl0
              refine x_bald (t := 6) S hK hI rfl d_MD_next_135 hf (fun v8 hf => ?_)
              obtain ⟨v9, N10, hg11, hf⟩ := b_call_inv hf
              refine x_call hI (hm_mo hg11) (va_runS (As := [.int v8]) (rest := []) S (c_MD_isLetter l hg11) (va_cwS 1 S.2.2.2.2 (gi_S wd_562 wd_563 wd_564 wd_565) rfl rfl rfl (by decide +kernel) ⟨Nat.le_trans (Nat.le_of_ble_eq_true rfl) hRf.1, Nat.le_trans (Nat.le_of_ble_eq_true rfl) hRf.2⟩) ⟨hm_B.blind, fun U hU hW => ⟨rfl, hm_B.of hK hG hI hU hW⟩⟩ rfl rfl hl.1 rfl (lv_room (Nat.le_of_ble_eq_true rfl)) d_MD_next_136 (hx_fit hI hR (hm_mo hg11) (hm_mo hf))) (fun H locs cells slots hI => ?_)
              refine W.eq (g2 := F0 m 139 ls [.int v9]) rfl ?_
              refine lv_if_ne (tgt := 172) S.1 S.2.1 d_MD_next_139 (by decide) (fun hc => ?_) (fun hc => ?_)
              · have hf := b_if_f hc hf
                exact w172  _ _ _ _ _ _ hf hI (lv_sub hl [0] rfl)
              · have hf := b_if_t hc hf
                refine lv_aload_n S.1 S.2.1 d_MD_next_142 rfl (lv_at hl 0 rfl) ?_
                refine x_getR (ci := 1) (k := 1) S hK hI (fun w h => List.mem_cons_of_mem _ (i_MD w h)) rfl (by decide) (List.mem_cons_of_mem _ wd_509) rfl d_MD_next_143 hf (fun r12 hf => ?_)
                refine lv_aload_n S.1 S.2.1 d_MD_next_146 rfl (lv_at hl 0 rfl) ?_
                refine x_getI (ci := 1) (k := 4) S hK hI (fun w h => List.mem_cons_of_mem _ (i_MD w h)) rfl (by decide) (List.mem_cons_of_mem _ wd_561) rfl d_MD_next_147 hf (fun v13 hf => ?_)
                obtain ⟨a14, ea14, hg⟩ := b_nn_inv hf
                have hI0 := hI
                have hl0 := hl
                clear hf hI hl
                subst ea14
                have hf := hg
                have hI := hI0
                have hl := hl0
                clear hg hI0 hl0
                refine x_bald (t := 6) S hK hI rfl d_MD_next_150 hf (fun v15 hf => ?_)
                obtain ⟨v16, N17, hg18, hf⟩ := b_call_inv hf
                refine x_call hI (hm_mo hg18) (va_runS (As := [.int v15]) (rest := []) S (c_MD_isDigit l hg18) (va_cwS 1 S.2.2.2.2 (gi_S wd_566 wd_567 wd_564 wd_568) rfl rfl rfl (by decide +kernel) ⟨Nat.le_trans (Nat.le_of_ble_eq_true rfl) hRf.1, Nat.le_trans (Nat.le_of_ble_eq_true rfl) hRf.2⟩) ⟨hm_B.blind, fun U hU hW => ⟨rfl, hm_B.of hK hG hI hU hW⟩⟩ rfl rfl hl.1 rfl (lv_room (Nat.le_of_ble_eq_true rfl)) d_MD_next_151 (hx_fit hI hR (hm_mo hg18) (hm_mo hf))) (fun H locs cells slots hI => ?_)
                refine W.eq (g2 := F0 m 154 ls [.int v16]) rfl ?_
                refine lv_if_ne (tgt := 172) S.1 S.2.1 d_MD_next_154 (by decide) (fun hc => ?_) (fun hc => ?_)
                · have hf := b_if_f hc hf
                  exact w172  _ _ _ _ _ _ hf hI (lv_sub hl [0] rfl)
                · have hf := b_if_t hc hf
                  refine lv_aload_n S.1 S.2.1 d_MD_next_157 rfl (lv_at hl 0 rfl) ?_
                  refine x_getR (ci := 1) (k := 1) S hK hI (fun w h => List.mem_cons_of_mem _ (i_MD w h)) rfl (by decide) (List.mem_cons_of_mem _ wd_509) rfl d_MD_next_158 hf (fun r19 hf => ?_)
                  refine lv_aload_n S.1 S.2.1 d_MD_next_161 rfl (lv_at hl 0 rfl) ?_
                  refine x_getI (ci := 1) (k := 4) S hK hI (fun w h => List.mem_cons_of_mem _ (i_MD w h)) rfl (by decide) (List.mem_cons_of_mem _ wd_561) rfl d_MD_next_162 hf (fun v20 hf => ?_)
                  obtain ⟨a21, ea21, hg⟩ := b_nn_inv hf
                  have hI0 := hI
                  have hl0 := hl
                  clear hf hI hl
                  subst ea21
                  have hf := hg
                  have hI := hI0
                  have hl := hl0
                  clear hg hI0 hl0
                  refine x_bald (t := 6) S hK hI rfl d_MD_next_165 hf (fun v22 hf => ?_)
                  obtain ⟨v23, N24, hg25, hf⟩ := b_call_inv hf
                  refine x_call hI (hm_mo hg25) (va_runS (As := [.int v22]) (rest := []) S (c_MD_isDash l hg25) (va_cwS 1 S.2.2.2.2 (gi_S wd_569 wd_570 wd_564 wd_571) rfl rfl rfl (by decide +kernel) ⟨Nat.le_trans (Nat.le_of_ble_eq_true rfl) hRf.1, Nat.le_trans (Nat.le_of_ble_eq_true rfl) hRf.2⟩) ⟨hm_B.blind, fun U hU hW => ⟨rfl, hm_B.of hK hG hI hU hW⟩⟩ rfl rfl hl.1 rfl (lv_room (Nat.le_of_ble_eq_true rfl)) d_MD_next_166 (hx_fit hI hR (hm_mo hg25) (hm_mo hf))) (fun H locs cells slots hI => ?_)
                  refine W.eq (g2 := F0 m 169 ls [.int v23]) rfl ?_
                  refine lv_if_eq (tgt := 328) S.1 S.2.1 d_MD_next_169 (by decide) (fun hc => ?_) (fun hc => ?_)
                  · have hf := b_if_t hc hf
                    exact hret _ _ _ _ _ _ _ d_MD_next_328 hf hI
                  · have hf := b_if_f hc hf
                    exact w172  _ _ _ _ _ _ hf hI (lv_sub hl [0] rfl)
        have w198 : ∀ (n : Nat)  (M : hM) (H : Heap) (locs : List Loc) (ls : Array Slot) (cells slots : Nat), (f_MD_next_198 N h0  n).1 M = some Z → hm_I D dA hCl z k1 s M H locs cells slots → lv_has ls 3 [(0, .ref h0)] → W p l e R s m args below meth c H locs cells slots Q (F0 m 198 ls []) := by
          intro n
          induction n with
          | zero => intro M H locs ls cells slots hf hI hl; cases hf
          | succ n198 ih198 =>
            intro M H locs ls cells slots hf hI hl
            rw [e_MD_next_198] at hf
            refine lv_aload_n S.1 S.2.1 d_MD_next_198 rfl (lv_at hl 0 rfl) ?_
            refine x_getI (ci := 1) (k := 4) S hK hI (fun w h => List.mem_cons_of_mem _ (i_MD w h)) rfl (by decide) (List.mem_cons_of_mem _ wd_561) rfl d_MD_next_199 hf (fun v26 hf => ?_)
            refine lv_aload_n S.1 S.2.1 d_MD_next_202 rfl (lv_at hl 0 rfl) ?_
            refine x_getI (ci := 1) (k := 2) S hK hI (fun w h => List.mem_cons_of_mem _ (i_MD w h)) rfl (by decide) (List.mem_cons_of_mem _ wd_558) rfl d_MD_next_203 hf (fun v27 hf => ?_)
            refine lv_icmp_ge (tgt := 328) S.1 S.2.1 d_MD_next_206 (by decide) (fun hc => ?_) (fun hc => ?_)
            · have hf := b_if_t hc hf
              exact hret _ _ _ _ _ _ _ d_MD_next_328 hf hI
            · have hf := b_if_f hc hf
              refine lv_aload_n S.1 S.2.1 d_MD_next_209 rfl (lv_at hl 0 rfl) ?_
              refine x_getR (ci := 1) (k := 1) S hK hI (fun w h => List.mem_cons_of_mem _ (i_MD w h)) rfl (by decide) (List.mem_cons_of_mem _ wd_509) rfl d_MD_next_210 hf (fun r28 hf => ?_)
              refine lv_aload_n S.1 S.2.1 d_MD_next_213 rfl (lv_at hl 0 rfl) ?_
              refine x_getI (ci := 1) (k := 4) S hK hI (fun w h => List.mem_cons_of_mem _ (i_MD w h)) rfl (by decide) (List.mem_cons_of_mem _ wd_561) rfl d_MD_next_214 hf (fun v29 hf => ?_)
              obtain ⟨a30, ea30, hg⟩ := b_nn_inv hf
              have hI0 := hI
              have hl0 := hl
              clear hf hI hl
              subst ea30
              have hf := hg
              have hI := hI0
              have hl := hl0
              clear hg hI0 hl0
              refine x_bald (t := 6) S hK hI rfl d_MD_next_217 hf (fun v31 hf => ?_)
              obtain ⟨v32, N33, hg34, hf⟩ := b_call_inv hf
              refine x_call hI (hm_mo hg34) (va_runS (As := [.int v31]) (rest := []) S (c_MD_isDigit l hg34) (va_cwS 1 S.2.2.2.2 (gi_S wd_566 wd_567 wd_564 wd_568) rfl rfl rfl (by decide +kernel) ⟨Nat.le_trans (Nat.le_of_ble_eq_true rfl) hRf.1, Nat.le_trans (Nat.le_of_ble_eq_true rfl) hRf.2⟩) ⟨hm_B.blind, fun U hU hW => ⟨rfl, hm_B.of hK hG hI hU hW⟩⟩ rfl rfl hl.1 rfl (lv_room (Nat.le_of_ble_eq_true rfl)) d_MD_next_218 (hx_fit hI hR (hm_mo hg34) (hm_mo hf))) (fun H locs cells slots hI => ?_)
              refine W.eq (g2 := F0 m 221 ls [.int v32]) rfl ?_
              refine lv_if_eq (tgt := 328) S.1 S.2.1 d_MD_next_221 (by decide) (fun hc => ?_) (fun hc => ?_)
              · have hf := b_if_t hc hf
                exact hret _ _ _ _ _ _ _ d_MD_next_328 hf hI
              · have hf := b_if_f hc hf
                refine lv_aload_n S.1 S.2.1 d_MD_next_224 rfl (lv_at hl 0 rfl) ?_
                refine lv_dup S.1 S.2.1 d_MD_next_225 rfl ?_
                refine x_getI (ci := 1) (k := 4) S hK hI (fun w h => List.mem_cons_of_mem _ (i_MD w h)) rfl (by decide) (List.mem_cons_of_mem _ wd_561) rfl d_MD_next_226 hf (fun v35 hf => ?_)
                refine lv_iconst (v := 1) S.1 S.2.1 d_MD_next_229 (by decide) ?_
                refine lv_iadd S.1 S.2.1 d_MD_next_230 ?_
                refine x_put (ci := 1) (k := 4) S hK hI (fun w h => List.mem_cons_of_mem _ (i_MD w h)) t_MD t_MD_ok n_MD rfl (by decide) (List.mem_cons_of_mem _ wd_561) rfl (Or.inl rfl) (by rfl) rfl d_MD_next_231 hf (fun M H locs hf hI => ?_)
                refine lv_goto (tgt := 198) S.1 S.2.1 d_MD_next_234 (by decide) ?_
                exact ih198  _ _ _ _ _ _ hf hI (lv_sub hl [0] rfl)
        obtain ⟨J283, eJ283, hf⟩ := b_let_inv hf
        have w283 : ∀ (x1 : Int32) (y0 : Int32) (M : hM) (H : Heap) (locs : List Loc) (ls : Array Slot) (cells slots : Nat), (J283 x1 y0).1 M = some Z → hm_I D dA hCl z k1 s M H locs cells slots → lv_has ls 3 [(0, .ref h0), (1, .int x1)] → W p l e R s m args below meth c H locs cells slots Q (F0 m 283 ls [.int y0]) := by
          intro x1 y0 M H locs ls cells slots hf hI hl
          rw [eJ283] at hf
          obtain ⟨J302, eJ302, hf⟩ := b_let_inv hf
          have w302 : ∀ (x2 : Int32) (y0 : Int32) (y1 : Option Nat) (M : hM) (H : Heap) (locs : List Loc) (ls : Array Slot) (cells slots : Nat), (J302 x2 y0 y1).1 M = some Z → hm_I D dA hCl z k1 s M H locs cells slots → lv_has ls 3 [(0, .ref h0), (2, .int x2)] → W p l e R s m args below meth c H locs cells slots Q (F0 m 302 ls [.int y0, va_rf y1]) := by
            intro x2 y0 y1 M H locs ls cells slots hf hI hl
            rw [eJ302] at hf
            obtain ⟨J325, eJ325, hf⟩ := b_let_inv hf
            have w325 : ∀ (y0 : Int32) (y1 : Option Nat) (M : hM) (H : Heap) (locs : List Loc) (ls : Array Slot) (cells slots : Nat), (J325 y0 y1).1 M = some Z → hm_I D dA hCl z k1 s M H locs cells slots → lv_has ls 3 [] → W p l e R s m args below meth c H locs cells slots Q (F0 m 325 ls [.int y0, va_rf y1]) := by
              intro y0 y1 M H locs ls cells slots hf hI hl
              rw [eJ325] at hf
              obtain ⟨a36, ea36, hg⟩ := b_nn_inv hf
              have hI0 := hI
              have hl0 := hl
              clear hf hI hl
              subst ea36
              have hf := hg
              have hI := hI0
              have hl := hl0
              clear hg hI0 hl0
              refine x_put (ci := 1) (k := 4) S hK hI (fun w h => List.mem_cons_of_mem _ (i_MD w h)) t_MD t_MD_ok n_MD rfl (by decide) (List.mem_cons_of_mem _ wd_561) rfl (Or.inl rfl) (by rfl) rfl d_MD_next_325 hf (fun M H locs hf hI => ?_)
              exact hret _ _ _ _ _ _ _ d_MD_next_328 hf hI
            obtain ⟨a37, ea37, hg⟩ := b_nn_inv hf
            have hI0 := hI
            have hl0 := hl
            clear hf hI hl
            subst ea37
            have hf := hg
            have hI := hI0
            have hl := hl0
            clear hg hI0 hl0
            refine x_put (ci := 1) (k := 5) S hK hI (fun w h => List.mem_cons_of_mem _ (i_MD w h)) t_MD t_MD_ok n_MD rfl (by decide) (List.mem_cons_of_mem _ wd_572) rfl (Or.inl rfl) (by rfl) rfl d_MD_next_302 hf (fun M H locs hf hI => ?_)
            refine lv_aload_n S.1 S.2.1 d_MD_next_305 rfl (lv_at hl 0 rfl) ?_
            refine lv_iload_n S.1 S.2.1 d_MD_next_306 rfl (lv_at hl 1 rfl) ?_
            refine lv_if_eq (tgt := 319) S.1 S.2.1 d_MD_next_307 (by decide) (fun hc => ?_) (fun hc => ?_)
            · have hf := b_if_t hc hf
              refine lv_aload_n S.1 S.2.1 d_MD_next_319 rfl (lv_at hl 0 rfl) ?_
              refine x_getI (ci := 1) (k := 3) S hK hI (fun w h => List.mem_cons_of_mem _ (i_MD w h)) rfl (by decide) (List.mem_cons_of_mem _ wd_560) rfl d_MD_next_320 hf (fun v38 hf => ?_)
              refine lv_iconst (v := 1) S.1 S.2.1 d_MD_next_323 (by decide) ?_
              refine lv_iadd S.1 S.2.1 d_MD_next_324 ?_
              exact w325 (v38 + 1) (some h0) _ _ _ _ _ _ hf hI (lv_sub hl [] rfl)
            · have hf := b_if_f hc hf
              refine lv_aload_n S.1 S.2.1 d_MD_next_310 rfl (lv_at hl 0 rfl) ?_
              refine x_getI (ci := 1) (k := 3) S hK hI (fun w h => List.mem_cons_of_mem _ (i_MD w h)) rfl (by decide) (List.mem_cons_of_mem _ wd_560) rfl d_MD_next_311 hf (fun v39 hf => ?_)
              refine lv_iconst (v := 2) S.1 S.2.1 d_MD_next_314 (by decide) ?_
              refine lv_iadd S.1 S.2.1 d_MD_next_315 ?_
              refine lv_goto (tgt := 325) S.1 S.2.1 d_MD_next_316 (by decide) ?_
              exact w325 (v39 + 2) (some h0) _ _ _ _ _ _ hf hI (lv_sub hl [] rfl)
          refine x_istore_n (lv2 := [(0, .ref h0), (1, .int x1)]) S d_MD_next_283 rfl hl (by decide) [0, 1] rfl ⟨⟨(by decide : (0 : Nat) ≠ 2), fun h => absurd (show (0 : Nat) + 1 = 2 from h) (by decide)⟩, ⟨⟨(by decide : (1 : Nat) ≠ 2), fun _ => rfl⟩, trivial⟩⟩ (fun ls hl => ?_)
          refine lv_aload_n S.1 S.2.1 d_MD_next_284 rfl (lv_at hl 1 rfl) ?_
          refine lv_iload_n S.1 S.2.1 d_MD_next_285 rfl (lv_at hl 0 rfl) ?_
          refine lv_if_eq (tgt := 297) S.1 S.2.1 d_MD_next_286 (by decide) (fun hc => ?_) (fun hc => ?_)
          · have hf := b_if_t hc hf
            refine lv_iload_n S.1 S.2.1 d_MD_next_297 rfl (lv_at hl 2 rfl) ?_
            refine lv_sipush (v := 255) S.1 S.2.1 d_MD_next_298 (by decide) ?_
            refine lv_iand S.1 S.2.1 d_MD_next_301 ?_
            exact w302 y0 (x1 &&& 255) (some h0) _ _ _ _ _ _ hf hI (lv_sub hl [1, 0] rfl)
          · have hf := b_if_f hc hf
            refine lv_sipush (v := 300) S.1 S.2.1 d_MD_next_289 (by decide) ?_
            refine lv_iload_n S.1 S.2.1 d_MD_next_292 rfl (lv_at hl 2 rfl) ?_
            refine lv_iadd S.1 S.2.1 d_MD_next_293 ?_
            refine lv_goto (tgt := 302) S.1 S.2.1 d_MD_next_294 (by decide) ?_
            exact w302 y0 (300 + x1) (some h0) _ _ _ _ _ _ hf hI (lv_sub hl [1, 0] rfl)
        obtain ⟨J282, eJ282, hf⟩ := b_let_inv hf
        have w282 : ∀ (x1 : Int32) (M : hM) (H : Heap) (locs : List Loc) (ls : Array Slot) (cells slots : Nat), (J282 x1).1 M = some Z → hm_I D dA hCl z k1 s M H locs cells slots → lv_has ls 3 [(0, .ref h0), (1, .int x1)] → W p l e R s m args below meth c H locs cells slots Q (F0 m 282 ls []) := by
          intro x1 M H locs ls cells slots hf hI hl
          rw [eJ282] at hf
          refine lv_iconst (v := 0) S.1 S.2.1 d_MD_next_282 (by decide) ?_
          exact w283 x1 0 _ _ _ _ _ _ hf hI (lv_sub hl [0, 1] rfl)
        obtain ⟨J249, eJ249, hf⟩ := b_let_inv hf
        have w249 : ∀ (x1 : Int32) (M : hM) (H : Heap) (locs : List Loc) (ls : Array Slot) (cells slots : Nat), (J249 x1).1 M = some Z → hm_I D dA hCl z k1 s M H locs cells slots → lv_has ls 3 [(0, .ref h0), (1, .int x1)] → W p l e R s m args below meth c H locs cells slots Q (F0 m 249 ls []) := by
          intro x1 M H locs ls cells slots hf hI hl
          rw [eJ249] at hf
          refine lv_aload_n S.1 S.2.1 d_MD_next_249 rfl (lv_at hl 0 rfl) ?_
          refine x_getI (ci := 1) (k := 3) S hK hI (fun w h => List.mem_cons_of_mem _ (i_MD w h)) rfl (by decide) (List.mem_cons_of_mem _ wd_560) rfl d_MD_next_250 hf (fun v40 hf => ?_)
          refine lv_iconst (v := 1) S.1 S.2.1 d_MD_next_253 (by decide) ?_
          refine lv_iadd S.1 S.2.1 d_MD_next_254 ?_
          refine lv_aload_n S.1 S.2.1 d_MD_next_255 rfl (lv_at hl 0 rfl) ?_
          refine x_getI (ci := 1) (k := 2) S hK hI (fun w h => List.mem_cons_of_mem _ (i_MD w h)) rfl (by decide) (List.mem_cons_of_mem _ wd_558) rfl d_MD_next_256 hf (fun v41 hf => ?_)
          refine lv_icmp_ge (tgt := 282) S.1 S.2.1 d_MD_next_259 (by decide) (fun hc => ?_) (fun hc => ?_)
          · have hf := b_if_t hc hf
            exact w282 x1 _ _ _ _ _ _ hf hI (lv_sub hl [0, 1] rfl)
          · have hf := b_if_f hc hf
            refine lv_aload_n S.1 S.2.1 d_MD_next_262 rfl (lv_at hl 0 rfl) ?_
            refine x_getR (ci := 1) (k := 1) S hK hI (fun w h => List.mem_cons_of_mem _ (i_MD w h)) rfl (by decide) (List.mem_cons_of_mem _ wd_509) rfl d_MD_next_263 hf (fun r42 hf => ?_)
            refine lv_aload_n S.1 S.2.1 d_MD_next_266 rfl (lv_at hl 0 rfl) ?_
            refine x_getI (ci := 1) (k := 3) S hK hI (fun w h => List.mem_cons_of_mem _ (i_MD w h)) rfl (by decide) (List.mem_cons_of_mem _ wd_560) rfl d_MD_next_267 hf (fun v43 hf => ?_)
            refine lv_iconst (v := 1) S.1 S.2.1 d_MD_next_270 (by decide) ?_
            refine lv_iadd S.1 S.2.1 d_MD_next_271 ?_
            obtain ⟨a44, ea44, hg⟩ := b_nn_inv hf
            have hI0 := hI
            have hl0 := hl
            clear hf hI hl
            subst ea44
            have hf := hg
            have hI := hI0
            have hl := hl0
            clear hg hI0 hl0
            refine x_bald (t := 6) S hK hI rfl d_MD_next_272 hf (fun v45 hf => ?_)
            refine lv_bipush (v := 61) S.1 S.2.1 d_MD_next_273 (by decide) ?_
            refine lv_icmp_ne (tgt := 282) S.1 S.2.1 d_MD_next_275 (by decide) (fun hc => ?_) (fun hc => ?_)
            · have hf := b_if_f hc hf
              exact w282 x1 _ _ _ _ _ _ hf hI (lv_sub hl [0, 1] rfl)
            · have hf := b_if_t hc hf
              refine lv_iconst (v := 1) S.1 S.2.1 d_MD_next_278 (by decide) ?_
              refine lv_goto (tgt := 283) S.1 S.2.1 d_MD_next_279 (by decide) ?_
              exact w283 x1 1 _ _ _ _ _ _ hf hI (lv_sub hl [0, 1] rfl)
        refine lv_aload_n S.1 S.2.1 d_MD_next_68 rfl (lv_at hl 0 rfl) ?_
        refine lv_aload_n S.1 S.2.1 d_MD_next_69 rfl (lv_at hl 0 rfl) ?_
        refine x_getI (ci := 1) (k := 3) S hK hI (fun w h => List.mem_cons_of_mem _ (i_MD w h)) rfl (by decide) (List.mem_cons_of_mem _ wd_560) rfl d_MD_next_70 hf (fun v46 hf => ?_)
        refine x_put (ci := 1) (k := 4) S hK hI (fun w h => List.mem_cons_of_mem _ (i_MD w h)) t_MD t_MD_ok n_MD rfl (by decide) (List.mem_cons_of_mem _ wd_561) rfl (Or.inl rfl) (by rfl) rfl d_MD_next_73 hf (fun M H locs hf hI => ?_)
        refine lv_aload_n S.1 S.2.1 d_MD_next_76 rfl (lv_at hl 0 rfl) ?_
        refine x_getI (ci := 1) (k := 3) S hK hI (fun w h => List.mem_cons_of_mem _ (i_MD w h)) rfl (by decide) (List.mem_cons_of_mem _ wd_560) rfl d_MD_next_77 hf (fun v47 hf => ?_)
        refine lv_aload_n S.1 S.2.1 d_MD_next_80 rfl (lv_at hl 0 rfl) ?_
        refine x_getI (ci := 1) (k := 2) S hK hI (fun w h => List.mem_cons_of_mem _ (i_MD w h)) rfl (by decide) (List.mem_cons_of_mem _ wd_558) rfl d_MD_next_81 hf (fun v48 hf => ?_)
        refine lv_icmp_ne (tgt := 93) S.1 S.2.1 d_MD_next_84 (by decide) (fun hc => ?_) (fun hc => ?_)
        · have hf := b_if_f hc hf
          refine lv_aload_n S.1 S.2.1 d_MD_next_93 rfl (lv_at hl 0 rfl) ?_
          refine x_getR (ci := 1) (k := 1) S hK hI (fun w h => List.mem_cons_of_mem _ (i_MD w h)) rfl (by decide) (List.mem_cons_of_mem _ wd_509) rfl d_MD_next_94 hf (fun r49 hf => ?_)
          refine lv_aload_n S.1 S.2.1 d_MD_next_97 rfl (lv_at hl 0 rfl) ?_
          refine x_getI (ci := 1) (k := 3) S hK hI (fun w h => List.mem_cons_of_mem _ (i_MD w h)) rfl (by decide) (List.mem_cons_of_mem _ wd_560) rfl d_MD_next_98 hf (fun v50 hf => ?_)
          obtain ⟨a51, ea51, hg⟩ := b_nn_inv hf
          have hI0 := hI
          have hl0 := hl
          clear hf hI hl
          subst ea51
          have hf := hg
          have hI := hI0
          have hl := hl0
          clear hg hI0 hl0
          refine x_bald (t := 6) S hK hI rfl d_MD_next_101 hf (fun v52 hf => ?_)
          refine x_istore_n (lv2 := [(0, .ref h0)]) S d_MD_next_102 rfl hl (by decide) [0] rfl ⟨⟨(by decide : (0 : Nat) ≠ 1), fun _ => rfl⟩, trivial⟩ (fun ls hl => ?_)
          refine lv_iload_n S.1 S.2.1 d_MD_next_103 rfl (lv_at hl 0 rfl) ?_
          obtain ⟨v53, N54, hg55, hf⟩ := b_call_inv hf
          refine x_call hI (hm_mo hg55) (va_runS (As := [.int v52]) (rest := []) S (c_MD_isLetter l hg55) (va_cwS 1 S.2.2.2.2 (gi_S wd_562 wd_563 wd_564 wd_565) rfl rfl rfl (by decide +kernel) ⟨Nat.le_trans (Nat.le_of_ble_eq_true rfl) hRf.1, Nat.le_trans (Nat.le_of_ble_eq_true rfl) hRf.2⟩) ⟨hm_B.blind, fun U hU hW => ⟨rfl, hm_B.of hK hG hI hU hW⟩⟩ rfl rfl hl.1 rfl (lv_room (Nat.le_of_ble_eq_true rfl)) d_MD_next_104 (hx_fit hI hR (hm_mo hg55) (hm_mo hf))) (fun H locs cells slots hI => ?_)
          refine W.eq (g2 := F0 m 107 ls [.int v53]) rfl ?_
          refine lv_if_eq (tgt := 185) S.1 S.2.1 d_MD_next_107 (by decide) (fun hc => ?_) (fun hc => ?_)
          · have hf := b_if_t hc hf
            refine lv_iload_n S.1 S.2.1 d_MD_next_185 rfl (lv_at hl 0 rfl) ?_
            obtain ⟨v56, N57, hg58, hf⟩ := b_call_inv hf
            refine x_call hI (hm_mo hg58) (va_runS (As := [.int v52]) (rest := []) S (c_MD_isDigit l hg58) (va_cwS 1 S.2.2.2.2 (gi_S wd_566 wd_567 wd_564 wd_568) rfl rfl rfl (by decide +kernel) ⟨Nat.le_trans (Nat.le_of_ble_eq_true rfl) hRf.1, Nat.le_trans (Nat.le_of_ble_eq_true rfl) hRf.2⟩) ⟨hm_B.blind, fun U hU hW => ⟨rfl, hm_B.of hK hG hI hU hW⟩⟩ rfl rfl hl.1 rfl (lv_room (Nat.le_of_ble_eq_true rfl)) d_MD_next_186 (hx_fit hI hR (hm_mo hg58) (hm_mo hf))) (fun H locs cells slots hI => ?_)
            refine W.eq (g2 := F0 m 189 ls [.int v56]) rfl ?_
            refine lv_if_eq (tgt := 237) S.1 S.2.1 d_MD_next_189 (by decide) (fun hc => ?_) (fun hc => ?_)
            · have hf := b_if_t hc hf
              refine lv_iload_n S.1 S.2.1 d_MD_next_237 rfl (lv_at hl 0 rfl) ?_
              refine lv_bipush (v := 60) S.1 S.2.1 d_MD_next_238 (by decide) ?_
              refine lv_icmp_eq (tgt := 249) S.1 S.2.1 d_MD_next_240 (by decide) (fun hc => ?_) (fun hc => ?_)
              · have hf := b_if_t hc hf
                exact w249 v52 _ _ _ _ _ _ hf hI (lv_sub hl [1, 0] rfl)
              · have hf := b_if_f hc hf
                refine lv_iload_n S.1 S.2.1 d_MD_next_243 rfl (lv_at hl 0 rfl) ?_
                refine lv_bipush (v := 62) S.1 S.2.1 d_MD_next_244 (by decide) ?_
                refine lv_icmp_ne (tgt := 282) S.1 S.2.1 d_MD_next_246 (by decide) (fun hc => ?_) (fun hc => ?_)
                · have hf := b_if_f hc hf
                  exact w282 v52 _ _ _ _ _ _ hf hI (lv_sub hl [1, 0] rfl)
                · have hf := b_if_t hc hf
                  exact w249 v52 _ _ _ _ _ _ hf hI (lv_sub hl [1, 0] rfl)
            · have hf := b_if_f hc hf
              refine lv_aload_n S.1 S.2.1 d_MD_next_192 rfl (lv_at hl 1 rfl) ?_
              refine lv_bipush (v := (-3)) S.1 S.2.1 d_MD_next_193 (by decide) ?_
              refine x_put (ci := 1) (k := 5) S hK hI (fun w h => List.mem_cons_of_mem _ (i_MD w h)) t_MD t_MD_ok n_MD rfl (by decide) (List.mem_cons_of_mem _ wd_572) rfl (Or.inl rfl) (by rfl) rfl d_MD_next_195 hf (fun M H locs hf hI => ?_)
              exact w198 N  _ _ _ _ _ _ hf hI (lv_sub hl [1] rfl)
          · have hf := b_if_f hc hf
            refine lv_aload_n S.1 S.2.1 d_MD_next_110 rfl (lv_at hl 1 rfl) ?_
            refine lv_bipush (v := (-2)) S.1 S.2.1 d_MD_next_111 (by decide) ?_
            refine x_put (ci := 1) (k := 5) S hK hI (fun w h => List.mem_cons_of_mem _ (i_MD w h)) t_MD t_MD_ok n_MD rfl (by decide) (List.mem_cons_of_mem _ wd_572) rfl (Or.inl rfl) (by rfl) rfl d_MD_next_113 hf (fun M H locs hf hI => ?_)
            exact w116 N  _ _ _ _ _ _ hf hI (lv_sub hl [1] rfl)
        · have hf := b_if_t hc hf
          refine lv_aload_n S.1 S.2.1 d_MD_next_87 rfl (lv_at hl 0 rfl) ?_
          refine lv_iconst (v := (-1)) S.1 S.2.1 d_MD_next_88 (by decide) ?_
          refine x_put (ci := 1) (k := 5) S hK hI (fun w h => List.mem_cons_of_mem _ (i_MD w h)) t_MD t_MD_ok n_MD rfl (by decide) (List.mem_cons_of_mem _ wd_572) rfl (Or.inl rfl) (by rfl) rfl d_MD_next_89 hf (fun M H locs hf hI => ?_)
          exact hret _ _ _ _ _ _ _ d_MD_next_92 hf hI
      refine lv_aload_n S.1 S.2.1 d_MD_next_16 rfl (lv_at hl 0 rfl) ?_
      refine x_getI (ci := 1) (k := 3) S hK hI (fun w h => List.mem_cons_of_mem _ (i_MD w h)) rfl (by decide) (List.mem_cons_of_mem _ wd_560) rfl d_MD_next_17 hf (fun v59 hf => ?_)
      refine lv_aload_n S.1 S.2.1 d_MD_next_20 rfl (lv_at hl 0 rfl) ?_
      refine x_getI (ci := 1) (k := 2) S hK hI (fun w h => List.mem_cons_of_mem _ (i_MD w h)) rfl (by decide) (List.mem_cons_of_mem _ wd_558) rfl d_MD_next_21 hf (fun v60 hf => ?_)
      refine lv_icmp_ge (tgt := 68) S.1 S.2.1 d_MD_next_24 (by decide) (fun hc => ?_) (fun hc => ?_)
      · have hf := b_if_t hc hf
        exact w68  _ _ _ _ _ _ hf hI (lv_sub hl [0] rfl)
      · have hf := b_if_f hc hf
        refine lv_aload_n S.1 S.2.1 d_MD_next_27 rfl (lv_at hl 0 rfl) ?_
        refine x_getR (ci := 1) (k := 1) S hK hI (fun w h => List.mem_cons_of_mem _ (i_MD w h)) rfl (by decide) (List.mem_cons_of_mem _ wd_509) rfl d_MD_next_28 hf (fun r61 hf => ?_)
        refine lv_aload_n S.1 S.2.1 d_MD_next_31 rfl (lv_at hl 0 rfl) ?_
        refine x_getI (ci := 1) (k := 3) S hK hI (fun w h => List.mem_cons_of_mem _ (i_MD w h)) rfl (by decide) (List.mem_cons_of_mem _ wd_560) rfl d_MD_next_32 hf (fun v62 hf => ?_)
        obtain ⟨a63, ea63, hg⟩ := b_nn_inv hf
        have hI0 := hI
        have hl0 := hl
        clear hf hI hl
        subst ea63
        have hf := hg
        have hI := hI0
        have hl := hl0
        clear hg hI0 hl0
        refine x_bald (t := 6) S hK hI rfl d_MD_next_35 hf (fun v64 hf => ?_)
        refine lv_bipush (v := 32) S.1 S.2.1 d_MD_next_36 (by decide) ?_
        refine lv_icmp_eq (tgt := 55) S.1 S.2.1 d_MD_next_38 (by decide) (fun hc => ?_) (fun hc => ?_)
        · have hf := b_if_t hc hf
          exact w55  _ _ _ _ _ _ hf hI (lv_sub hl [0] rfl)
        · have hf := b_if_f hc hf
          refine lv_aload_n S.1 S.2.1 d_MD_next_41 rfl (lv_at hl 0 rfl) ?_
          refine x_getR (ci := 1) (k := 1) S hK hI (fun w h => List.mem_cons_of_mem _ (i_MD w h)) rfl (by decide) (List.mem_cons_of_mem _ wd_509) rfl d_MD_next_42 hf (fun r65 hf => ?_)
          refine lv_aload_n S.1 S.2.1 d_MD_next_45 rfl (lv_at hl 0 rfl) ?_
          refine x_getI (ci := 1) (k := 3) S hK hI (fun w h => List.mem_cons_of_mem _ (i_MD w h)) rfl (by decide) (List.mem_cons_of_mem _ wd_560) rfl d_MD_next_46 hf (fun v66 hf => ?_)
          obtain ⟨a67, ea67, hg⟩ := b_nn_inv hf
          have hI0 := hI
          have hl0 := hl
          clear hf hI hl
          subst ea67
          have hf := hg
          have hI := hI0
          have hl := hl0
          clear hg hI0 hl0
          refine x_bald (t := 6) S hK hI rfl d_MD_next_49 hf (fun v68 hf => ?_)
          refine lv_bipush (v := 10) S.1 S.2.1 d_MD_next_50 (by decide) ?_
          refine lv_icmp_ne (tgt := 68) S.1 S.2.1 d_MD_next_52 (by decide) (fun hc => ?_) (fun hc => ?_)
          · have hf := b_if_f hc hf
            exact w68  _ _ _ _ _ _ hf hI (lv_sub hl [0] rfl)
          · have hf := b_if_t hc hf
            exact w55  _ _ _ _ _ _ hf hI (lv_sub hl [0] rfl)
  refine lv_aload_n S.1 S.2.1 d_MD_next_0 rfl (lv_at hl 0 rfl) ?_
  refine lv_aload_n S.1 S.2.1 d_MD_next_1 rfl (lv_at hl 0 rfl) ?_
  refine x_getI (ci := 1) (k := 4) S hK hI (fun w h => List.mem_cons_of_mem _ (i_MD w h)) rfl (by decide) (List.mem_cons_of_mem _ wd_561) rfl d_MD_next_2 hf (fun v69 hf => ?_)
  refine x_put (ci := 1) (k := 6) S hK hI (fun w h => List.mem_cons_of_mem _ (i_MD w h)) t_MD t_MD_ok n_MD rfl (by decide) (List.mem_cons_of_mem _ wd_573) rfl (Or.inl rfl) (by rfl) rfl d_MD_next_5 hf (fun M H locs hf hI => ?_)
  refine lv_aload_n S.1 S.2.1 d_MD_next_8 rfl (lv_at hl 0 rfl) ?_
  refine lv_aload_n S.1 S.2.1 d_MD_next_9 rfl (lv_at hl 0 rfl) ?_
  refine x_getI (ci := 1) (k := 4) S hK hI (fun w h => List.mem_cons_of_mem _ (i_MD w h)) rfl (by decide) (List.mem_cons_of_mem _ wd_561) rfl d_MD_next_10 hf (fun v70 hf => ?_)
  refine x_put (ci := 1) (k := 3) S hK hI (fun w h => List.mem_cons_of_mem _ (i_MD w h)) t_MD t_MD_ok n_MD rfl (by decide) (List.mem_cons_of_mem _ wd_560) rfl (Or.inl rfl) (by rfl) rfl d_MD_next_13 hf (fun M H locs hf hI => ?_)
  exact w16 N  _ _ _ _ _ _ hf hI (lv_sub hl [0] rfl)
