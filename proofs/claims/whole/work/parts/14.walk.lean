/-- what is left of the claim when the machine is gone: the law's model, on the empty map, answers 1 within the room -/
def law_pure (B C S : Nat) : Prop := ∀ (L : Nat) (xs : Nat → Int32) (z : Nat), L ≤ B → ∃ (N : Nat) (Z : Int32 × hM), (f_LW_law N L xs).1 ((fun _ => none), z, 0) = some Z ∧ Z.1 = 1 ∧ Z.2.2.1 ≤ z + C ∧ Z.2.2.2 ≤ S
set_option maxHeartbeats 4000000 in
set_option maxRecDepth 100000 in
theorem whole_open {p : Program} {e : Env} {s : State} {m : MethodId} {below : List Frame} {meth : Method} {c : Code} (hpure : law_pure 2560 600000 7302250) (l : Launch) {b L : Nat} {xs : Nat → Int32} (hL : L ≤ 2560) (C0 : lw_At p s m meth c b L xs) : W p l e room_1 s m #[Value.ref b] below meth c s.heap [] 0 0 (lw_Z below #[Value.ref b] s) (entryFrame m ([Value.ref b] : List Value).toArray 4) := by
  obtain ⟨hx, hb, hr, hml, hown, hts, hX, hbl, hlocks, hgv⟩ := C0
  obtain ⟨D, dA, aK, aV, hK, hG⟩ := law_env hts hgv
  obtain ⟨N, Z, hf, hZ1, hZc, hZs⟩ := hpure L xs s.heap.size hL
  generalize hz : s.heap.size = z at hG hf hZc
  have hbA : ¬ (fun q : Nat => z ≤ q) b := by rw [← hz]; exact Nat.not_le.mpr hbl
  have hI : hm_I D dA hCl z 0 s ((fun _ => none), z, 0) s.heap [] 0 0 := ⟨fun a e h => (by cases h), hz, va_S.rf, fun a e h => (by cases h), Nat.le_of_eq hz.symm, by rw [hz]; rfl, rfl⟩
  have S : CallFix p m c code 4 s #[Value.ref b] ((.methodLink R_PR 3 Lib.objectInit) :: wsAll) R_LW := ⟨hx, hb, hml, hown, fun w h => hts w (wsAll_in w ((List.mem_cons.mp h).elim (fun e => by rw [e]; exact wd_0) (fun h => h)))⟩
  have hR : Z.2.2.1 - s.heap.size ≤ room_1.cells ∧ Z.2.2.2 - 0 ≤ room_1.slots := by
    rw [hz]
    exact ⟨show Z.2.2.1 - z ≤ 600000 by omega, show Z.2.2.2 - 0 ≤ 7302250 by omega⟩
  have hRf : 11 ≤ room_1.frames ∧ 243 ≤ room_1.locals := ⟨by decide, by decide⟩
  have hret : ∀ (v : Int32) (M : hM) (H : Heap) (locs : List Loc) (cells slots : Nat) (ls : Array Slot) (pc : Nat), decode code pc = .ok (.ireturn, 1) → (b_retN .boolean v).1 M = some Z → hm_I D dA hCl z 0 s M H locs cells slots → W p l e room_1 s m #[Value.ref b] below meth c H locs cells slots (lw_Z below #[Value.ref b] s) (F0 m pc ls [.int v]) := by
    intro v M H locs cells slots ls pc hdg hf hI
    dsimp only [b_retN] at hf
    split at hf
    · obtain rfl : Z = (v, M) := (Option.some.inj hf).symm
      have hv : v = 1 := hZ1
      subst hv
      obtain ⟨-, -, i3, -, -, i6, i7⟩ := hI
      have hc' : M.2.1 ≤ z + 600000 := hZc
      have hs' : M.2.2 ≤ 7302250 := hZs
      refine va_forget (fun q hq => by rw [hz]; exact i3.2.2 q hq) ?_
      refine W.widen (k := 600000) (n := 7302250) (by omega) (by omega) ?_
      exact lw_ret hx hb hr hlocks hdg
    · cases hf
  have hl := lv_entry ([.ref b]) (n := 4) (Nat.le_of_ble_eq_true rfl)
  rw [lg_entry_eq]
  generalize (lg_sl ([.ref b]) ++ List.replicate (4 - (lg_sl ([.ref b])).length) Slot.unset).toArray = ls at hl ⊢
  have hl : lv_has ls 4 [(0, .ref b)] := hl
  generalize hRe : room_1 = R at hR hRf hret ⊢
  generalize hQe : lw_Z below #[Value.ref b] s = Q at hret ⊢
  generalize hae : #[Value.ref b] = args at S hret ⊢
  rw [e_LW_law] at hf
  have w18 : ∀ (n : Nat) (x1 : Option Nat) (x2 : Option Nat) (x3 : Int32) (M : hM) (H : Heap) (locs : List Loc) (ls : Array Slot) (cells slots : Nat), (f_LW_law_18 N L xs  n x1 x2 x3).1 M = some Z → hm_I D dA hCl z 0 s M H locs cells slots → lv_has ls 4 [(0, .ref b), (1, va_rf x1), (2, va_rf x2), (3, .int x3)] → W p l e R s m args below meth c H locs cells slots Q (F0 m 18 ls []) := by
    intro n
    induction n with
    | zero => intro x1 x2 x3 M H locs ls cells slots hf hI hl; cases hf
    | succ n18 ih18 =>
      intro x1 x2 x3 M H locs ls cells slots hf hI hl
      rw [e_LW_law_18] at hf
      obtain ⟨J536, eJ536, hf⟩ := b_let_inv hf
      have w536 : ∀ (x1 : Option Nat) (x2 : Option Nat) (x3 : Int32) (M : hM) (H : Heap) (locs : List Loc) (ls : Array Slot) (cells slots : Nat), (J536 x1 x2 x3).1 M = some Z → hm_I D dA hCl z 0 s M H locs cells slots → lv_has ls 4 [(0, .ref b), (1, va_rf x1), (2, va_rf x2), (3, .int x3)] → W p l e R s m args below meth c H locs cells slots Q (F0 m 536 ls []) := by
        intro x1 x2 x3 M H locs ls cells slots hf hI hl
        rw [eJ536] at hf
        refine x_iinc (v := 5) (lv2 := [(0, .ref b), (1, va_rf x1), (2, va_rf x2)]) S d_LW_law_536 hl 3 rfl (by decide) (by decide) [0, 1, 2] rfl ⟨⟨(by decide : (0 : Nat) ≠ 3), fun h => absurd (show (0 : Nat) + 1 = 3 from h) (by decide)⟩, ⟨⟨(by decide : (1 : Nat) ≠ 3), fun h => absurd (show (1 : Nat) + 1 = 3 from h) (by decide)⟩, ⟨⟨(by decide : (2 : Nat) ≠ 3), fun _ => rf_cat _⟩, trivial⟩⟩⟩ (fun ls hl => ?_)
        refine lv_goto (tgt := 18) S.1 S.2.1 d_LW_law_539 (by decide) ?_
        exact ih18 x1 x2 (x3 + 5) _ _ _ _ _ _ hf hI (lv_sub hl [1, 2, 3, 0] rfl)
      refine lv_iload_n S.1 S.2.1 d_LW_law_18 rfl (lv_at hl 3 rfl) ?_
      refine lv_aload_n S.1 S.2.1 d_LW_law_19 rfl (lv_at hl 0 rfl) ?_
      refine va_slen S.1 S.2.1 hX hbl hbA hI.2.2.1 d_LW_law_20 ?_
      refine lv_iconst (v := 5) S.1 S.2.1 d_LW_law_21 (by decide) ?_
      refine lv_isub S.1 S.2.1 d_LW_law_22 ?_
      refine lv_icmp_gt (tgt := 542) S.1 S.2.1 d_LW_law_23 (by decide) (fun hc => ?_) (fun hc => ?_)
      · have hf := b_if_t hc hf
        refine lv_iconst (v := 1) S.1 S.2.1 d_LW_law_542 (by decide) ?_
        exact hret _ _ _ _ _ _ _ _ d_LW_law_543 hf hI
      · have hf := b_if_f hc hf
        refine lv_aload_n S.1 S.2.1 d_LW_law_26 rfl (lv_at hl 0 rfl) ?_
        refine lv_iload_n S.1 S.2.1 d_LW_law_27 rfl (lv_at hl 3 rfl) ?_
        obtain ⟨hin, hf⟩ := b_ifn hf
        refine va_sld (i := x3) S.1 S.2.1 hX hbl hbA hI.2.2.1 hin d_LW_law_28 ?_
        refine lv_bipush (v := 15) S.1 S.2.1 d_LW_law_29 (by decide) ?_
        refine lv_iand S.1 S.2.1 d_LW_law_31 ?_
        by_cases hc0 : ((xs (x3 : Int32).toNatClampNeg) &&& 15) = 0
        · have hf := b_if_t hc0 hf
          refine lv_tableIn (tgt := 104) S.1 S.2.1 d_LW_law_32 (by rw [hc0]; decide) (by rw [hc0]; decide) (by rw [hc0] <;> rfl) (by decide) ?_
          refine x_aload_n (r := x1) S d_LW_law_104 rfl (lv_at hl 1 rfl) ?_
          refine lv_aload_n S.1 S.2.1 d_LW_law_105 rfl (lv_at hl 0 rfl) ?_
          refine lv_iload_n S.1 S.2.1 d_LW_law_106 rfl (lv_at hl 3 rfl) ?_
          refine lv_iconst (v := 1) S.1 S.2.1 d_LW_law_107 (by decide) ?_
          refine lv_iadd S.1 S.2.1 d_LW_law_108 ?_
          obtain ⟨hin, hf⟩ := b_ifn hf
          refine va_sld (i := (x3 + 1)) S.1 S.2.1 hX hbl hbA hI.2.2.1 hin d_LW_law_109 ?_
          refine lv_i2l S.1 S.2.1 d_LW_law_110 rfl ?_
          refine lv_bipush (v := 32) S.1 S.2.1 d_LW_law_111 (by decide) ?_
          refine lv_lshl S.1 S.2.1 d_LW_law_113 rfl ?_
          refine lv_aload_n S.1 S.2.1 d_LW_law_114 rfl (lv_at hl 0 rfl) ?_
          refine lv_iload_n S.1 S.2.1 d_LW_law_115 rfl (lv_at hl 3 rfl) ?_
          refine lv_iconst (v := 2) S.1 S.2.1 d_LW_law_116 (by decide) ?_
          refine lv_iadd S.1 S.2.1 d_LW_law_117 ?_
          obtain ⟨hin, hf⟩ := b_ifn hf
          refine va_sld (i := (x3 + 2)) S.1 S.2.1 hX hbl hbA hI.2.2.1 hin d_LW_law_118 ?_
          refine lv_i2l S.1 S.2.1 d_LW_law_119 rfl ?_
          refine lv_ldc2 (v := 4294967295) S.1 S.2.1 S.2.2.2.1 (S.2.2.2.2 _ (List.mem_cons_of_mem _ wd_805)) d_LW_law_120 ?_
          refine lv_land S.1 S.2.1 d_LW_law_123 ?_
          refine lv_lor S.1 S.2.1 d_LW_law_124 ?_
          obtain ⟨a1, ea1, hg⟩ := b_nn_inv hf
          have hI0 := hI
          have hl0 := hl
          clear hf hI hl
          subst ea1
          have hf := hg
          have hI := hI0
          have hl := hl0
          clear hg hI0 hl0
          obtain ⟨⟨fs5, hefs5⟩, hf⟩ := b_is_inv hf
          obtain ⟨r2, N3, hg4, hf⟩ := b_call_inv hf
          refine x_call hI (hm_mo hg4) (va_runV (As := [.long (((((xs (x3 + 1 : Int32).toNatClampNeg) : Int32).toInt64) <<< ((32 : Int32).toInt64 &&& 63)) ||| ((((xs (x3 + 2 : Int32).toNatClampNeg) : Int32).toInt64) &&& 4294967295))]) (rest := []) S (c_PR_type l hg4) (cwV 1 S.2.2.2.2 (gi_V wd_806 wd_807 wd_808 wd_362 wd_809) rfl rfl rfl (by decide +kernel) ⟨Nat.le_trans (Nat.le_of_ble_eq_true rfl) hRf.1, Nat.le_trans (Nat.le_of_ble_eq_true rfl) hRf.2⟩) ⟨hm_B.blind, va_recv hK (hI.1.one hefs5) (ci := 0) (q0 := 0) rfl rfl, fun U hU hW => ⟨rfl, hm_B.of hK hG hI hU hW⟩⟩ rfl rfl hl.1 rfl (lv_room (Nat.le_of_ble_eq_true rfl)) d_LW_law_125 (hx_fit hI hR (hm_mo hg4) (hm_mo hf))) (fun H locs cells slots hI => ?_)
          refine W.eq (g2 := F0 m 128 ls []) rfl ?_
          refine x_aload_n (r := x2) S d_LW_law_128 rfl (lv_at hl 2 rfl) ?_
          refine lv_aload_n S.1 S.2.1 d_LW_law_129 rfl (lv_at hl 0 rfl) ?_
          refine lv_iload_n S.1 S.2.1 d_LW_law_130 rfl (lv_at hl 3 rfl) ?_
          refine lv_iconst (v := 1) S.1 S.2.1 d_LW_law_131 (by decide) ?_
          refine lv_iadd S.1 S.2.1 d_LW_law_132 ?_
          obtain ⟨hin, hf⟩ := b_ifn hf
          refine va_sld (i := (x3 + 1)) S.1 S.2.1 hX hbl hbA hI.2.2.1 hin d_LW_law_133 ?_
          refine lv_i2l S.1 S.2.1 d_LW_law_134 rfl ?_
          refine lv_bipush (v := 32) S.1 S.2.1 d_LW_law_135 (by decide) ?_
          refine lv_lshl S.1 S.2.1 d_LW_law_137 rfl ?_
          refine lv_aload_n S.1 S.2.1 d_LW_law_138 rfl (lv_at hl 0 rfl) ?_
          refine lv_iload_n S.1 S.2.1 d_LW_law_139 rfl (lv_at hl 3 rfl) ?_
          refine lv_iconst (v := 2) S.1 S.2.1 d_LW_law_140 (by decide) ?_
          refine lv_iadd S.1 S.2.1 d_LW_law_141 ?_
          obtain ⟨hin, hf⟩ := b_ifn hf
          refine va_sld (i := (x3 + 2)) S.1 S.2.1 hX hbl hbA hI.2.2.1 hin d_LW_law_142 ?_
          refine lv_i2l S.1 S.2.1 d_LW_law_143 rfl ?_
          refine lv_ldc2 (v := 4294967295) S.1 S.2.1 S.2.2.2.1 (S.2.2.2.2 _ (List.mem_cons_of_mem _ wd_805)) d_LW_law_144 ?_
          refine lv_land S.1 S.2.1 d_LW_law_147 ?_
          refine lv_lor S.1 S.2.1 d_LW_law_148 ?_
          obtain ⟨a6, ea6, hg⟩ := b_nn_inv hf
          have hI0 := hI
          have hl0 := hl
          clear hf hI hl
          subst ea6
          have hf := hg
          have hI := hI0
          have hl := hl0
          clear hg hI0 hl0
          obtain ⟨⟨fs10, hefs10⟩, hf⟩ := b_is_inv hf
          obtain ⟨r7, N8, hg9, hf⟩ := b_call_inv hf
          refine x_call hI (hm_mo hg9) (va_runV (As := [.long (((((xs (x3 + 1 : Int32).toNatClampNeg) : Int32).toInt64) <<< ((32 : Int32).toInt64 &&& 63)) ||| ((((xs (x3 + 2 : Int32).toNatClampNeg) : Int32).toInt64) &&& 4294967295))]) (rest := []) S (c_MD_type l hg9) (cwV 1 S.2.2.2.2 (gi_V wd_810 wd_811 wd_812 wd_564 wd_813) rfl rfl rfl (by decide +kernel) ⟨Nat.le_trans (Nat.le_of_ble_eq_true rfl) hRf.1, Nat.le_trans (Nat.le_of_ble_eq_true rfl) hRf.2⟩) ⟨hm_B.blind, va_recv hK (hI.1.one hefs10) (ci := 1) (q0 := 0) rfl rfl, fun U hU hW => ⟨rfl, hm_B.of hK hG hI hU hW⟩⟩ rfl rfl hl.1 rfl (lv_room (Nat.le_of_ble_eq_true rfl)) d_LW_law_149 (hx_fit hI hR (hm_mo hg9) (hm_mo hf))) (fun H locs cells slots hI => ?_)
          refine W.eq (g2 := F0 m 152 ls []) rfl ?_
          refine lv_goto (tgt := 536) S.1 S.2.1 d_LW_law_152 (by decide) ?_
          exact w536 (some a1) (some a6) x3 _ _ _ _ _ _ hf hI (lv_sub hl [0, 1, 2, 3] rfl)
        · have hf := b_if_f hc0 hf
          by_cases hc1 : ((xs (x3 : Int32).toNatClampNeg) &&& 15) = 1
          · have hf := b_if_t hc1 hf
            refine lv_tableIn (tgt := 155) S.1 S.2.1 d_LW_law_32 (by rw [hc1]; decide) (by rw [hc1]; decide) (by rw [hc1] <;> rfl) (by decide) ?_
            refine x_aload_n (r := x1) S d_LW_law_155 rfl (lv_at hl 1 rfl) ?_
            obtain ⟨a11, ea11, hg⟩ := b_nn_inv hf
            have hI0 := hI
            have hl0 := hl
            clear hf hI hl
            subst ea11
            have hf := hg
            have hI := hI0
            have hl := hl0
            clear hg hI0 hl0
            obtain ⟨⟨fs15, hefs15⟩, hf⟩ := b_is_inv hf
            obtain ⟨v12, N13, hg14, hf⟩ := b_call_inv hf
            refine x_call hI (hm_mo hg14) (va_runV (As := []) (rest := []) S (c_PR_read l hg14) (cwV 0 S.2.2.2.2 (gi_V wd_814 wd_815 wd_816 wd_362 wd_817) rfl rfl rfl (by decide +kernel) ⟨Nat.le_trans (Nat.le_of_ble_eq_true rfl) hRf.1, Nat.le_trans (Nat.le_of_ble_eq_true rfl) hRf.2⟩) ⟨hm_B.blind, va_recv hK (hI.1.one hefs15) (ci := 0) (q0 := 0) rfl rfl, fun U hU hW => ⟨rfl, hm_B.of hK hG hI hU hW⟩⟩ rfl rfl hl.1 rfl (lv_room (Nat.le_of_ble_eq_true rfl)) d_LW_law_156 (hx_fit hI hR (hm_mo hg14) (hm_mo hf))) (fun H locs cells slots hI => ?_)
            refine W.eq (g2 := F0 m 159 ls [.int v12]) rfl ?_
            refine x_aload_n (r := x2) S d_LW_law_159 rfl (lv_at hl 2 rfl) ?_
            obtain ⟨a16, ea16, hg⟩ := b_nn_inv hf
            have hI0 := hI
            have hl0 := hl
            clear hf hI hl
            subst ea16
            have hf := hg
            have hI := hI0
            have hl := hl0
            clear hg hI0 hl0
            obtain ⟨⟨fs20, hefs20⟩, hf⟩ := b_is_inv hf
            obtain ⟨v17, N18, hg19, hf⟩ := b_call_inv hf
            refine x_call hI (hm_mo hg19) (va_runV (As := []) (rest := [.int v12]) S (c_MD_read l hg19) (cwV 0 S.2.2.2.2 (gi_V wd_818 wd_819 wd_820 wd_564 wd_821) rfl rfl rfl (by decide +kernel) ⟨Nat.le_trans (Nat.le_of_ble_eq_true rfl) hRf.1, Nat.le_trans (Nat.le_of_ble_eq_true rfl) hRf.2⟩) ⟨hm_B.blind, va_recv hK (hI.1.one hefs20) (ci := 1) (q0 := 0) rfl rfl, fun U hU hW => ⟨rfl, hm_B.of hK hG hI hU hW⟩⟩ rfl rfl hl.1 rfl (lv_room (Nat.le_of_ble_eq_true rfl)) d_LW_law_160 (hx_fit hI hR (hm_mo hg19) (hm_mo hf))) (fun H locs cells slots hI => ?_)
            refine W.eq (g2 := F0 m 163 ls [.int v17, .int v12]) rfl ?_
            refine lv_icmp_eq (tgt := 536) S.1 S.2.1 d_LW_law_163 (by decide) (fun hc => ?_) (fun hc => ?_)
            · have hf := b_if_t hc hf
              exact w536 (some a11) (some a16) x3 _ _ _ _ _ _ hf hI (lv_sub hl [0, 1, 2, 3] rfl)
            · have hf := b_if_f hc hf
              refine lv_iconst (v := 0) S.1 S.2.1 d_LW_law_166 (by decide) ?_
              exact hret _ _ _ _ _ _ _ _ d_LW_law_167 hf hI
          · have hf := b_if_f hc1 hf
            by_cases hc2 : ((xs (x3 : Int32).toNatClampNeg) &&& 15) = 2
            · have hf := b_if_t hc2 hf
              refine lv_tableIn (tgt := 168) S.1 S.2.1 d_LW_law_32 (by rw [hc2]; decide) (by rw [hc2]; decide) (by rw [hc2] <;> rfl) (by decide) ?_
              refine x_aload_n (r := x1) S d_LW_law_168 rfl (lv_at hl 1 rfl) ?_
              refine lv_aload_n S.1 S.2.1 d_LW_law_169 rfl (lv_at hl 0 rfl) ?_
              refine lv_iload_n S.1 S.2.1 d_LW_law_170 rfl (lv_at hl 3 rfl) ?_
              refine lv_iconst (v := 1) S.1 S.2.1 d_LW_law_171 (by decide) ?_
              refine lv_iadd S.1 S.2.1 d_LW_law_172 ?_
              obtain ⟨hin, hf⟩ := b_ifn hf
              refine va_sld (i := (x3 + 1)) S.1 S.2.1 hX hbl hbA hI.2.2.1 hin d_LW_law_173 ?_
              obtain ⟨a21, ea21, hg⟩ := b_nn_inv hf
              have hI0 := hI
              have hl0 := hl
              clear hf hI hl
              subst ea21
              have hf := hg
              have hI := hI0
              have hl := hl0
              clear hg hI0 hl0
              obtain ⟨⟨fs25, hefs25⟩, hf⟩ := b_is_inv hf
              obtain ⟨v22, N23, hg24, hf⟩ := b_call_inv hf
              refine x_call hI (hm_mo hg24) (va_runV (As := [.int (xs (x3 + 1 : Int32).toNatClampNeg)]) (rest := []) S (c_PR_rows l hg24) (cwV 1 S.2.2.2.2 (gi_V wd_822 wd_823 wd_824 wd_362 wd_825) rfl rfl rfl (by decide +kernel) ⟨Nat.le_trans (Nat.le_of_ble_eq_true rfl) hRf.1, Nat.le_trans (Nat.le_of_ble_eq_true rfl) hRf.2⟩) ⟨hm_B.blind, va_recv hK (hI.1.one hefs25) (ci := 0) (q0 := 0) rfl rfl, fun U hU hW => ⟨rfl, hm_B.of hK hG hI hU hW⟩⟩ rfl rfl hl.1 rfl (lv_room (Nat.le_of_ble_eq_true rfl)) d_LW_law_174 (hx_fit hI hR (hm_mo hg24) (hm_mo hf))) (fun H locs cells slots hI => ?_)
              refine W.eq (g2 := F0 m 177 ls [.int v22]) rfl ?_
              refine x_aload_n (r := x2) S d_LW_law_177 rfl (lv_at hl 2 rfl) ?_
              refine lv_aload_n S.1 S.2.1 d_LW_law_178 rfl (lv_at hl 0 rfl) ?_
              refine lv_iload_n S.1 S.2.1 d_LW_law_179 rfl (lv_at hl 3 rfl) ?_
              refine lv_iconst (v := 1) S.1 S.2.1 d_LW_law_180 (by decide) ?_
              refine lv_iadd S.1 S.2.1 d_LW_law_181 ?_
              obtain ⟨hin, hf⟩ := b_ifn hf
              refine va_sld (i := (x3 + 1)) S.1 S.2.1 hX hbl hbA hI.2.2.1 hin d_LW_law_182 ?_
              obtain ⟨a26, ea26, hg⟩ := b_nn_inv hf
              have hI0 := hI
              have hl0 := hl
              clear hf hI hl
              subst ea26
              have hf := hg
              have hI := hI0
              have hl := hl0
              clear hg hI0 hl0
              obtain ⟨⟨fs30, hefs30⟩, hf⟩ := b_is_inv hf
              obtain ⟨v27, N28, hg29, hf⟩ := b_call_inv hf
              refine x_call hI (hm_mo hg29) (va_runV (As := [.int (xs (x3 + 1 : Int32).toNatClampNeg)]) (rest := [.int v22]) S (c_MD_rows l hg29) (cwV 1 S.2.2.2.2 (gi_V wd_826 wd_827 wd_828 wd_564 wd_829) rfl rfl rfl (by decide +kernel) ⟨Nat.le_trans (Nat.le_of_ble_eq_true rfl) hRf.1, Nat.le_trans (Nat.le_of_ble_eq_true rfl) hRf.2⟩) ⟨hm_B.blind, va_recv hK (hI.1.one hefs30) (ci := 1) (q0 := 0) rfl rfl, fun U hU hW => ⟨rfl, hm_B.of hK hG hI hU hW⟩⟩ rfl rfl hl.1 rfl (lv_room (Nat.le_of_ble_eq_true rfl)) d_LW_law_183 (hx_fit hI hR (hm_mo hg29) (hm_mo hf))) (fun H locs cells slots hI => ?_)
              refine W.eq (g2 := F0 m 186 ls [.int v27, .int v22]) rfl ?_
              refine lv_icmp_eq (tgt := 536) S.1 S.2.1 d_LW_law_186 (by decide) (fun hc => ?_) (fun hc => ?_)
              · have hf := b_if_t hc hf
                exact w536 (some a21) (some a26) x3 _ _ _ _ _ _ hf hI (lv_sub hl [0, 1, 2, 3] rfl)
              · have hf := b_if_f hc hf
                refine lv_iconst (v := 0) S.1 S.2.1 d_LW_law_189 (by decide) ?_
                exact hret _ _ _ _ _ _ _ _ d_LW_law_190 hf hI
            · have hf := b_if_f hc2 hf
              by_cases hc3 : ((xs (x3 : Int32).toNatClampNeg) &&& 15) = 3
              · have hf := b_if_t hc3 hf
                refine lv_tableIn (tgt := 191) S.1 S.2.1 d_LW_law_32 (by rw [hc3]; decide) (by rw [hc3]; decide) (by rw [hc3] <;> rfl) (by decide) ?_
                refine x_aload_n (r := x1) S d_LW_law_191 rfl (lv_at hl 1 rfl) ?_
                refine lv_aload_n S.1 S.2.1 d_LW_law_192 rfl (lv_at hl 0 rfl) ?_
                refine lv_iload_n S.1 S.2.1 d_LW_law_193 rfl (lv_at hl 3 rfl) ?_
                refine lv_iconst (v := 1) S.1 S.2.1 d_LW_law_194 (by decide) ?_
                refine lv_iadd S.1 S.2.1 d_LW_law_195 ?_
                obtain ⟨hin, hf⟩ := b_ifn hf
                refine va_sld (i := (x3 + 1)) S.1 S.2.1 hX hbl hbA hI.2.2.1 hin d_LW_law_196 ?_
                refine lv_aload_n S.1 S.2.1 d_LW_law_197 rfl (lv_at hl 0 rfl) ?_
                refine lv_iload_n S.1 S.2.1 d_LW_law_198 rfl (lv_at hl 3 rfl) ?_
                refine lv_iconst (v := 2) S.1 S.2.1 d_LW_law_199 (by decide) ?_
                refine lv_iadd S.1 S.2.1 d_LW_law_200 ?_
                obtain ⟨hin, hf⟩ := b_ifn hf
                refine va_sld (i := (x3 + 2)) S.1 S.2.1 hX hbl hbA hI.2.2.1 hin d_LW_law_201 ?_
                refine lv_aload_n S.1 S.2.1 d_LW_law_202 rfl (lv_at hl 0 rfl) ?_
                refine lv_iload_n S.1 S.2.1 d_LW_law_203 rfl (lv_at hl 3 rfl) ?_
                refine lv_iconst (v := 3) S.1 S.2.1 d_LW_law_204 (by decide) ?_
                refine lv_iadd S.1 S.2.1 d_LW_law_205 ?_
                obtain ⟨hin, hf⟩ := b_ifn hf
                refine va_sld (i := (x3 + 3)) S.1 S.2.1 hX hbl hbA hI.2.2.1 hin d_LW_law_206 ?_
                obtain ⟨a31, ea31, hg⟩ := b_nn_inv hf
                have hI0 := hI
                have hl0 := hl
                clear hf hI hl
                subst ea31
                have hf := hg
                have hI := hI0
                have hl := hl0
                clear hg hI0 hl0
                obtain ⟨⟨fs35, hefs35⟩, hf⟩ := b_is_inv hf
                obtain ⟨v32, N33, hg34, hf⟩ := b_call_inv hf
                refine x_call hI (hm_mo hg34) (va_runV (As := [.int (xs (x3 + 1 : Int32).toNatClampNeg), .int (xs (x3 + 2 : Int32).toNatClampNeg), .int (xs (x3 + 3 : Int32).toNatClampNeg)]) (rest := []) S (c_PR_row l hg34) (cwV 3 S.2.2.2.2 (gi_V wd_830 wd_831 wd_832 wd_362 wd_833) rfl rfl rfl (by decide +kernel) ⟨Nat.le_trans (Nat.le_of_ble_eq_true rfl) hRf.1, Nat.le_trans (Nat.le_of_ble_eq_true rfl) hRf.2⟩) ⟨hm_B.blind, va_recv hK (hI.1.one hefs35) (ci := 0) (q0 := 0) rfl rfl, fun U hU hW => ⟨rfl, hm_B.of hK hG hI hU hW⟩⟩ rfl rfl hl.1 rfl (lv_room (Nat.le_of_ble_eq_true rfl)) d_LW_law_207 (hx_fit hI hR (hm_mo hg34) (hm_mo hf))) (fun H locs cells slots hI => ?_)
                refine W.eq (g2 := F0 m 210 ls [.int v32]) rfl ?_
                refine x_aload_n (r := x2) S d_LW_law_210 rfl (lv_at hl 2 rfl) ?_
                refine lv_aload_n S.1 S.2.1 d_LW_law_211 rfl (lv_at hl 0 rfl) ?_
                refine lv_iload_n S.1 S.2.1 d_LW_law_212 rfl (lv_at hl 3 rfl) ?_
                refine lv_iconst (v := 1) S.1 S.2.1 d_LW_law_213 (by decide) ?_
                refine lv_iadd S.1 S.2.1 d_LW_law_214 ?_
                obtain ⟨hin, hf⟩ := b_ifn hf
                refine va_sld (i := (x3 + 1)) S.1 S.2.1 hX hbl hbA hI.2.2.1 hin d_LW_law_215 ?_
                refine lv_aload_n S.1 S.2.1 d_LW_law_216 rfl (lv_at hl 0 rfl) ?_
                refine lv_iload_n S.1 S.2.1 d_LW_law_217 rfl (lv_at hl 3 rfl) ?_
                refine lv_iconst (v := 2) S.1 S.2.1 d_LW_law_218 (by decide) ?_
                refine lv_iadd S.1 S.2.1 d_LW_law_219 ?_
                obtain ⟨hin, hf⟩ := b_ifn hf
                refine va_sld (i := (x3 + 2)) S.1 S.2.1 hX hbl hbA hI.2.2.1 hin d_LW_law_220 ?_
                refine lv_aload_n S.1 S.2.1 d_LW_law_221 rfl (lv_at hl 0 rfl) ?_
                refine lv_iload_n S.1 S.2.1 d_LW_law_222 rfl (lv_at hl 3 rfl) ?_
                refine lv_iconst (v := 3) S.1 S.2.1 d_LW_law_223 (by decide) ?_
                refine lv_iadd S.1 S.2.1 d_LW_law_224 ?_
                obtain ⟨hin, hf⟩ := b_ifn hf
                refine va_sld (i := (x3 + 3)) S.1 S.2.1 hX hbl hbA hI.2.2.1 hin d_LW_law_225 ?_
                obtain ⟨a36, ea36, hg⟩ := b_nn_inv hf
                have hI0 := hI
                have hl0 := hl
                clear hf hI hl
                subst ea36
                have hf := hg
                have hI := hI0
                have hl := hl0
                clear hg hI0 hl0
                obtain ⟨⟨fs40, hefs40⟩, hf⟩ := b_is_inv hf
                obtain ⟨v37, N38, hg39, hf⟩ := b_call_inv hf
                refine x_call hI (hm_mo hg39) (va_runV (As := [.int (xs (x3 + 1 : Int32).toNatClampNeg), .int (xs (x3 + 2 : Int32).toNatClampNeg), .int (xs (x3 + 3 : Int32).toNatClampNeg)]) (rest := [.int v32]) S (c_MD_row l hg39) (cwV 3 S.2.2.2.2 (gi_V wd_834 wd_835 wd_836 wd_564 wd_837) rfl rfl rfl (by decide +kernel) ⟨Nat.le_trans (Nat.le_of_ble_eq_true rfl) hRf.1, Nat.le_trans (Nat.le_of_ble_eq_true rfl) hRf.2⟩) ⟨hm_B.blind, va_recv hK (hI.1.one hefs40) (ci := 1) (q0 := 0) rfl rfl, fun U hU hW => ⟨rfl, hm_B.of hK hG hI hU hW⟩⟩ rfl rfl hl.1 rfl (lv_room (Nat.le_of_ble_eq_true rfl)) d_LW_law_226 (hx_fit hI hR (hm_mo hg39) (hm_mo hf))) (fun H locs cells slots hI => ?_)
                refine W.eq (g2 := F0 m 229 ls [.int v37, .int v32]) rfl ?_
                refine lv_icmp_eq (tgt := 536) S.1 S.2.1 d_LW_law_229 (by decide) (fun hc => ?_) (fun hc => ?_)
                · have hf := b_if_t hc hf
                  exact w536 (some a31) (some a36) x3 _ _ _ _ _ _ hf hI (lv_sub hl [0, 1, 2, 3] rfl)
                · have hf := b_if_f hc hf
                  refine lv_iconst (v := 0) S.1 S.2.1 d_LW_law_232 (by decide) ?_
                  exact hret _ _ _ _ _ _ _ _ d_LW_law_233 hf hI
              · have hf := b_if_f hc3 hf
                by_cases hc4 : ((xs (x3 : Int32).toNatClampNeg) &&& 15) = 4
                · have hf := b_if_t hc4 hf
                  refine lv_tableIn (tgt := 234) S.1 S.2.1 d_LW_law_32 (by rw [hc4]; decide) (by rw [hc4]; decide) (by rw [hc4] <;> rfl) (by decide) ?_
                  refine x_aload_n (r := x1) S d_LW_law_234 rfl (lv_at hl 1 rfl) ?_
                  refine lv_aload_n S.1 S.2.1 d_LW_law_235 rfl (lv_at hl 0 rfl) ?_
                  refine lv_iload_n S.1 S.2.1 d_LW_law_236 rfl (lv_at hl 3 rfl) ?_
                  refine lv_iconst (v := 1) S.1 S.2.1 d_LW_law_237 (by decide) ?_
                  refine lv_iadd S.1 S.2.1 d_LW_law_238 ?_
                  obtain ⟨hin, hf⟩ := b_ifn hf
                  refine va_sld (i := (x3 + 1)) S.1 S.2.1 hX hbl hbA hI.2.2.1 hin d_LW_law_239 ?_
                  refine lv_aload_n S.1 S.2.1 d_LW_law_240 rfl (lv_at hl 0 rfl) ?_
                  refine lv_iload_n S.1 S.2.1 d_LW_law_241 rfl (lv_at hl 3 rfl) ?_
                  refine lv_iconst (v := 2) S.1 S.2.1 d_LW_law_242 (by decide) ?_
                  refine lv_iadd S.1 S.2.1 d_LW_law_243 ?_
                  obtain ⟨hin, hf⟩ := b_ifn hf
                  refine va_sld (i := (x3 + 2)) S.1 S.2.1 hX hbl hbA hI.2.2.1 hin d_LW_law_244 ?_
                  refine lv_aload_n S.1 S.2.1 d_LW_law_245 rfl (lv_at hl 0 rfl) ?_
                  refine lv_iload_n S.1 S.2.1 d_LW_law_246 rfl (lv_at hl 3 rfl) ?_
                  refine lv_iconst (v := 3) S.1 S.2.1 d_LW_law_247 (by decide) ?_
                  refine lv_iadd S.1 S.2.1 d_LW_law_248 ?_
                  obtain ⟨hin, hf⟩ := b_ifn hf
                  refine va_sld (i := (x3 + 3)) S.1 S.2.1 hX hbl hbA hI.2.2.1 hin d_LW_law_249 ?_
                  refine lv_aload_n S.1 S.2.1 d_LW_law_250 rfl (lv_at hl 0 rfl) ?_
                  refine lv_iload_n S.1 S.2.1 d_LW_law_251 rfl (lv_at hl 3 rfl) ?_
                  refine lv_iconst (v := 4) S.1 S.2.1 d_LW_law_252 (by decide) ?_
                  refine lv_iadd S.1 S.2.1 d_LW_law_253 ?_
                  obtain ⟨hin, hf⟩ := b_ifn hf
                  refine va_sld (i := (x3 + 4)) S.1 S.2.1 hX hbl hbA hI.2.2.1 hin d_LW_law_254 ?_
                  obtain ⟨a41, ea41, hg⟩ := b_nn_inv hf
                  have hI0 := hI
                  have hl0 := hl
                  clear hf hI hl
                  subst ea41
                  have hf := hg
                  have hI := hI0
                  have hl := hl0
                  clear hg hI0 hl0
                  obtain ⟨⟨fs45, hefs45⟩, hf⟩ := b_is_inv hf
                  obtain ⟨v42, N43, hg44, hf⟩ := b_call_inv hf
                  refine x_call hI (hm_mo hg44) (va_runV (As := [.int (xs (x3 + 1 : Int32).toNatClampNeg), .int (xs (x3 + 2 : Int32).toNatClampNeg), .int (xs (x3 + 3 : Int32).toNatClampNeg), .int (xs (x3 + 4 : Int32).toNatClampNeg)]) (rest := []) S (c_PR_letter l hg44) (cwV 4 S.2.2.2.2 (gi_V wd_838 wd_839 wd_840 wd_362 wd_841) rfl rfl rfl (by decide +kernel) ⟨Nat.le_trans (Nat.le_of_ble_eq_true rfl) hRf.1, Nat.le_trans (Nat.le_of_ble_eq_true rfl) hRf.2⟩) ⟨hm_B.blind, va_recv hK (hI.1.one hefs45) (ci := 0) (q0 := 0) rfl rfl, fun U hU hW => ⟨rfl, hm_B.of hK hG hI hU hW⟩⟩ rfl rfl hl.1 rfl (lv_room (Nat.le_of_ble_eq_true rfl)) d_LW_law_255 (hx_fit hI hR (hm_mo hg44) (hm_mo hf))) (fun H locs cells slots hI => ?_)
                  refine W.eq (g2 := F0 m 258 ls [.int v42]) rfl ?_
                  refine x_aload_n (r := x2) S d_LW_law_258 rfl (lv_at hl 2 rfl) ?_
                  refine lv_aload_n S.1 S.2.1 d_LW_law_259 rfl (lv_at hl 0 rfl) ?_
                  refine lv_iload_n S.1 S.2.1 d_LW_law_260 rfl (lv_at hl 3 rfl) ?_
                  refine lv_iconst (v := 1) S.1 S.2.1 d_LW_law_261 (by decide) ?_
                  refine lv_iadd S.1 S.2.1 d_LW_law_262 ?_
                  obtain ⟨hin, hf⟩ := b_ifn hf
                  refine va_sld (i := (x3 + 1)) S.1 S.2.1 hX hbl hbA hI.2.2.1 hin d_LW_law_263 ?_
                  refine lv_aload_n S.1 S.2.1 d_LW_law_264 rfl (lv_at hl 0 rfl) ?_
                  refine lv_iload_n S.1 S.2.1 d_LW_law_265 rfl (lv_at hl 3 rfl) ?_
                  refine lv_iconst (v := 2) S.1 S.2.1 d_LW_law_266 (by decide) ?_
                  refine lv_iadd S.1 S.2.1 d_LW_law_267 ?_
                  obtain ⟨hin, hf⟩ := b_ifn hf
                  refine va_sld (i := (x3 + 2)) S.1 S.2.1 hX hbl hbA hI.2.2.1 hin d_LW_law_268 ?_
                  refine lv_aload_n S.1 S.2.1 d_LW_law_269 rfl (lv_at hl 0 rfl) ?_
                  refine lv_iload_n S.1 S.2.1 d_LW_law_270 rfl (lv_at hl 3 rfl) ?_
                  refine lv_iconst (v := 3) S.1 S.2.1 d_LW_law_271 (by decide) ?_
                  refine lv_iadd S.1 S.2.1 d_LW_law_272 ?_
                  obtain ⟨hin, hf⟩ := b_ifn hf
                  refine va_sld (i := (x3 + 3)) S.1 S.2.1 hX hbl hbA hI.2.2.1 hin d_LW_law_273 ?_
                  refine lv_aload_n S.1 S.2.1 d_LW_law_274 rfl (lv_at hl 0 rfl) ?_
                  refine lv_iload_n S.1 S.2.1 d_LW_law_275 rfl (lv_at hl 3 rfl) ?_
                  refine lv_iconst (v := 4) S.1 S.2.1 d_LW_law_276 (by decide) ?_
                  refine lv_iadd S.1 S.2.1 d_LW_law_277 ?_
                  obtain ⟨hin, hf⟩ := b_ifn hf
                  refine va_sld (i := (x3 + 4)) S.1 S.2.1 hX hbl hbA hI.2.2.1 hin d_LW_law_278 ?_
                  obtain ⟨a46, ea46, hg⟩ := b_nn_inv hf
                  have hI0 := hI
                  have hl0 := hl
                  clear hf hI hl
                  subst ea46
                  have hf := hg
                  have hI := hI0
                  have hl := hl0
                  clear hg hI0 hl0
                  obtain ⟨⟨fs50, hefs50⟩, hf⟩ := b_is_inv hf
                  obtain ⟨v47, N48, hg49, hf⟩ := b_call_inv hf
                  refine x_call hI (hm_mo hg49) (va_runV (As := [.int (xs (x3 + 1 : Int32).toNatClampNeg), .int (xs (x3 + 2 : Int32).toNatClampNeg), .int (xs (x3 + 3 : Int32).toNatClampNeg), .int (xs (x3 + 4 : Int32).toNatClampNeg)]) (rest := [.int v42]) S (c_MD_letter l hg49) (cwV 4 S.2.2.2.2 (gi_V wd_842 wd_843 wd_844 wd_564 wd_845) rfl rfl rfl (by decide +kernel) ⟨Nat.le_trans (Nat.le_of_ble_eq_true rfl) hRf.1, Nat.le_trans (Nat.le_of_ble_eq_true rfl) hRf.2⟩) ⟨hm_B.blind, va_recv hK (hI.1.one hefs50) (ci := 1) (q0 := 0) rfl rfl, fun U hU hW => ⟨rfl, hm_B.of hK hG hI hU hW⟩⟩ rfl rfl hl.1 rfl (lv_room (Nat.le_of_ble_eq_true rfl)) d_LW_law_279 (hx_fit hI hR (hm_mo hg49) (hm_mo hf))) (fun H locs cells slots hI => ?_)
                  refine W.eq (g2 := F0 m 282 ls [.int v47, .int v42]) rfl ?_
                  refine lv_icmp_eq (tgt := 536) S.1 S.2.1 d_LW_law_282 (by decide) (fun hc => ?_) (fun hc => ?_)
                  · have hf := b_if_t hc hf
                    exact w536 (some a41) (some a46) x3 _ _ _ _ _ _ hf hI (lv_sub hl [0, 1, 2, 3] rfl)
                  · have hf := b_if_f hc hf
                    refine lv_iconst (v := 0) S.1 S.2.1 d_LW_law_285 (by decide) ?_
                    exact hret _ _ _ _ _ _ _ _ d_LW_law_286 hf hI
                · have hf := b_if_f hc4 hf
                  by_cases hc5 : ((xs (x3 : Int32).toNatClampNeg) &&& 15) = 5
                  · have hf := b_if_t hc5 hf
                    refine lv_tableIn (tgt := 287) S.1 S.2.1 d_LW_law_32 (by rw [hc5]; decide) (by rw [hc5]; decide) (by rw [hc5] <;> rfl) (by decide) ?_
                    refine x_aload_n (r := x1) S d_LW_law_287 rfl (lv_at hl 1 rfl) ?_
                    refine lv_aload_n S.1 S.2.1 d_LW_law_288 rfl (lv_at hl 0 rfl) ?_
                    refine lv_iload_n S.1 S.2.1 d_LW_law_289 rfl (lv_at hl 3 rfl) ?_
                    refine lv_iconst (v := 1) S.1 S.2.1 d_LW_law_290 (by decide) ?_
                    refine lv_iadd S.1 S.2.1 d_LW_law_291 ?_
                    obtain ⟨hin, hf⟩ := b_ifn hf
                    refine va_sld (i := (x3 + 1)) S.1 S.2.1 hX hbl hbA hI.2.2.1 hin d_LW_law_292 ?_
                    refine lv_aload_n S.1 S.2.1 d_LW_law_293 rfl (lv_at hl 0 rfl) ?_
                    refine lv_iload_n S.1 S.2.1 d_LW_law_294 rfl (lv_at hl 3 rfl) ?_
                    refine lv_iconst (v := 2) S.1 S.2.1 d_LW_law_295 (by decide) ?_
                    refine lv_iadd S.1 S.2.1 d_LW_law_296 ?_
                    obtain ⟨hin, hf⟩ := b_ifn hf
                    refine va_sld (i := (x3 + 2)) S.1 S.2.1 hX hbl hbA hI.2.2.1 hin d_LW_law_297 ?_
                    obtain ⟨a51, ea51, hg⟩ := b_nn_inv hf
                    have hI0 := hI
                    have hl0 := hl
                    clear hf hI hl
                    subst ea51
                    have hf := hg
                    have hI := hI0
                    have hl := hl0
                    clear hg hI0 hl0
                    obtain ⟨⟨fs55, hefs55⟩, hf⟩ := b_is_inv hf
                    obtain ⟨v52, N53, hg54, hf⟩ := b_call_inv hf
                    refine x_call hI (hm_mo hg54) (va_runV (As := [.int (xs (x3 + 1 : Int32).toNatClampNeg), .int (xs (x3 + 2 : Int32).toNatClampNeg)]) (rest := []) S (c_PR_low l hg54) (cwV 2 S.2.2.2.2 (gi_V wd_846 wd_847 wd_848 wd_362 wd_849) rfl rfl rfl (by decide +kernel) ⟨Nat.le_trans (Nat.le_of_ble_eq_true rfl) hRf.1, Nat.le_trans (Nat.le_of_ble_eq_true rfl) hRf.2⟩) ⟨hm_B.blind, va_recv hK (hI.1.one hefs55) (ci := 0) (q0 := 0) rfl rfl, fun U hU hW => ⟨rfl, hm_B.of hK hG hI hU hW⟩⟩ rfl rfl hl.1 rfl (lv_room (Nat.le_of_ble_eq_true rfl)) d_LW_law_298 (hx_fit hI hR (hm_mo hg54) (hm_mo hf))) (fun H locs cells slots hI => ?_)
                    refine W.eq (g2 := F0 m 301 ls [.long v52]) rfl ?_
                    refine x_aload_n (r := x2) S d_LW_law_301 rfl (lv_at hl 2 rfl) ?_
                    refine lv_aload_n S.1 S.2.1 d_LW_law_302 rfl (lv_at hl 0 rfl) ?_
                    refine lv_iload_n S.1 S.2.1 d_LW_law_303 rfl (lv_at hl 3 rfl) ?_
                    refine lv_iconst (v := 1) S.1 S.2.1 d_LW_law_304 (by decide) ?_
                    refine lv_iadd S.1 S.2.1 d_LW_law_305 ?_
                    obtain ⟨hin, hf⟩ := b_ifn hf
                    refine va_sld (i := (x3 + 1)) S.1 S.2.1 hX hbl hbA hI.2.2.1 hin d_LW_law_306 ?_
                    refine lv_aload_n S.1 S.2.1 d_LW_law_307 rfl (lv_at hl 0 rfl) ?_
                    refine lv_iload_n S.1 S.2.1 d_LW_law_308 rfl (lv_at hl 3 rfl) ?_
                    refine lv_iconst (v := 2) S.1 S.2.1 d_LW_law_309 (by decide) ?_
                    refine lv_iadd S.1 S.2.1 d_LW_law_310 ?_
                    obtain ⟨hin, hf⟩ := b_ifn hf
                    refine va_sld (i := (x3 + 2)) S.1 S.2.1 hX hbl hbA hI.2.2.1 hin d_LW_law_311 ?_
                    obtain ⟨a56, ea56, hg⟩ := b_nn_inv hf
                    have hI0 := hI
                    have hl0 := hl
                    clear hf hI hl
                    subst ea56
                    have hf := hg
                    have hI := hI0
                    have hl := hl0
                    clear hg hI0 hl0
                    obtain ⟨⟨fs60, hefs60⟩, hf⟩ := b_is_inv hf
                    obtain ⟨v57, N58, hg59, hf⟩ := b_call_inv hf
                    refine x_call hI (hm_mo hg59) (va_runV (As := [.int (xs (x3 + 1 : Int32).toNatClampNeg), .int (xs (x3 + 2 : Int32).toNatClampNeg)]) (rest := [.long v52]) S (c_MD_low l hg59) (cwV 2 S.2.2.2.2 (gi_V wd_850 wd_851 wd_852 wd_564 wd_853) rfl rfl rfl (by decide +kernel) ⟨Nat.le_trans (Nat.le_of_ble_eq_true rfl) hRf.1, Nat.le_trans (Nat.le_of_ble_eq_true rfl) hRf.2⟩) ⟨hm_B.blind, va_recv hK (hI.1.one hefs60) (ci := 1) (q0 := 0) rfl rfl, fun U hU hW => ⟨rfl, hm_B.of hK hG hI hU hW⟩⟩ rfl rfl hl.1 rfl (lv_room (Nat.le_of_ble_eq_true rfl)) d_LW_law_312 (hx_fit hI hR (hm_mo hg59) (hm_mo hf))) (fun H locs cells slots hI => ?_)
                    refine W.eq (g2 := F0 m 315 ls [.long v57, .long v52]) rfl ?_
                    refine W.lcmp S.1 S.2.1 d_LW_law_315 ?_
                    refine lv_if_eq (tgt := 536) S.1 S.2.1 d_LW_law_316 (by decide) (fun hc => ?_) (fun hc => ?_)
                    · have hf := b_if_t hc hf
                      exact w536 (some a51) (some a56) x3 _ _ _ _ _ _ hf hI (lv_sub hl [0, 1, 2, 3] rfl)
                    · have hf := b_if_f hc hf
                      refine lv_iconst (v := 0) S.1 S.2.1 d_LW_law_319 (by decide) ?_
                      exact hret _ _ _ _ _ _ _ _ d_LW_law_320 hf hI
                  · have hf := b_if_f hc5 hf
                    by_cases hc6 : ((xs (x3 : Int32).toNatClampNeg) &&& 15) = 6
                    · have hf := b_if_t hc6 hf
                      refine lv_tableIn (tgt := 321) S.1 S.2.1 d_LW_law_32 (by rw [hc6]; decide) (by rw [hc6]; decide) (by rw [hc6] <;> rfl) (by decide) ?_
                      refine x_aload_n (r := x1) S d_LW_law_321 rfl (lv_at hl 1 rfl) ?_
                      refine lv_aload_n S.1 S.2.1 d_LW_law_322 rfl (lv_at hl 0 rfl) ?_
                      refine lv_iload_n S.1 S.2.1 d_LW_law_323 rfl (lv_at hl 3 rfl) ?_
                      refine lv_iconst (v := 1) S.1 S.2.1 d_LW_law_324 (by decide) ?_
                      refine lv_iadd S.1 S.2.1 d_LW_law_325 ?_
                      obtain ⟨hin, hf⟩ := b_ifn hf
                      refine va_sld (i := (x3 + 1)) S.1 S.2.1 hX hbl hbA hI.2.2.1 hin d_LW_law_326 ?_
                      refine lv_aload_n S.1 S.2.1 d_LW_law_327 rfl (lv_at hl 0 rfl) ?_
                      refine lv_iload_n S.1 S.2.1 d_LW_law_328 rfl (lv_at hl 3 rfl) ?_
                      refine lv_iconst (v := 2) S.1 S.2.1 d_LW_law_329 (by decide) ?_
                      refine lv_iadd S.1 S.2.1 d_LW_law_330 ?_
                      obtain ⟨hin, hf⟩ := b_ifn hf
                      refine va_sld (i := (x3 + 2)) S.1 S.2.1 hX hbl hbA hI.2.2.1 hin d_LW_law_331 ?_
                      obtain ⟨a61, ea61, hg⟩ := b_nn_inv hf
                      have hI0 := hI
                      have hl0 := hl
                      clear hf hI hl
                      subst ea61
                      have hf := hg
                      have hI := hI0
                      have hl := hl0
                      clear hg hI0 hl0
                      obtain ⟨⟨fs65, hefs65⟩, hf⟩ := b_is_inv hf
                      obtain ⟨v62, N63, hg64, hf⟩ := b_call_inv hf
                      refine x_call hI (hm_mo hg64) (va_runV (As := [.int (xs (x3 + 1 : Int32).toNatClampNeg), .int (xs (x3 + 2 : Int32).toNatClampNeg)]) (rest := []) S (c_PR_high l hg64) (cwV 2 S.2.2.2.2 (gi_V wd_854 wd_855 wd_856 wd_362 wd_857) rfl rfl rfl (by decide +kernel) ⟨Nat.le_trans (Nat.le_of_ble_eq_true rfl) hRf.1, Nat.le_trans (Nat.le_of_ble_eq_true rfl) hRf.2⟩) ⟨hm_B.blind, va_recv hK (hI.1.one hefs65) (ci := 0) (q0 := 0) rfl rfl, fun U hU hW => ⟨rfl, hm_B.of hK hG hI hU hW⟩⟩ rfl rfl hl.1 rfl (lv_room (Nat.le_of_ble_eq_true rfl)) d_LW_law_332 (hx_fit hI hR (hm_mo hg64) (hm_mo hf))) (fun H locs cells slots hI => ?_)
                      refine W.eq (g2 := F0 m 335 ls [.long v62]) rfl ?_
                      refine x_aload_n (r := x2) S d_LW_law_335 rfl (lv_at hl 2 rfl) ?_
                      refine lv_aload_n S.1 S.2.1 d_LW_law_336 rfl (lv_at hl 0 rfl) ?_
                      refine lv_iload_n S.1 S.2.1 d_LW_law_337 rfl (lv_at hl 3 rfl) ?_
                      refine lv_iconst (v := 1) S.1 S.2.1 d_LW_law_338 (by decide) ?_
                      refine lv_iadd S.1 S.2.1 d_LW_law_339 ?_
                      obtain ⟨hin, hf⟩ := b_ifn hf
                      refine va_sld (i := (x3 + 1)) S.1 S.2.1 hX hbl hbA hI.2.2.1 hin d_LW_law_340 ?_
                      refine lv_aload_n S.1 S.2.1 d_LW_law_341 rfl (lv_at hl 0 rfl) ?_
                      refine lv_iload_n S.1 S.2.1 d_LW_law_342 rfl (lv_at hl 3 rfl) ?_
                      refine lv_iconst (v := 2) S.1 S.2.1 d_LW_law_343 (by decide) ?_
                      refine lv_iadd S.1 S.2.1 d_LW_law_344 ?_
                      obtain ⟨hin, hf⟩ := b_ifn hf
                      refine va_sld (i := (x3 + 2)) S.1 S.2.1 hX hbl hbA hI.2.2.1 hin d_LW_law_345 ?_
                      obtain ⟨a66, ea66, hg⟩ := b_nn_inv hf
                      have hI0 := hI
                      have hl0 := hl
                      clear hf hI hl
                      subst ea66
                      have hf := hg
                      have hI := hI0
                      have hl := hl0
                      clear hg hI0 hl0
                      obtain ⟨⟨fs70, hefs70⟩, hf⟩ := b_is_inv hf
                      obtain ⟨v67, N68, hg69, hf⟩ := b_call_inv hf
                      refine x_call hI (hm_mo hg69) (va_runV (As := [.int (xs (x3 + 1 : Int32).toNatClampNeg), .int (xs (x3 + 2 : Int32).toNatClampNeg)]) (rest := [.long v62]) S (c_MD_high l hg69) (cwV 2 S.2.2.2.2 (gi_V wd_858 wd_859 wd_860 wd_564 wd_861) rfl rfl rfl (by decide +kernel) ⟨Nat.le_trans (Nat.le_of_ble_eq_true rfl) hRf.1, Nat.le_trans (Nat.le_of_ble_eq_true rfl) hRf.2⟩) ⟨hm_B.blind, va_recv hK (hI.1.one hefs70) (ci := 1) (q0 := 0) rfl rfl, fun U hU hW => ⟨rfl, hm_B.of hK hG hI hU hW⟩⟩ rfl rfl hl.1 rfl (lv_room (Nat.le_of_ble_eq_true rfl)) d_LW_law_346 (hx_fit hI hR (hm_mo hg69) (hm_mo hf))) (fun H locs cells slots hI => ?_)
                      refine W.eq (g2 := F0 m 349 ls [.long v67, .long v62]) rfl ?_
                      refine W.lcmp S.1 S.2.1 d_LW_law_349 ?_
                      refine lv_if_eq (tgt := 536) S.1 S.2.1 d_LW_law_350 (by decide) (fun hc => ?_) (fun hc => ?_)
                      · have hf := b_if_t hc hf
                        exact w536 (some a61) (some a66) x3 _ _ _ _ _ _ hf hI (lv_sub hl [0, 1, 2, 3] rfl)
                      · have hf := b_if_f hc hf
                        refine lv_iconst (v := 0) S.1 S.2.1 d_LW_law_353 (by decide) ?_
                        exact hret _ _ _ _ _ _ _ _ d_LW_law_354 hf hI
                    · have hf := b_if_f hc6 hf
                      by_cases hc7 : ((xs (x3 : Int32).toNatClampNeg) &&& 15) = 7
                      · have hf := b_if_t hc7 hf
                        refine lv_tableIn (tgt := 355) S.1 S.2.1 d_LW_law_32 (by rw [hc7]; decide) (by rw [hc7]; decide) (by rw [hc7] <;> rfl) (by decide) ?_
                        refine x_aload_n (r := x1) S d_LW_law_355 rfl (lv_at hl 1 rfl) ?_
                        refine lv_aload_n S.1 S.2.1 d_LW_law_356 rfl (lv_at hl 0 rfl) ?_
                        refine lv_iload_n S.1 S.2.1 d_LW_law_357 rfl (lv_at hl 3 rfl) ?_
                        refine lv_iconst (v := 1) S.1 S.2.1 d_LW_law_358 (by decide) ?_
                        refine lv_iadd S.1 S.2.1 d_LW_law_359 ?_
                        obtain ⟨hin, hf⟩ := b_ifn hf
                        refine va_sld (i := (x3 + 1)) S.1 S.2.1 hX hbl hbA hI.2.2.1 hin d_LW_law_360 ?_
                        obtain ⟨a71, ea71, hg⟩ := b_nn_inv hf
                        have hI0 := hI
                        have hl0 := hl
                        clear hf hI hl
                        subst ea71
                        have hf := hg
                        have hI := hI0
                        have hl := hl0
                        clear hg hI0 hl0
                        obtain ⟨⟨fs75, hefs75⟩, hf⟩ := b_is_inv hf
                        obtain ⟨v72, N73, hg74, hf⟩ := b_call_inv hf
                        refine x_call hI (hm_mo hg74) (va_runV (As := [.int (xs (x3 + 1 : Int32).toNatClampNeg)]) (rest := []) S (c_PR_check l hg74) (cwV 1 S.2.2.2.2 (gi_V wd_862 wd_863 wd_864 wd_362 wd_865) rfl rfl rfl (by decide +kernel) ⟨Nat.le_trans (Nat.le_of_ble_eq_true rfl) hRf.1, Nat.le_trans (Nat.le_of_ble_eq_true rfl) hRf.2⟩) ⟨hm_B.blind, va_recv hK (hI.1.one hefs75) (ci := 0) (q0 := 0) rfl rfl, fun U hU hW => ⟨rfl, hm_B.of hK hG hI hU hW⟩⟩ rfl rfl hl.1 rfl (lv_room (Nat.le_of_ble_eq_true rfl)) d_LW_law_361 (hx_fit hI hR (hm_mo hg74) (hm_mo hf))) (fun H locs cells slots hI => ?_)
                        refine W.eq (g2 := F0 m 364 ls [.int v72]) rfl ?_
                        refine x_aload_n (r := x2) S d_LW_law_364 rfl (lv_at hl 2 rfl) ?_
                        refine lv_aload_n S.1 S.2.1 d_LW_law_365 rfl (lv_at hl 0 rfl) ?_
                        refine lv_iload_n S.1 S.2.1 d_LW_law_366 rfl (lv_at hl 3 rfl) ?_
                        refine lv_iconst (v := 1) S.1 S.2.1 d_LW_law_367 (by decide) ?_
                        refine lv_iadd S.1 S.2.1 d_LW_law_368 ?_
                        obtain ⟨hin, hf⟩ := b_ifn hf
                        refine va_sld (i := (x3 + 1)) S.1 S.2.1 hX hbl hbA hI.2.2.1 hin d_LW_law_369 ?_
                        obtain ⟨a76, ea76, hg⟩ := b_nn_inv hf
                        have hI0 := hI
                        have hl0 := hl
                        clear hf hI hl
                        subst ea76
                        have hf := hg
                        have hI := hI0
                        have hl := hl0
                        clear hg hI0 hl0
                        obtain ⟨⟨fs80, hefs80⟩, hf⟩ := b_is_inv hf
                        obtain ⟨v77, N78, hg79, hf⟩ := b_call_inv hf
                        refine x_call hI (hm_mo hg79) (va_runV (As := [.int (xs (x3 + 1 : Int32).toNatClampNeg)]) (rest := [.int v72]) S (c_MD_check l hg79) (cwV 1 S.2.2.2.2 (gi_V wd_866 wd_867 wd_868 wd_564 wd_869) rfl rfl rfl (by decide +kernel) ⟨Nat.le_trans (Nat.le_of_ble_eq_true rfl) hRf.1, Nat.le_trans (Nat.le_of_ble_eq_true rfl) hRf.2⟩) ⟨hm_B.blind, va_recv hK (hI.1.one hefs80) (ci := 1) (q0 := 0) rfl rfl, fun U hU hW => ⟨rfl, hm_B.of hK hG hI hU hW⟩⟩ rfl rfl hl.1 rfl (lv_room (Nat.le_of_ble_eq_true rfl)) d_LW_law_370 (hx_fit hI hR (hm_mo hg79) (hm_mo hf))) (fun H locs cells slots hI => ?_)
                        refine W.eq (g2 := F0 m 373 ls [.int v77, .int v72]) rfl ?_
                        refine lv_icmp_eq (tgt := 536) S.1 S.2.1 d_LW_law_373 (by decide) (fun hc => ?_) (fun hc => ?_)
                        · have hf := b_if_t hc hf
                          exact w536 (some a71) (some a76) x3 _ _ _ _ _ _ hf hI (lv_sub hl [0, 1, 2, 3] rfl)
                        · have hf := b_if_f hc hf
                          refine lv_iconst (v := 0) S.1 S.2.1 d_LW_law_376 (by decide) ?_
                          exact hret _ _ _ _ _ _ _ _ d_LW_law_377 hf hI
                      · have hf := b_if_f hc7 hf
                        by_cases hc8 : ((xs (x3 : Int32).toNatClampNeg) &&& 15) = 8
                        · have hf := b_if_t hc8 hf
                          refine lv_tableIn (tgt := 378) S.1 S.2.1 d_LW_law_32 (by rw [hc8]; decide) (by rw [hc8]; decide) (by rw [hc8] <;> rfl) (by decide) ?_
                          refine x_aload_n (r := x1) S d_LW_law_378 rfl (lv_at hl 1 rfl) ?_
                          refine lv_aload_n S.1 S.2.1 d_LW_law_379 rfl (lv_at hl 0 rfl) ?_
                          refine lv_iload_n S.1 S.2.1 d_LW_law_380 rfl (lv_at hl 3 rfl) ?_
                          refine lv_iconst (v := 1) S.1 S.2.1 d_LW_law_381 (by decide) ?_
                          refine lv_iadd S.1 S.2.1 d_LW_law_382 ?_
                          obtain ⟨hin, hf⟩ := b_ifn hf
                          refine va_sld (i := (x3 + 1)) S.1 S.2.1 hX hbl hbA hI.2.2.1 hin d_LW_law_383 ?_
                          refine lv_aload_n S.1 S.2.1 d_LW_law_384 rfl (lv_at hl 0 rfl) ?_
                          refine lv_iload_n S.1 S.2.1 d_LW_law_385 rfl (lv_at hl 3 rfl) ?_
                          refine lv_iconst (v := 2) S.1 S.2.1 d_LW_law_386 (by decide) ?_
                          refine lv_iadd S.1 S.2.1 d_LW_law_387 ?_
                          obtain ⟨hin, hf⟩ := b_ifn hf
                          refine va_sld (i := (x3 + 2)) S.1 S.2.1 hX hbl hbA hI.2.2.1 hin d_LW_law_388 ?_
                          obtain ⟨a81, ea81, hg⟩ := b_nn_inv hf
                          have hI0 := hI
                          have hl0 := hl
                          clear hf hI hl
                          subst ea81
                          have hf := hg
                          have hI := hI0
                          have hl := hl0
                          clear hg hI0 hl0
                          obtain ⟨⟨fs85, hefs85⟩, hf⟩ := b_is_inv hf
                          obtain ⟨v82, N83, hg84, hf⟩ := b_call_inv hf
                          refine x_call hI (hm_mo hg84) (va_runV (As := [.int (xs (x3 + 1 : Int32).toNatClampNeg), .int (xs (x3 + 2 : Int32).toNatClampNeg)]) (rest := []) S (c_PR_same l hg84) (cwV 2 S.2.2.2.2 (gi_V wd_870 wd_871 wd_872 wd_362 wd_873) rfl rfl rfl (by decide +kernel) ⟨Nat.le_trans (Nat.le_of_ble_eq_true rfl) hRf.1, Nat.le_trans (Nat.le_of_ble_eq_true rfl) hRf.2⟩) ⟨hm_B.blind, va_recv hK (hI.1.one hefs85) (ci := 0) (q0 := 0) rfl rfl, fun U hU hW => ⟨rfl, hm_B.of hK hG hI hU hW⟩⟩ rfl rfl hl.1 rfl (lv_room (Nat.le_of_ble_eq_true rfl)) d_LW_law_389 (hx_fit hI hR (hm_mo hg84) (hm_mo hf))) (fun H locs cells slots hI => ?_)
                          refine W.eq (g2 := F0 m 392 ls [.int v82]) rfl ?_
                          refine x_aload_n (r := x2) S d_LW_law_392 rfl (lv_at hl 2 rfl) ?_
                          refine lv_aload_n S.1 S.2.1 d_LW_law_393 rfl (lv_at hl 0 rfl) ?_
                          refine lv_iload_n S.1 S.2.1 d_LW_law_394 rfl (lv_at hl 3 rfl) ?_
                          refine lv_iconst (v := 1) S.1 S.2.1 d_LW_law_395 (by decide) ?_
                          refine lv_iadd S.1 S.2.1 d_LW_law_396 ?_
                          obtain ⟨hin, hf⟩ := b_ifn hf
                          refine va_sld (i := (x3 + 1)) S.1 S.2.1 hX hbl hbA hI.2.2.1 hin d_LW_law_397 ?_
                          refine lv_aload_n S.1 S.2.1 d_LW_law_398 rfl (lv_at hl 0 rfl) ?_
                          refine lv_iload_n S.1 S.2.1 d_LW_law_399 rfl (lv_at hl 3 rfl) ?_
                          refine lv_iconst (v := 2) S.1 S.2.1 d_LW_law_400 (by decide) ?_
                          refine lv_iadd S.1 S.2.1 d_LW_law_401 ?_
                          obtain ⟨hin, hf⟩ := b_ifn hf
                          refine va_sld (i := (x3 + 2)) S.1 S.2.1 hX hbl hbA hI.2.2.1 hin d_LW_law_402 ?_
                          obtain ⟨a86, ea86, hg⟩ := b_nn_inv hf
                          have hI0 := hI
                          have hl0 := hl
                          clear hf hI hl
                          subst ea86
                          have hf := hg
                          have hI := hI0
                          have hl := hl0
                          clear hg hI0 hl0
                          obtain ⟨⟨fs90, hefs90⟩, hf⟩ := b_is_inv hf
                          obtain ⟨v87, N88, hg89, hf⟩ := b_call_inv hf
                          refine x_call hI (hm_mo hg89) (va_runV (As := [.int (xs (x3 + 1 : Int32).toNatClampNeg), .int (xs (x3 + 2 : Int32).toNatClampNeg)]) (rest := [.int v82]) S (c_MD_same l hg89) (cwV 2 S.2.2.2.2 (gi_V wd_874 wd_875 wd_876 wd_564 wd_877) rfl rfl rfl (by decide +kernel) ⟨Nat.le_trans (Nat.le_of_ble_eq_true rfl) hRf.1, Nat.le_trans (Nat.le_of_ble_eq_true rfl) hRf.2⟩) ⟨hm_B.blind, va_recv hK (hI.1.one hefs90) (ci := 1) (q0 := 0) rfl rfl, fun U hU hW => ⟨rfl, hm_B.of hK hG hI hU hW⟩⟩ rfl rfl hl.1 rfl (lv_room (Nat.le_of_ble_eq_true rfl)) d_LW_law_403 (hx_fit hI hR (hm_mo hg89) (hm_mo hf))) (fun H locs cells slots hI => ?_)
                          refine W.eq (g2 := F0 m 406 ls [.int v87, .int v82]) rfl ?_
                          refine lv_icmp_eq (tgt := 536) S.1 S.2.1 d_LW_law_406 (by decide) (fun hc => ?_) (fun hc => ?_)
                          · have hf := b_if_t hc hf
                            exact w536 (some a81) (some a86) x3 _ _ _ _ _ _ hf hI (lv_sub hl [0, 1, 2, 3] rfl)
                          · have hf := b_if_f hc hf
                            refine lv_iconst (v := 0) S.1 S.2.1 d_LW_law_409 (by decide) ?_
                            exact hret _ _ _ _ _ _ _ _ d_LW_law_410 hf hI
                        · have hf := b_if_f hc8 hf
                          by_cases hc9 : ((xs (x3 : Int32).toNatClampNeg) &&& 15) = 9
                          · have hf := b_if_t hc9 hf
                            refine lv_tableIn (tgt := 411) S.1 S.2.1 d_LW_law_32 (by rw [hc9]; decide) (by rw [hc9]; decide) (by rw [hc9] <;> rfl) (by decide) ?_
                            refine x_aload_n (r := x1) S d_LW_law_411 rfl (lv_at hl 1 rfl) ?_
                            refine lv_aload_n S.1 S.2.1 d_LW_law_412 rfl (lv_at hl 0 rfl) ?_
                            refine lv_iload_n S.1 S.2.1 d_LW_law_413 rfl (lv_at hl 3 rfl) ?_
                            refine lv_iconst (v := 1) S.1 S.2.1 d_LW_law_414 (by decide) ?_
                            refine lv_iadd S.1 S.2.1 d_LW_law_415 ?_
                            obtain ⟨hin, hf⟩ := b_ifn hf
                            refine va_sld (i := (x3 + 1)) S.1 S.2.1 hX hbl hbA hI.2.2.1 hin d_LW_law_416 ?_
                            refine lv_aload_n S.1 S.2.1 d_LW_law_417 rfl (lv_at hl 0 rfl) ?_
                            refine lv_iload_n S.1 S.2.1 d_LW_law_418 rfl (lv_at hl 3 rfl) ?_
                            refine lv_iconst (v := 2) S.1 S.2.1 d_LW_law_419 (by decide) ?_
                            refine lv_iadd S.1 S.2.1 d_LW_law_420 ?_
                            obtain ⟨hin, hf⟩ := b_ifn hf
                            refine va_sld (i := (x3 + 2)) S.1 S.2.1 hX hbl hbA hI.2.2.1 hin d_LW_law_421 ?_
                            obtain ⟨a91, ea91, hg⟩ := b_nn_inv hf
                            have hI0 := hI
                            have hl0 := hl
                            clear hf hI hl
                            subst ea91
                            have hf := hg
                            have hI := hI0
                            have hl := hl0
                            clear hg hI0 hl0
                            obtain ⟨⟨fs95, hefs95⟩, hf⟩ := b_is_inv hf
                            obtain ⟨v92, N93, hg94, hf⟩ := b_call_inv hf
                            refine x_call hI (hm_mo hg94) (va_runV (As := [.int (xs (x3 + 1 : Int32).toNatClampNeg), .int (xs (x3 + 2 : Int32).toNatClampNeg)]) (rest := []) S (c_PR_differ l hg94) (cwV 2 S.2.2.2.2 (gi_V wd_878 wd_879 wd_880 wd_362 wd_881) rfl rfl rfl (by decide +kernel) ⟨Nat.le_trans (Nat.le_of_ble_eq_true rfl) hRf.1, Nat.le_trans (Nat.le_of_ble_eq_true rfl) hRf.2⟩) ⟨hm_B.blind, va_recv hK (hI.1.one hefs95) (ci := 0) (q0 := 0) rfl rfl, fun U hU hW => ⟨rfl, hm_B.of hK hG hI hU hW⟩⟩ rfl rfl hl.1 rfl (lv_room (Nat.le_of_ble_eq_true rfl)) d_LW_law_422 (hx_fit hI hR (hm_mo hg94) (hm_mo hf))) (fun H locs cells slots hI => ?_)
                            refine W.eq (g2 := F0 m 425 ls [.int v92]) rfl ?_
                            refine x_aload_n (r := x2) S d_LW_law_425 rfl (lv_at hl 2 rfl) ?_
                            refine lv_aload_n S.1 S.2.1 d_LW_law_426 rfl (lv_at hl 0 rfl) ?_
                            refine lv_iload_n S.1 S.2.1 d_LW_law_427 rfl (lv_at hl 3 rfl) ?_
                            refine lv_iconst (v := 1) S.1 S.2.1 d_LW_law_428 (by decide) ?_
                            refine lv_iadd S.1 S.2.1 d_LW_law_429 ?_
                            obtain ⟨hin, hf⟩ := b_ifn hf
                            refine va_sld (i := (x3 + 1)) S.1 S.2.1 hX hbl hbA hI.2.2.1 hin d_LW_law_430 ?_
                            refine lv_aload_n S.1 S.2.1 d_LW_law_431 rfl (lv_at hl 0 rfl) ?_
                            refine lv_iload_n S.1 S.2.1 d_LW_law_432 rfl (lv_at hl 3 rfl) ?_
                            refine lv_iconst (v := 2) S.1 S.2.1 d_LW_law_433 (by decide) ?_
                            refine lv_iadd S.1 S.2.1 d_LW_law_434 ?_
                            obtain ⟨hin, hf⟩ := b_ifn hf
                            refine va_sld (i := (x3 + 2)) S.1 S.2.1 hX hbl hbA hI.2.2.1 hin d_LW_law_435 ?_
                            obtain ⟨a96, ea96, hg⟩ := b_nn_inv hf
                            have hI0 := hI
                            have hl0 := hl
                            clear hf hI hl
                            subst ea96
                            have hf := hg
                            have hI := hI0
                            have hl := hl0
                            clear hg hI0 hl0
                            obtain ⟨⟨fs100, hefs100⟩, hf⟩ := b_is_inv hf
                            obtain ⟨v97, N98, hg99, hf⟩ := b_call_inv hf
                            refine x_call hI (hm_mo hg99) (va_runV (As := [.int (xs (x3 + 1 : Int32).toNatClampNeg), .int (xs (x3 + 2 : Int32).toNatClampNeg)]) (rest := [.int v92]) S (c_MD_differ l hg99) (cwV 2 S.2.2.2.2 (gi_V wd_882 wd_883 wd_884 wd_564 wd_885) rfl rfl rfl (by decide +kernel) ⟨Nat.le_trans (Nat.le_of_ble_eq_true rfl) hRf.1, Nat.le_trans (Nat.le_of_ble_eq_true rfl) hRf.2⟩) ⟨hm_B.blind, va_recv hK (hI.1.one hefs100) (ci := 1) (q0 := 0) rfl rfl, fun U hU hW => ⟨rfl, hm_B.of hK hG hI hU hW⟩⟩ rfl rfl hl.1 rfl (lv_room (Nat.le_of_ble_eq_true rfl)) d_LW_law_436 (hx_fit hI hR (hm_mo hg99) (hm_mo hf))) (fun H locs cells slots hI => ?_)
                            refine W.eq (g2 := F0 m 439 ls [.int v97, .int v92]) rfl ?_
                            refine lv_icmp_eq (tgt := 536) S.1 S.2.1 d_LW_law_439 (by decide) (fun hc => ?_) (fun hc => ?_)
                            · have hf := b_if_t hc hf
                              exact w536 (some a91) (some a96) x3 _ _ _ _ _ _ hf hI (lv_sub hl [0, 1, 2, 3] rfl)
                            · have hf := b_if_f hc hf
                              refine lv_iconst (v := 0) S.1 S.2.1 d_LW_law_442 (by decide) ?_
                              exact hret _ _ _ _ _ _ _ _ d_LW_law_443 hf hI
                          · have hf := b_if_f hc9 hf
                            by_cases hc10 : ((xs (x3 : Int32).toNatClampNeg) &&& 15) = 10
                            · have hf := b_if_t hc10 hf
                              refine lv_tableIn (tgt := 444) S.1 S.2.1 d_LW_law_32 (by rw [hc10]; decide) (by rw [hc10]; decide) (by rw [hc10] <;> rfl) (by decide) ?_
                              refine x_aload_n (r := x1) S d_LW_law_444 rfl (lv_at hl 1 rfl) ?_
                              refine lv_aload_n S.1 S.2.1 d_LW_law_445 rfl (lv_at hl 0 rfl) ?_
                              refine lv_iload_n S.1 S.2.1 d_LW_law_446 rfl (lv_at hl 3 rfl) ?_
                              refine lv_iconst (v := 1) S.1 S.2.1 d_LW_law_447 (by decide) ?_
                              refine lv_iadd S.1 S.2.1 d_LW_law_448 ?_
                              obtain ⟨hin, hf⟩ := b_ifn hf
                              refine va_sld (i := (x3 + 1)) S.1 S.2.1 hX hbl hbA hI.2.2.1 hin d_LW_law_449 ?_
                              refine lv_aload_n S.1 S.2.1 d_LW_law_450 rfl (lv_at hl 0 rfl) ?_
                              refine lv_iload_n S.1 S.2.1 d_LW_law_451 rfl (lv_at hl 3 rfl) ?_
                              refine lv_iconst (v := 2) S.1 S.2.1 d_LW_law_452 (by decide) ?_
                              refine lv_iadd S.1 S.2.1 d_LW_law_453 ?_
                              obtain ⟨hin, hf⟩ := b_ifn hf
                              refine va_sld (i := (x3 + 2)) S.1 S.2.1 hX hbl hbA hI.2.2.1 hin d_LW_law_454 ?_
                              obtain ⟨a101, ea101, hg⟩ := b_nn_inv hf
                              have hI0 := hI
                              have hl0 := hl
                              clear hf hI hl
                              subst ea101
                              have hf := hg
                              have hI := hI0
                              have hl := hl0
                              clear hg hI0 hl0
                              obtain ⟨⟨fs105, hefs105⟩, hf⟩ := b_is_inv hf
                              obtain ⟨v102, N103, hg104, hf⟩ := b_call_inv hf
                              refine x_call hI (hm_mo hg104) (va_runV (As := [.int (xs (x3 + 1 : Int32).toNatClampNeg), .int (xs (x3 + 2 : Int32).toNatClampNeg)]) (rest := []) S (c_PR_change l hg104) (cwV 2 S.2.2.2.2 (gi_V wd_886 wd_887 wd_888 wd_362 wd_889) rfl rfl rfl (by decide +kernel) ⟨Nat.le_trans (Nat.le_of_ble_eq_true rfl) hRf.1, Nat.le_trans (Nat.le_of_ble_eq_true rfl) hRf.2⟩) ⟨hm_B.blind, va_recv hK (hI.1.one hefs105) (ci := 0) (q0 := 0) rfl rfl, fun U hU hW => ⟨rfl, hm_B.of hK hG hI hU hW⟩⟩ rfl rfl hl.1 rfl (lv_room (Nat.le_of_ble_eq_true rfl)) d_LW_law_455 (hx_fit hI hR (hm_mo hg104) (hm_mo hf))) (fun H locs cells slots hI => ?_)
                              refine W.eq (g2 := F0 m 458 ls [.int v102]) rfl ?_
                              refine x_aload_n (r := x2) S d_LW_law_458 rfl (lv_at hl 2 rfl) ?_
                              refine lv_aload_n S.1 S.2.1 d_LW_law_459 rfl (lv_at hl 0 rfl) ?_
                              refine lv_iload_n S.1 S.2.1 d_LW_law_460 rfl (lv_at hl 3 rfl) ?_
                              refine lv_iconst (v := 1) S.1 S.2.1 d_LW_law_461 (by decide) ?_
                              refine lv_iadd S.1 S.2.1 d_LW_law_462 ?_
                              obtain ⟨hin, hf⟩ := b_ifn hf
                              refine va_sld (i := (x3 + 1)) S.1 S.2.1 hX hbl hbA hI.2.2.1 hin d_LW_law_463 ?_
                              refine lv_aload_n S.1 S.2.1 d_LW_law_464 rfl (lv_at hl 0 rfl) ?_
                              refine lv_iload_n S.1 S.2.1 d_LW_law_465 rfl (lv_at hl 3 rfl) ?_
                              refine lv_iconst (v := 2) S.1 S.2.1 d_LW_law_466 (by decide) ?_
                              refine lv_iadd S.1 S.2.1 d_LW_law_467 ?_
                              obtain ⟨hin, hf⟩ := b_ifn hf
                              refine va_sld (i := (x3 + 2)) S.1 S.2.1 hX hbl hbA hI.2.2.1 hin d_LW_law_468 ?_
                              obtain ⟨a106, ea106, hg⟩ := b_nn_inv hf
                              have hI0 := hI
                              have hl0 := hl
                              clear hf hI hl
                              subst ea106
                              have hf := hg
                              have hI := hI0
                              have hl := hl0
                              clear hg hI0 hl0
                              obtain ⟨⟨fs110, hefs110⟩, hf⟩ := b_is_inv hf
                              obtain ⟨v107, N108, hg109, hf⟩ := b_call_inv hf
                              refine x_call hI (hm_mo hg109) (va_runV (As := [.int (xs (x3 + 1 : Int32).toNatClampNeg), .int (xs (x3 + 2 : Int32).toNatClampNeg)]) (rest := [.int v102]) S (c_MD_change l hg109) (cwV 2 S.2.2.2.2 (gi_V wd_890 wd_891 wd_892 wd_564 wd_893) rfl rfl rfl (by decide +kernel) ⟨Nat.le_trans (Nat.le_of_ble_eq_true rfl) hRf.1, Nat.le_trans (Nat.le_of_ble_eq_true rfl) hRf.2⟩) ⟨hm_B.blind, va_recv hK (hI.1.one hefs110) (ci := 1) (q0 := 0) rfl rfl, fun U hU hW => ⟨rfl, hm_B.of hK hG hI hU hW⟩⟩ rfl rfl hl.1 rfl (lv_room (Nat.le_of_ble_eq_true rfl)) d_LW_law_469 (hx_fit hI hR (hm_mo hg109) (hm_mo hf))) (fun H locs cells slots hI => ?_)
                              refine W.eq (g2 := F0 m 472 ls [.int v107, .int v102]) rfl ?_
                              refine lv_icmp_eq (tgt := 536) S.1 S.2.1 d_LW_law_472 (by decide) (fun hc => ?_) (fun hc => ?_)
                              · have hf := b_if_t hc hf
                                exact w536 (some a101) (some a106) x3 _ _ _ _ _ _ hf hI (lv_sub hl [0, 1, 2, 3] rfl)
                              · have hf := b_if_f hc hf
                                refine lv_iconst (v := 0) S.1 S.2.1 d_LW_law_475 (by decide) ?_
                                exact hret _ _ _ _ _ _ _ _ d_LW_law_476 hf hI
                            · have hf := b_if_f hc10 hf
                              by_cases hc11 : ((xs (x3 : Int32).toNatClampNeg) &&& 15) = 11
                              · have hf := b_if_t hc11 hf
                                refine lv_tableIn (tgt := 477) S.1 S.2.1 d_LW_law_32 (by rw [hc11]; decide) (by rw [hc11]; decide) (by rw [hc11] <;> rfl) (by decide) ?_
                                refine x_aload_n (r := x1) S d_LW_law_477 rfl (lv_at hl 1 rfl) ?_
                                refine lv_aload_n S.1 S.2.1 d_LW_law_478 rfl (lv_at hl 0 rfl) ?_
                                refine lv_iload_n S.1 S.2.1 d_LW_law_479 rfl (lv_at hl 3 rfl) ?_
                                refine lv_iconst (v := 1) S.1 S.2.1 d_LW_law_480 (by decide) ?_
                                refine lv_iadd S.1 S.2.1 d_LW_law_481 ?_
                                obtain ⟨hin, hf⟩ := b_ifn hf
                                refine va_sld (i := (x3 + 1)) S.1 S.2.1 hX hbl hbA hI.2.2.1 hin d_LW_law_482 ?_
                                obtain ⟨a111, ea111, hg⟩ := b_nn_inv hf
                                have hI0 := hI
                                have hl0 := hl
                                clear hf hI hl
                                subst ea111
                                have hf := hg
                                have hI := hI0
                                have hl := hl0
                                clear hg hI0 hl0
                                obtain ⟨⟨fs115, hefs115⟩, hf⟩ := b_is_inv hf
                                obtain ⟨v112, N113, hg114, hf⟩ := b_call_inv hf
                                refine x_call hI (hm_mo hg114) (va_runV (As := [.int (xs (x3 + 1 : Int32).toNatClampNeg)]) (rest := []) S (c_PR_print l hg114) (cwV 1 S.2.2.2.2 (gi_V wd_894 wd_895 wd_896 wd_362 wd_897) rfl rfl rfl (by decide +kernel) ⟨Nat.le_trans (Nat.le_of_ble_eq_true rfl) hRf.1, Nat.le_trans (Nat.le_of_ble_eq_true rfl) hRf.2⟩) ⟨hm_B.blind, va_recv hK (hI.1.one hefs115) (ci := 0) (q0 := 0) rfl rfl, fun U hU hW => ⟨rfl, hm_B.of hK hG hI hU hW⟩⟩ rfl rfl hl.1 rfl (lv_room (Nat.le_of_ble_eq_true rfl)) d_LW_law_483 (hx_fit hI hR (hm_mo hg114) (hm_mo hf))) (fun H locs cells slots hI => ?_)
                                refine W.eq (g2 := F0 m 486 ls [.int v112]) rfl ?_
                                refine x_aload_n (r := x2) S d_LW_law_486 rfl (lv_at hl 2 rfl) ?_
                                refine lv_aload_n S.1 S.2.1 d_LW_law_487 rfl (lv_at hl 0 rfl) ?_
                                refine lv_iload_n S.1 S.2.1 d_LW_law_488 rfl (lv_at hl 3 rfl) ?_
                                refine lv_iconst (v := 1) S.1 S.2.1 d_LW_law_489 (by decide) ?_
                                refine lv_iadd S.1 S.2.1 d_LW_law_490 ?_
                                obtain ⟨hin, hf⟩ := b_ifn hf
                                refine va_sld (i := (x3 + 1)) S.1 S.2.1 hX hbl hbA hI.2.2.1 hin d_LW_law_491 ?_
                                obtain ⟨a116, ea116, hg⟩ := b_nn_inv hf
                                have hI0 := hI
                                have hl0 := hl
                                clear hf hI hl
                                subst ea116
                                have hf := hg
                                have hI := hI0
                                have hl := hl0
                                clear hg hI0 hl0
                                obtain ⟨⟨fs120, hefs120⟩, hf⟩ := b_is_inv hf
                                obtain ⟨v117, N118, hg119, hf⟩ := b_call_inv hf
                                refine x_call hI (hm_mo hg119) (va_runV (As := [.int (xs (x3 + 1 : Int32).toNatClampNeg)]) (rest := [.int v112]) S (c_MD_print l hg119) (cwV 1 S.2.2.2.2 (gi_V wd_898 wd_899 wd_900 wd_564 wd_901) rfl rfl rfl (by decide +kernel) ⟨Nat.le_trans (Nat.le_of_ble_eq_true rfl) hRf.1, Nat.le_trans (Nat.le_of_ble_eq_true rfl) hRf.2⟩) ⟨hm_B.blind, va_recv hK (hI.1.one hefs120) (ci := 1) (q0 := 0) rfl rfl, fun U hU hW => ⟨rfl, hm_B.of hK hG hI hU hW⟩⟩ rfl rfl hl.1 rfl (lv_room (Nat.le_of_ble_eq_true rfl)) d_LW_law_492 (hx_fit hI hR (hm_mo hg119) (hm_mo hf))) (fun H locs cells slots hI => ?_)
                                refine W.eq (g2 := F0 m 495 ls [.int v117, .int v112]) rfl ?_
                                refine lv_icmp_eq (tgt := 536) S.1 S.2.1 d_LW_law_495 (by decide) (fun hc => ?_) (fun hc => ?_)
                                · have hf := b_if_t hc hf
                                  exact w536 (some a111) (some a116) x3 _ _ _ _ _ _ hf hI (lv_sub hl [0, 1, 2, 3] rfl)
                                · have hf := b_if_f hc hf
                                  refine lv_iconst (v := 0) S.1 S.2.1 d_LW_law_498 (by decide) ?_
                                  exact hret _ _ _ _ _ _ _ _ d_LW_law_499 hf hI
                              · have hf := b_if_f hc11 hf
                                by_cases hc12 : ((xs (x3 : Int32).toNatClampNeg) &&& 15) = 12
                                · have hf := b_if_t hc12 hf
                                  refine lv_tableIn (tgt := 500) S.1 S.2.1 d_LW_law_32 (by rw [hc12]; decide) (by rw [hc12]; decide) (by rw [hc12] <;> rfl) (by decide) ?_
                                  refine x_aload_n (r := x1) S d_LW_law_500 rfl (lv_at hl 1 rfl) ?_
                                  obtain ⟨a121, ea121, hg⟩ := b_nn_inv hf
                                  have hI0 := hI
                                  have hl0 := hl
                                  clear hf hI hl
                                  subst ea121
                                  have hf := hg
                                  have hI := hI0
                                  have hl := hl0
                                  clear hg hI0 hl0
                                  obtain ⟨⟨fs125, hefs125⟩, hf⟩ := b_is_inv hf
                                  obtain ⟨v122, N123, hg124, hf⟩ := b_call_inv hf
                                  refine x_call hI (hm_mo hg124) (va_runV (As := []) (rest := []) S (c_PR_fold l hg124) (cwV 0 S.2.2.2.2 (gi_V wd_902 wd_903 wd_904 wd_362 wd_905) rfl rfl rfl (by decide +kernel) ⟨Nat.le_trans (Nat.le_of_ble_eq_true rfl) hRf.1, Nat.le_trans (Nat.le_of_ble_eq_true rfl) hRf.2⟩) ⟨hm_B.blind, va_recv hK (hI.1.one hefs125) (ci := 0) (q0 := 0) rfl rfl, fun U hU hW => ⟨rfl, hm_B.of hK hG hI hU hW⟩⟩ rfl rfl hl.1 rfl (lv_room (Nat.le_of_ble_eq_true rfl)) d_LW_law_501 (hx_fit hI hR (hm_mo hg124) (hm_mo hf))) (fun H locs cells slots hI => ?_)
                                  refine W.eq (g2 := F0 m 504 ls [.int v122]) rfl ?_
                                  refine x_aload_n (r := x2) S d_LW_law_504 rfl (lv_at hl 2 rfl) ?_
                                  obtain ⟨a126, ea126, hg⟩ := b_nn_inv hf
                                  have hI0 := hI
                                  have hl0 := hl
                                  clear hf hI hl
                                  subst ea126
                                  have hf := hg
                                  have hI := hI0
                                  have hl := hl0
                                  clear hg hI0 hl0
                                  obtain ⟨⟨fs130, hefs130⟩, hf⟩ := b_is_inv hf
                                  obtain ⟨v127, N128, hg129, hf⟩ := b_call_inv hf
                                  refine x_call hI (hm_mo hg129) (va_runV (As := []) (rest := [.int v122]) S (c_MD_fold l hg129) (cwV 0 S.2.2.2.2 (gi_V wd_906 wd_907 wd_908 wd_564 wd_909) rfl rfl rfl (by decide +kernel) ⟨Nat.le_trans (Nat.le_of_ble_eq_true rfl) hRf.1, Nat.le_trans (Nat.le_of_ble_eq_true rfl) hRf.2⟩) ⟨hm_B.blind, va_recv hK (hI.1.one hefs130) (ci := 1) (q0 := 0) rfl rfl, fun U hU hW => ⟨rfl, hm_B.of hK hG hI hU hW⟩⟩ rfl rfl hl.1 rfl (lv_room (Nat.le_of_ble_eq_true rfl)) d_LW_law_505 (hx_fit hI hR (hm_mo hg129) (hm_mo hf))) (fun H locs cells slots hI => ?_)
                                  refine W.eq (g2 := F0 m 508 ls [.int v127, .int v122]) rfl ?_
                                  refine lv_icmp_eq (tgt := 536) S.1 S.2.1 d_LW_law_508 (by decide) (fun hc => ?_) (fun hc => ?_)
                                  · have hf := b_if_t hc hf
                                    exact w536 (some a121) (some a126) x3 _ _ _ _ _ _ hf hI (lv_sub hl [0, 1, 2, 3] rfl)
                                  · have hf := b_if_f hc hf
                                    refine lv_iconst (v := 0) S.1 S.2.1 d_LW_law_511 (by decide) ?_
                                    exact hret _ _ _ _ _ _ _ _ d_LW_law_512 hf hI
                                · have hf := b_if_f hc12 hf
                                  by_cases hc13 : ((xs (x3 : Int32).toNatClampNeg) &&& 15) = 13
                                  · have hf := b_if_t hc13 hf
                                    refine lv_tableIn (tgt := 513) S.1 S.2.1 d_LW_law_32 (by rw [hc13]; decide) (by rw [hc13]; decide) (by rw [hc13] <;> rfl) (by decide) ?_
                                    refine x_aload_n (r := x1) S d_LW_law_513 rfl (lv_at hl 1 rfl) ?_
                                    refine lv_aload_n S.1 S.2.1 d_LW_law_514 rfl (lv_at hl 0 rfl) ?_
                                    refine lv_iload_n S.1 S.2.1 d_LW_law_515 rfl (lv_at hl 3 rfl) ?_
                                    refine lv_iconst (v := 1) S.1 S.2.1 d_LW_law_516 (by decide) ?_
                                    refine lv_iadd S.1 S.2.1 d_LW_law_517 ?_
                                    obtain ⟨hin, hf⟩ := b_ifn hf
                                    refine va_sld (i := (x3 + 1)) S.1 S.2.1 hX hbl hbA hI.2.2.1 hin d_LW_law_518 ?_
                                    obtain ⟨a131, ea131, hg⟩ := b_nn_inv hf
                                    have hI0 := hI
                                    have hl0 := hl
                                    clear hf hI hl
                                    subst ea131
                                    have hf := hg
                                    have hI := hI0
                                    have hl := hl0
                                    clear hg hI0 hl0
                                    obtain ⟨⟨fs135, hefs135⟩, hf⟩ := b_is_inv hf
                                    obtain ⟨v132, N133, hg134, hf⟩ := b_call_inv hf
                                    refine x_call hI (hm_mo hg134) (va_runV (As := [.int (xs (x3 + 1 : Int32).toNatClampNeg)]) (rest := []) S (c_PR_at l hg134) (cwV 1 S.2.2.2.2 (gi_V wd_910 wd_911 wd_912 wd_362 wd_913) rfl rfl rfl (by decide +kernel) ⟨Nat.le_trans (Nat.le_of_ble_eq_true rfl) hRf.1, Nat.le_trans (Nat.le_of_ble_eq_true rfl) hRf.2⟩) ⟨hm_B.blind, va_recv hK (hI.1.one hefs135) (ci := 0) (q0 := 0) rfl rfl, fun U hU hW => ⟨rfl, hm_B.of hK hG hI hU hW⟩⟩ rfl rfl hl.1 rfl (lv_room (Nat.le_of_ble_eq_true rfl)) d_LW_law_519 (hx_fit hI hR (hm_mo hg134) (hm_mo hf))) (fun H locs cells slots hI => ?_)
                                    refine W.eq (g2 := F0 m 522 ls [.int v132]) rfl ?_
                                    refine x_aload_n (r := x2) S d_LW_law_522 rfl (lv_at hl 2 rfl) ?_
                                    refine lv_aload_n S.1 S.2.1 d_LW_law_523 rfl (lv_at hl 0 rfl) ?_
                                    refine lv_iload_n S.1 S.2.1 d_LW_law_524 rfl (lv_at hl 3 rfl) ?_
                                    refine lv_iconst (v := 1) S.1 S.2.1 d_LW_law_525 (by decide) ?_
                                    refine lv_iadd S.1 S.2.1 d_LW_law_526 ?_
                                    obtain ⟨hin, hf⟩ := b_ifn hf
                                    refine va_sld (i := (x3 + 1)) S.1 S.2.1 hX hbl hbA hI.2.2.1 hin d_LW_law_527 ?_
                                    obtain ⟨a136, ea136, hg⟩ := b_nn_inv hf
                                    have hI0 := hI
                                    have hl0 := hl
                                    clear hf hI hl
                                    subst ea136
                                    have hf := hg
                                    have hI := hI0
                                    have hl := hl0
                                    clear hg hI0 hl0
                                    obtain ⟨⟨fs140, hefs140⟩, hf⟩ := b_is_inv hf
                                    obtain ⟨v137, N138, hg139, hf⟩ := b_call_inv hf
                                    refine x_call hI (hm_mo hg139) (va_runV (As := [.int (xs (x3 + 1 : Int32).toNatClampNeg)]) (rest := [.int v132]) S (c_MD_at l hg139) (cwV 1 S.2.2.2.2 (gi_V wd_914 wd_915 wd_916 wd_564 wd_917) rfl rfl rfl (by decide +kernel) ⟨Nat.le_trans (Nat.le_of_ble_eq_true rfl) hRf.1, Nat.le_trans (Nat.le_of_ble_eq_true rfl) hRf.2⟩) ⟨hm_B.blind, va_recv hK (hI.1.one hefs140) (ci := 1) (q0 := 0) rfl rfl, fun U hU hW => ⟨rfl, hm_B.of hK hG hI hU hW⟩⟩ rfl rfl hl.1 rfl (lv_room (Nat.le_of_ble_eq_true rfl)) d_LW_law_528 (hx_fit hI hR (hm_mo hg139) (hm_mo hf))) (fun H locs cells slots hI => ?_)
                                    refine W.eq (g2 := F0 m 531 ls [.int v137, .int v132]) rfl ?_
                                    refine lv_icmp_eq (tgt := 536) S.1 S.2.1 d_LW_law_531 (by decide) (fun hc => ?_) (fun hc => ?_)
                                    · have hf := b_if_t hc hf
                                      exact w536 (some a131) (some a136) x3 _ _ _ _ _ _ hf hI (lv_sub hl [0, 1, 2, 3] rfl)
                                    · have hf := b_if_f hc hf
                                      refine lv_iconst (v := 0) S.1 S.2.1 d_LW_law_534 (by decide) ?_
                                      exact hret _ _ _ _ _ _ _ _ d_LW_law_535 hf hI
                                  · have hf := b_if_f hc13 hf
                                    refine lv_tableOut (tgt := 536) S.1 S.2.1 d_LW_law_32 (by have g0 := lv_neT (a := 0) hc0 (by decide); have g1 := lv_neT (a := 1) hc1 (by decide); have g2 := lv_neT (a := 2) hc2 (by decide); have g3 := lv_neT (a := 3) hc3 (by decide); have g4 := lv_neT (a := 4) hc4 (by decide); have g5 := lv_neT (a := 5) hc5 (by decide); have g6 := lv_neT (a := 6) hc6 (by decide); have g7 := lv_neT (a := 7) hc7 (by decide); have g8 := lv_neT (a := 8) hc8 (by decide); have g9 := lv_neT (a := 9) hc9 (by decide); have g10 := lv_neT (a := 10) hc10 (by decide); have g11 := lv_neT (a := 11) hc11 (by decide); have g12 := lv_neT (a := 12) hc12 (by decide); have g13 := lv_neT (a := 13) hc13 (by decide); omega) (by decide) ?_
                                    exact w536 x1 x2 x3 _ _ _ _ _ _ hf hI (lv_sub hl [0, 1, 2, 3] rfl)
  refine x_new (ci := 0) S hK hI hR (fun w h => List.mem_cons_of_mem _ (i_PR w h)) t_PR t_PR_ok rfl (List.mem_cons_of_mem _ wd_918) (List.mem_cons_of_mem _ wd_919) (List.mem_cons_of_mem _ wd_362) s_PR d_LW_law_0 hf (fun q141 M H hf hI => ?_)
  refine lv_dup S.1 S.2.1 d_LW_law_3 rfl ?_
  obtain ⟨r142, N143, hg144, hf⟩ := b_call_inv hf
  refine x_call hI (hm_mo hg144) (va_runI (As := []) (rest := [.ref q141]) S (c_PR_init l hg144) (cwI 0 S.2.2.2.2 (gi_I wd_920) rfl rfl rfl (S.2.2.2.2 _ (List.mem_cons_of_mem _ wd_362)) (S.2.2.2.2 _ (List.mem_cons_of_mem _ wd_921)) (S.2.2.2.2 _ (List.mem_cons_of_mem _ wd_922)) rfl (by decide +kernel) ⟨Nat.le_trans (Nat.le_of_ble_eq_true rfl) hRf.1, Nat.le_trans (Nat.le_of_ble_eq_true rfl) hRf.2⟩) ⟨hm_B.blind, fun U hU hW => ⟨rfl, hm_B.of hK hG hI hU hW⟩⟩ rfl rfl hl.1 rfl (lv_room (Nat.le_of_ble_eq_true rfl)) d_LW_law_4 (hx_fit hI hR (hm_mo hg144) (hm_mo hf))) (fun H locs cells slots hI => ?_)
  refine W.eq (g2 := F0 m 7 ls [.ref q141]) rfl ?_
  refine x_astore_n (r := (some q141)) (lv2 := [(0, .ref b)]) S d_LW_law_7 rfl hl (by decide) [0] rfl ⟨⟨(by decide : (0 : Nat) ≠ 1), fun _ => rfl⟩, trivial⟩ (fun ls hl => ?_)
  refine x_new (ci := 1) S hK hI hR (fun w h => List.mem_cons_of_mem _ (i_MD w h)) t_MD t_MD_ok rfl (List.mem_cons_of_mem _ wd_923) (List.mem_cons_of_mem _ wd_924) (List.mem_cons_of_mem _ wd_564) s_MD d_LW_law_8 hf (fun q145 M H hf hI => ?_)
  refine lv_dup S.1 S.2.1 d_LW_law_11 rfl ?_
  obtain ⟨r146, N147, hg148, hf⟩ := b_call_inv hf
  refine x_call hI (hm_mo hg148) (va_runI (As := []) (rest := [.ref q145]) S (c_MD_init l hg148) (cwI 0 S.2.2.2.2 (gi_I wd_925) rfl rfl rfl (S.2.2.2.2 _ (List.mem_cons_of_mem _ wd_564)) (S.2.2.2.2 _ (List.mem_cons_of_mem _ wd_926)) (S.2.2.2.2 _ (List.mem_cons_of_mem _ wd_927)) rfl (by decide +kernel) ⟨Nat.le_trans (Nat.le_of_ble_eq_true rfl) hRf.1, Nat.le_trans (Nat.le_of_ble_eq_true rfl) hRf.2⟩) ⟨hm_B.blind, fun U hU hW => ⟨rfl, hm_B.of hK hG hI hU hW⟩⟩ rfl rfl hl.1 rfl (lv_room (Nat.le_of_ble_eq_true rfl)) d_LW_law_12 (hx_fit hI hR (hm_mo hg148) (hm_mo hf))) (fun H locs cells slots hI => ?_)
  refine W.eq (g2 := F0 m 15 ls [.ref q145]) rfl ?_
  refine x_astore_n (r := (some q145)) (lv2 := [(1, .ref q141), (0, .ref b)]) S d_LW_law_15 rfl hl (by decide) [0, 1] rfl ⟨⟨(by decide : (1 : Nat) ≠ 2), fun _ => rfl⟩, ⟨⟨(by decide : (0 : Nat) ≠ 2), fun h => absurd (show (0 : Nat) + 1 = 2 from h) (by decide)⟩, trivial⟩⟩ (fun ls hl => ?_)
  refine lv_iconst (v := 0) S.1 S.2.1 d_LW_law_16 (by decide) ?_
  refine x_istore_n (lv2 := [(2, .ref q145), (1, .ref q141), (0, .ref b)]) S d_LW_law_17 rfl hl (by decide) [0, 1, 2] rfl ⟨⟨(by decide : (2 : Nat) ≠ 3), fun _ => rfl⟩, ⟨⟨(by decide : (1 : Nat) ≠ 3), fun h => absurd (show (1 : Nat) + 1 = 3 from h) (by decide)⟩, ⟨⟨(by decide : (0 : Nat) ≠ 3), fun h => absurd (show (0 : Nat) + 1 = 3 from h) (by decide)⟩, trivial⟩⟩⟩ (fun ls hl => ?_)
  exact w18 N (some q141) (some q145) 0 _ _ _ _ _ _ hf hI (lv_sub hl [3, 2, 1, 0] rfl)
