/-! THE MAP WORLD AND THE MACHINE -/
def hm_tr (dA : Nat → ClassId) (e : va_E) : va_E := match e with
  | .inl a => .inl (dA a.1, a.2)
  | .inr o => .inr o
def hm_P (D : va_G) (dA : Nat → ClassId) (cl : List vw_C) (M : Nat → Option va_E) (H : Heap) : Prop := ∀ (a : Nat) (e : va_E), M a = some e → va_at D cl (a, hm_tr dA e) H
theorem hm_one {D : va_G} {cl : List vw_C} {H : Heap} {q : Nat × va_E} (h : va_at D cl q H) : va_P D cl [q] H := by
  intro k x hk
  cases k with
  | zero => cases hk; exact h
  | succ k => simp at hk
theorem hm_P.one {D : va_G} {dA : Nat → ClassId} {cl : List vw_C} {M : Nat → Option va_E} {H : Heap} (h : hm_P D dA cl M H) {a : Nat} {e : va_E} (he : M a = some e) : va_P D cl [(a, hm_tr dA e)] H := hm_one (h a e he)
theorem hm_P.set {D : va_G} {dA : Nat → ClassId} {cl : List vw_C} {M : Nat → Option va_E} {H H1 : Heap} (h : hm_P D dA cl M H) {a : Nat} {e : va_E} (he : va_at D cl (a, hm_tr dA e) H1) (oq : ∀ q : Nat, q ≠ a → H1[q]? = H[q]?) : hm_P D dA cl (va_up M a (some e)) H1 := by
  intro b e' hb
  by_cases hq : b = a
  · subst hq
    simp only [va_up, if_true] at hb
    cases hb
    exact he
  · simp only [va_up, if_neg hq] at hb
    exact (h b e' hb).kept (oq b hq)
theorem hm_P.new {D : va_G} {dA : Nat → ClassId} {cl : List vw_C} {M : Nat → Option va_E} {H H1 : Heap} (h : hm_P D dA cl M H) {a : Nat} {e : va_E} (ha : a = H.size) (he : va_at D cl (a, hm_tr dA e) H1) (oq : ∀ q : Nat, q < H.size → H1[q]? = H[q]?) : hm_P D dA cl (va_up M a (some e)) H1 := by
  intro b e' hb
  by_cases hq : b = a
  · subst hq
    simp only [va_up, if_true] at hb
    cases hb
    exact he
  · simp only [va_up, if_neg hq] at hb
    exact (h b e' hb).kept (oq b (h b e' hb).lt)
/-- within a method that began at s: the heap is what the map says, and nothing below z has changed -/
def hm_I (D : va_G) (dA : Nat → ClassId) (cl : List vw_C) (z k1 : Nat) (s : State) (M : hM) (H : Heap) (locs : List Loc) (cells slots : Nat) : Prop :=
  hm_P D dA cl M.1 H ∧ H.size = M.2.1 ∧ va_S (fun q => z ≤ q) s.heap H locs ∧ (∀ (a : Nat) (e : va_E), M.1 a = some e → z ≤ a) ∧ z ≤ s.heap.size ∧ M.2.1 = s.heap.size + cells ∧ M.2.2 = k1 + slots
theorem hm_I.up {D : va_G} {dA : Nat → ClassId} {cl : List vw_C} {z k1 cells slots : Nat} {s : State} {M : hM} {H H1 : Heap} {locs : List Loc} (h : hm_I D dA cl z k1 s M H locs cells slots) {a k : Nat} {e0 e : va_E} (h0 : M.1 a = some e0) (he : va_at D cl (a, hm_tr dA e) H1) (zz : H1.size = H.size) (oq : ∀ q : Nat, q ≠ a → H1[q]? = H[q]?) : hm_I D dA cl z k1 s (hm_up M a e) H1 (locs ++ [⟨a, k⟩]) cells slots := by
  obtain ⟨h1, h2, h3, h4, h5, h6, h7⟩ := h
  refine ⟨h1.set he oq, by rw [zz]; exact h2, h3.put zz oq (h4 a e0 h0), fun b e' hb => ?_, h5, h6, h7⟩
  by_cases hq : b = a
  · subst hq; exact h4 b e0 h0
  · simp only [hm_up, va_up, if_neg hq] at hb
    exact h4 b e' hb
theorem hm_I.new {D : va_G} {dA : Nat → ClassId} {cl : List vw_C} {z k1 cells slots : Nat} {s : State} {M : hM} {H H1 : Heap} {locs : List Loc} (h : hm_I D dA cl z k1 s M H locs cells slots) {n : Nat} {e : va_E} (he : va_at D cl (H.size, hm_tr dA e) H1) (zz : H1.size = H.size + 1) (oq : ∀ q : Nat, q < H.size → H1[q]? = H[q]?) : hm_I D dA cl z k1 s (hm_nw M e n) H1 locs (cells + 1) (slots + n) := by
  obtain ⟨h1, h2, h3, h4, h5, h6, h7⟩ := h
  have hz : z ≤ H.size := Nat.le_trans h5 h3.1
  refine ⟨h1.new h2.symm (by rw [← h2]; exact he) oq, by rw [zz, h2]; rfl, ⟨Nat.le_trans h3.1 (by omega), fun q g1 g2 => (oq q (Nat.lt_of_lt_of_le g1 h3.1)).trans (h3.2.1 q g1 g2), h3.2.2⟩, fun b e' hb => ?_, h5, by show M.2.1 + 1 = _; omega, by show M.2.2 + n = _; omega⟩
  by_cases hq : b = M.2.1
  · rw [hq, ← h2]; exact hz
  · simp only [hm_nw, va_up, if_neg hq] at hb
    exact h4 b e' hb
/-- the texts of a claim (class, pool number, text, bytes), the classes that arrays are made of, the links to private members of nest mates -/
abbrev hT : Type := List (String × Nat × String × List Int32) × List String × List (String × Nat × MethodName × String)
/-- what never changes: the texts, two statics of the JDK, the links -/
def hm_G (ST : hT) (aK aV : Nat → Nat) (z : Nat) (U : State) (H : Heap) : Prop :=
  (∀ (i : Nat) (q : String × Nat × String × List Int32), ST.1[i]? = some q → vk_R q.1 q.2.1 q.2.2.1 (aK i) U ∧ va_O "java/lang/String" (aK i) (fun q => z ≤ q) U H ∧ va_OF "java/lang/String" "coder" "B" (.int 0) (aK i) (fun q => z ≤ q) U H ∧ va_OF "java/lang/String" "value" "[B" (.ref (aV i)) (aK i) (fun q => z ≤ q) U H ∧ va_T .byte (aV i) q.2.2.2.length (fun j => .int (q.2.2.2.getD j 0)) (fun q => z ≤ q) U H) ∧
  va_Z "java/lang/String" "COMPACT_STRINGS" "Z" (.int 1) (fun q => z ≤ q) U H ∧ va_Zq "jdk/internal/util/Preconditions" "SIOOBE_FORMATTER" "Ljava/util/function/BiFunction;" (fun q => z ≤ q) U H ∧
  (∀ C ∈ ST.2.1, va_AO C U) ∧ ∀ q ∈ ST.2.2, va_Nw (.methodLinkNest q.1 q.2.1 q.2.2.1 q.2.2.2) U
/-- a method's start -/
def hm_B (D : va_G) (dA : Nat → ClassId) (cl : List vw_C) (tys : List (ClassId × FieldType)) (ST : hT) (aK aV : Nat → Nat) (z : Nat) (M : hM) (U : State) : Prop :=
  hm_P D dA cl M.1 U.heap ∧ U.heap.size = M.2.1 ∧ va_K D cl tys U ∧ (∀ (a : Nat) (e : va_E), M.1 a = some e → z ≤ a) ∧ z ≤ M.2.1 ∧ hm_G ST aK aV z U U.heap
/-- a method's end -/
def hm_Q (D : va_G) (dA : Nat → ClassId) (cl : List vw_C) (tys : List (ClassId × FieldType)) (ST : hT) (aK aV : Nat → Nat) (z : Nat) (rv : Option Value) (M : hM) : Array Value → State → Outcome → State → Prop :=
  fun _ st oc t => oc = .returned rv ∧ hm_B D dA cl tys ST aK aV z M t ∧ va_F (fun q => z ≤ q) st t
section HMG
variable {D : va_G} {dA : Nat → ClassId} {cl : List vw_C} {tys : List (ClassId × FieldType)} {ST : hT} {aK aV : Nat → Nat} {z k1 cells slots : Nat} {M : hM} {s U : State} {H : Heap} {locs : List Loc}
theorem hm_G.at (h : hm_G ST aK aV z s s.heap) (hS : va_S (fun q => z ≤ q) s.heap H locs) (hU : U.heap = H) (hW : s.WarmedH U.vm) : hm_G ST aK aV z U U.heap := by
  rw [hU]
  exact ⟨fun i q hq => ⟨(h.1 i q hq).1.warm hW, ((h.1 i q hq).2.1.kept hS.2.1).moved hW.alike, ((h.1 i q hq).2.2.1.kept hS.2.1).moved hW.alike, ((h.1 i q hq).2.2.2.1.kept hS.2.1).moved hW.alike, ((h.1 i q hq).2.2.2.2.kept hS.2.1).moved hW.alike⟩, (h.2.1.kept hS.2.1).moved hW.alike, (h.2.2.1.kept hS.2.1).moved hW.alike, fun C hC => (h.2.2.2.1 C hC).moved hW.alike, fun q hq => va_Nw.warmM hW (h.2.2.2.2 q hq)⟩
theorem hm_B.of (hK : va_K D cl tys s) (hG : hm_G ST aK aV z s s.heap) (hI : hm_I D dA cl z k1 s M H locs cells slots) (hU : U.heap = H) (hW : s.WarmedH U.vm) : hm_B D dA cl tys ST aK aV z M U :=
  ⟨by rw [hU]; exact hI.1, by rw [hU]; exact hI.2.1, hK.moved hW.alike, hI.2.2.2.1, by rw [← hI.2.1]; exact Nat.le_trans hI.2.2.2.2.1 hI.2.2.1.1, hG.at hI.2.2.1 hU hW⟩
theorem hm_B.blind {av : List Value} : FrameBlind (va_Pc av (hm_B D dA cl tys ST aK aV z M)) := by
  intro a U g mk h
  obtain ⟨e, h1, h2, h3, h4, h5, h6, h7, h8, h9, h10⟩ := h
  have hv : U.vm.Alike (U.calling g mk a).vm := Vm.Alike.refl U.vm
  exact ⟨e, h1, h2, va_K.moved hv h3, h4, h5, fun i q hq => ⟨vk_R.same (u := U) rfl (h6 i q hq).1, (h6 i q hq).2.1.moved hv, (h6 i q hq).2.2.1.moved hv, (h6 i q hq).2.2.2.1.moved hv, (h6 i q hq).2.2.2.2.moved hv⟩, va_Z.moved hv h7, va_Zq.moved hv h8, fun C hC => (h9 C hC).moved hv, fun q hq => va_Nw.same rfl rfl (h10 q hq)⟩
theorem hm_I.start (h : hm_B D dA cl tys ST aK aV z M s) : hm_I D dA cl z M.2.2 s M s.heap [] 0 0 :=
  ⟨h.1, h.2.1, va_S.rf, h.2.2.2.1, by rw [h.2.1]; exact h.2.2.2.2.1, h.2.1.symm, rfl⟩
end HMG
theorem rf_fit (C : String) (r : Option Nat) : fits (.object C) (va_rf r) = true := by cases r <;> rfl
theorem rf_fitA (t : FieldType) (r : Option Nat) : fits (.array t) (va_rf r) = true := by cases r <;> rfl
theorem rf_cat (r : Option Nat) : (va_rf r).category = 1 := by cases r <;> rfl
theorem cat_i (x : Int32) : (Value.int x).category = 1 := rfl
theorem cat_l (x : Int64) : (Value.long x).category = 2 := rfl
theorem cat_a (x : Nat) : (Value.ref x).category = 1 := rfl
theorem cat_n : Value.null.category = 1 := rfl
theorem lvA_nil {i : Nat} : lv_args i [] = [] := rfl
theorem lvA_i {i : Nat} {x : Int32} {vs : List Value} : lv_args i (.int x :: vs) = (i, .int x) :: lv_args (i + 1) vs := rfl
theorem lvA_l {i : Nat} {x : Int64} {vs : List Value} : lv_args i (.long x :: vs) = (i, .long x) :: lv_args (i + 2) vs := rfl
theorem lvA_a {i : Nat} {x : Nat} {vs : List Value} : lv_args i (.ref x :: vs) = (i, .ref x) :: lv_args (i + 1) vs := rfl
theorem lvA_r {i : Nat} {r : Option Nat} {vs : List Value} : lv_args i (va_rf r :: vs) = (i, va_rf r) :: lv_args (i + 1) vs := by cases r <;> rfl
/-- the listed locals stay when local i is written -/
def hx_ok1 (i : Nat) : List (Nat × Value) → Prop
  | [] => True
  | q :: l => (q.1 ≠ i ∧ (q.1 + 1 = i → q.2.category = 1)) ∧ hx_ok1 i l
def hx_ok2 (i : Nat) : List (Nat × Value) → Prop
  | [] => True
  | q :: l => (q.1 ≠ i ∧ q.1 ≠ i + 1 ∧ (q.1 + 1 = i → q.2.category = 1)) ∧ hx_ok2 i l
theorem hx_f1 {i : Nat} : ∀ {l : List (Nat × Value)}, hx_ok1 i l → l.filter (fun q => !(q.1 == i) && !(q.1 + 1 == i && q.2.category == 2)) = l
  | [], _ => rfl
  | q :: l, h => by
    obtain ⟨⟨h1, h2⟩, h3⟩ := h
    rw [List.filter_cons_of_pos, hx_f1 h3]
    by_cases hq : q.1 + 1 = i
    · simp [h1, h2 hq]
    · simp [h1, hq]
theorem hx_f2 {i : Nat} : ∀ {l : List (Nat × Value)}, hx_ok2 i l → l.filter (fun q => !(q.1 == i) && (!(q.1 == i + 1) && !(q.1 + 1 == i && q.2.category == 2))) = l
  | [], _ => rfl
  | q :: l, h => by
    obtain ⟨⟨h1, h1', h2⟩, h3⟩ := h
    rw [List.filter_cons_of_pos, hx_f2 h3]
    by_cases hq : q.1 + 1 = i
    · simp [h1, h1', h2 hq]
    · simp [h1, h1', hq]
section ROWS
variable {p : Program} {l : Launch} {e : Env} {R : Room} {s : State} {m : MethodId} {args : Array Value} {below : List Frame} {meth : Method} {c : Code} {H : Heap} {locs : List Loc} {cells slots : Nat} {Q : State → Prop}
variable {cc : ByteArray} {pc nL : Nat} {ls : Array Slot} {rest : List Value} {D : va_G} {dA : Nat → ClassId} {cl : List vw_C} {tys : List (ClassId × FieldType)} {ST : hT} {aK aV : Nat → Nat} {z k1 : Nat} {M : hM} {Ts : List Cond} {own : String} {α β : Type} {Z : α × hM}
/-! locals -/
theorem x_aload_n (S : CallFix p m c cc nL s args Ts own) {k : Fin 4} {i : Nat} {r : Option Nat} (hdg : decode cc pc = .ok (.aload_n k, 1)) (hi : (k : Nat) = i) (hl : ls[i]? = some (.val (va_rf r)))
    (kk : W p l e R s m args below meth c H locs cells slots Q (F0 m (pc + 1) ls (va_rf r :: rest))) : W p l e R s m args below meth c H locs cells slots Q (F0 m pc ls rest) := by
  cases r with
  | none => exact lv_aload_nN S.1 S.2.1 hdg hi hl kk
  | some a => exact lv_aload_n S.1 S.2.1 hdg hi hl kk
theorem x_aload (S : CallFix p m c cc nL s args Ts own) {i : Nat} {r : Option Nat} (hdg : decode cc pc = .ok (.aload i, 2)) (hl : ls[i]? = some (.val (va_rf r)))
    (kk : W p l e R s m args below meth c H locs cells slots Q (F0 m (pc + 2) ls (va_rf r :: rest))) : W p l e R s m args below meth c H locs cells slots Q (F0 m pc ls rest) := by
  cases r with
  | none => exact lv_aloadN S.1 S.2.1 hdg hl kk
  | some a => exact lv_aload S.1 S.2.1 hdg hl kk
theorem x_istore_n (S : CallFix p m c cc nL s args Ts own) {k : Fin 4} {i nL : Nat} {x : Int32} {lv lv2 : List (Nat × Value)} (hdg : decode cc pc = .ok (.istore_n k, 1)) (hi : (k : Nat) = i) (h : lv_has ls nL lv) (hn : i < nL) (ks : List Nat) (hs : lv_pick lv ks = lv2) (ho : hx_ok1 i lv2)
    (kk : ∀ ls' : Array Slot, lv_has ls' nL ((i, .int x) :: lv2) → W p l e R s m args below meth c H locs cells slots Q (F0 m (pc + 1) ls' rest)) : W p l e R s m args below meth c H locs cells slots Q (F0 m pc ls (.int x :: rest)) :=
  lv_istore_n S.1 S.2.1 hdg hi (lv_sub h ks hs) hn (by rw [hx_f1 ho]) kk
theorem x_istore (S : CallFix p m c cc nL s args Ts own) {i nL : Nat} {x : Int32} {lv lv2 : List (Nat × Value)} (hdg : decode cc pc = .ok (.istore i, 2)) (h : lv_has ls nL lv) (hn : i < nL) (ks : List Nat) (hs : lv_pick lv ks = lv2) (ho : hx_ok1 i lv2)
    (kk : ∀ ls' : Array Slot, lv_has ls' nL ((i, .int x) :: lv2) → W p l e R s m args below meth c H locs cells slots Q (F0 m (pc + 2) ls' rest)) : W p l e R s m args below meth c H locs cells slots Q (F0 m pc ls (.int x :: rest)) :=
  lv_istore S.1 S.2.1 hdg (lv_sub h ks hs) hn (by rw [hx_f1 ho]) kk
theorem x_iinc (S : CallFix p m c cc nL s args Ts own) {i nL : Nat} {n : Int} {x v : Int32} {lv lv2 : List (Nat × Value)} (hdg : decode cc pc = .ok (.iinc i n, 3)) (h : lv_has ls nL lv) (k : Nat) (hk : lv[k]? = some (i, .int x)) (hv : Int32.ofInt n = v) (hn : i < nL) (ks : List Nat) (hs : lv_pick lv ks = lv2) (ho : hx_ok1 i lv2)
    (kk : ∀ ls' : Array Slot, lv_has ls' nL ((i, .int (x + v)) :: lv2) → W p l e R s m args below meth c H locs cells slots Q (F0 m (pc + 3) ls' rest)) : W p l e R s m args below meth c H locs cells slots Q (F0 m pc ls rest) := by
  have h2 : lv_has ls nL ((i, .int x) :: lv2) := by
    refine ⟨h.1, h.2.1, fun q hq => ?_⟩
    rcases List.mem_cons.mp hq with e1 | e1
    · rw [e1]; exact lv_at h k hk
    · exact (lv_sub h ks hs).2.2 q e1
  refine lv_iinc (k := 0) (x := x) (v := x + v) (lv' := (i, .int (x + v)) :: lv2) S.1 S.2.1 hdg h2 rfl (by rw [hv]) hn ?_ kk
  rw [List.filter_cons_of_neg (by simp), hx_f1 ho]
theorem x_lstore_n (S : CallFix p m c cc nL s args Ts own) {k : Fin 4} {i nL : Nat} {x : Int64} {lv lv2 : List (Nat × Value)} (hdg : decode cc pc = .ok (.lstore_n k, 1)) (hi : (k : Nat) = i) (h : lv_has ls nL lv) (hn : i + 1 < nL) (ks : List Nat) (hs : lv_pick lv ks = lv2) (ho : hx_ok2 i lv2)
    (kk : ∀ ls' : Array Slot, lv_has ls' nL ((i, .long x) :: lv2) → W p l e R s m args below meth c H locs cells slots Q (F0 m (pc + 1) ls' rest)) : W p l e R s m args below meth c H locs cells slots Q (F0 m pc ls (.long x :: rest)) :=
  lv_lstore_n S.1 S.2.1 hdg hi (lv_sub h ks hs) hn (by rw [hx_f2 ho]) kk
theorem x_lstore (S : CallFix p m c cc nL s args Ts own) {i nL : Nat} {x : Int64} {lv lv2 : List (Nat × Value)} (hdg : decode cc pc = .ok (.lstore i, 2)) (h : lv_has ls nL lv) (hn : i + 1 < nL) (ks : List Nat) (hs : lv_pick lv ks = lv2) (ho : hx_ok2 i lv2)
    (kk : ∀ ls' : Array Slot, lv_has ls' nL ((i, .long x) :: lv2) → W p l e R s m args below meth c H locs cells slots Q (F0 m (pc + 2) ls' rest)) : W p l e R s m args below meth c H locs cells slots Q (F0 m pc ls (.long x :: rest)) :=
  lv_lstore S.1 S.2.1 hdg (lv_sub h ks hs) hn (by rw [hx_f2 ho]) kk
theorem x_astore_n (S : CallFix p m c cc nL s args Ts own) {k : Fin 4} {i nL : Nat} {r : Option Nat} {lv lv2 : List (Nat × Value)} (hdg : decode cc pc = .ok (.astore_n k, 1)) (hi : (k : Nat) = i) (h : lv_has ls nL lv) (hn : i < nL) (ks : List Nat) (hs : lv_pick lv ks = lv2) (ho : hx_ok1 i lv2)
    (kk : ∀ ls' : Array Slot, lv_has ls' nL ((i, va_rf r) :: lv2) → W p l e R s m args below meth c H locs cells slots Q (F0 m (pc + 1) ls' rest)) : W p l e R s m args below meth c H locs cells slots Q (F0 m pc ls (va_rf r :: rest)) := by
  cases r with
  | none => exact lv_astore_nN S.1 S.2.1 hdg hi (lv_sub h ks hs) hn (by rw [hx_f1 ho]; rfl) kk
  | some a => exact lv_astore_n S.1 S.2.1 hdg hi (lv_sub h ks hs) hn (by rw [hx_f1 ho]; rfl) kk
theorem x_astore (S : CallFix p m c cc nL s args Ts own) {i nL : Nat} {r : Option Nat} {lv lv2 : List (Nat × Value)} (hdg : decode cc pc = .ok (.astore i, 2)) (h : lv_has ls nL lv) (hn : i < nL) (ks : List Nat) (hs : lv_pick lv ks = lv2) (ho : hx_ok1 i lv2)
    (kk : ∀ ls' : Array Slot, lv_has ls' nL ((i, va_rf r) :: lv2) → W p l e R s m args below meth c H locs cells slots Q (F0 m (pc + 2) ls' rest)) : W p l e R s m args below meth c H locs cells slots Q (F0 m pc ls (va_rf r :: rest)) := by
  cases r with
  | none => exact lv_astoreN S.1 S.2.1 hdg (lv_sub h ks hs) hn (by rw [hx_f1 ho]; rfl) kk
  | some a => exact lv_astore S.1 S.2.1 hdg (lv_sub h ks hs) hn (by rw [hx_f1 ho]; rfl) kk
theorem x_ifnull (S : CallFix p m c cc nL s args Ts own) {r : Option Nat} {off : Int} {tgt : Nat} (hdg : decode cc pc = .ok (.ifnull off, 3)) (ht : (pc : Int) + off = (tgt : Int))
    (kt : r = none → W p l e R s m args below meth c H locs cells slots Q (F0 m tgt ls rest)) (kf : ¬ r = none → W p l e R s m args below meth c H locs cells slots Q (F0 m (pc + 3) ls rest)) : W p l e R s m args below meth c H locs cells slots Q (F0 m pc ls (va_rf r :: rest)) := by
  cases r with
  | none => exact lv_ifnullN S.1 S.2.1 hdg ht (kt rfl)
  | some a => exact lv_ifnull S.1 S.2.1 hdg (kf (fun h => by cases h))
theorem x_ifnonnull (S : CallFix p m c cc nL s args Ts own) {r : Option Nat} {off : Int} {tgt : Nat} (hdg : decode cc pc = .ok (.ifnonnull off, 3)) (ht : (pc : Int) + off = (tgt : Int))
    (kt : ¬ r = none → W p l e R s m args below meth c H locs cells slots Q (F0 m tgt ls rest)) (kf : r = none → W p l e R s m args below meth c H locs cells slots Q (F0 m (pc + 3) ls rest)) : W p l e R s m args below meth c H locs cells slots Q (F0 m pc ls (va_rf r :: rest)) := by
  cases r with
  | none => exact lv_ifnonnullN S.1 S.2.1 hdg (kf rfl)
  | some a => exact lv_ifnonnull S.1 S.2.1 hdg ht (kt (fun h => by cases h))
/-! what the model says, read back -/
theorem b_nn_inv {r : Option Nat} {K : Nat → hX α} (h : (b_nn r K).1 M = some Z) : ∃ a, r = some a ∧ (K a).1 M = some Z := by
  cases r with
  | none => cases h
  | some a => exact ⟨a, rfl, h⟩
theorem b_call_inv {f : hX β} {K : β → hX α} (h : (b_call f K).1 M = some Z) : ∃ (v : β) (N : hM), f.1 M = some (v, N) ∧ (K v).1 N = some Z := by
  dsimp only [b_call] at h
  split at h
  · rename_i v N hf
    exact ⟨v, N, hf, h⟩
  · cases h
theorem b_is_inv {a ci : Nat} {K : hX α} (h : (b_is a ci K).1 M = some Z) : (∃ fs, M.1 a = some (.inr (ci, fs))) ∧ K.1 M = some Z := by
  dsimp only [b_is] at h
  split at h
  · rename_i fs hf
    exact ⟨⟨fs, hm_obj_inv hf⟩, h⟩
  · cases h
theorem b_let_inv {σ : Type} {J : σ} {body : σ → hX α} (h : (b_let J body).1 M = some Z) : ∃ j, j = J ∧ (body j).1 M = some Z := ⟨J, rfl, h⟩
theorem b_if_t {c : Prop} [Decidable c] {A B : hX α} (hc : c) (h : (if c then A else B).1 M = some Z) : A.1 M = some Z := by rw [if_pos hc] at h; exact h
theorem b_if_f {c : Prop} [Decidable c] {A B : hX α} (hc : ¬ c) (h : (if c then A else B).1 M = some Z) : B.1 M = some Z := by rw [if_neg hc] at h; exact h
theorem b_ifn {c : Prop} [Decidable c] {A : hX α} (h : (if c then b_fail else A).1 M = some Z) : ¬ c ∧ A.1 M = some Z := by
  by_cases hc : c
  · rw [if_pos hc] at h; cases h
  · rw [if_neg hc] at h; exact ⟨hc, h⟩
theorem hm_mo {X : hX α} (h : X.1 M = some Z) : hm_le M Z.2 := X.2 M Z h
theorem hm_cs {N : hM} (hI : hm_I D dA cl z k1 s M H locs cells slots) (hR : N.2.1 - s.heap.size ≤ R.cells ∧ N.2.2 - k1 ≤ R.slots) (h : hm_le M N) : cells ≤ R.cells ∧ slots ≤ R.slots := by
  obtain ⟨-, -, -, -, -, i6, i7⟩ := hI
  obtain ⟨h1, h2⟩ := h
  exact ⟨by omega, by omega⟩
theorem hx_fit {N Z : hM} (hI : hm_I D dA cl z k1 s M H locs cells slots) (hR : Z.2.1 - s.heap.size ≤ R.cells ∧ Z.2.2 - k1 ≤ R.slots) (h : hm_le M N) (g : hm_le N Z) : cells + (N.2.1 - M.2.1) ≤ R.cells ∧ slots + (N.2.2 - M.2.2) ≤ R.slots := by
  obtain ⟨-, -, -, -, -, i6, i7⟩ := hI
  obtain ⟨h1, h2⟩ := h
  obtain ⟨g1, g2⟩ := g
  exact ⟨by omega, by omega⟩
/-! fields -/
theorem x_getI (S : CallFix p m c cc nL s args Ts own) (hK : va_K D cl tys s) (hI : hm_I D dA cl z k1 s M H locs cells slots) {a ci k N index : Nat} {C ref : String} {T : u_T} (hin : ∀ w ∈ u_ws C T N, w ∈ Ts) (hc : cl[ci]? = some (C, T, N)) (hk : k < N) (hlink : (Cond.fieldLink own index ref (T k).2.1 (T k).2.2.1) ∈ Ts) (hsame : ref = (T k).1) (hdg : decode cc pc = .ok (.getfield index, 3)) {K : Int32 → hX α} (hf : (b_getI a ci k K).1 M = some Z)
    (kk : ∀ x : Int32, (K x).1 M = some Z → W p l e R s m args below meth c H locs cells slots Q (F0 m (pc + 3) ls (.int x :: rest))) : W p l e R s m args below meth c H locs cells slots Q (F0 m pc ls (.ref a :: rest)) := by
  dsimp only [b_getI] at hf
  split at hf
  · rename_i x hx
    obtain ⟨fs, h1, h2⟩ := hm_fld_inv hx
    exact va_get S.1 S.2.1 S.2.2.2.2 hin S.2.2.2.1 hK (hI.1.one h1) 0 rfl hc k hk (S.2.2.2.2 _ hlink) (fun _ h => by rw [hsame]; exact h) h2 hdg (kk x hf)
  · cases hf
theorem x_getL (S : CallFix p m c cc nL s args Ts own) (hK : va_K D cl tys s) (hI : hm_I D dA cl z k1 s M H locs cells slots) {a ci k N index : Nat} {C ref : String} {T : u_T} (hin : ∀ w ∈ u_ws C T N, w ∈ Ts) (hc : cl[ci]? = some (C, T, N)) (hk : k < N) (hlink : (Cond.fieldLink own index ref (T k).2.1 (T k).2.2.1) ∈ Ts) (hsame : ref = (T k).1) (hdg : decode cc pc = .ok (.getfield index, 3)) {K : Int64 → hX α} (hf : (b_getL a ci k K).1 M = some Z)
    (kk : ∀ x : Int64, (K x).1 M = some Z → W p l e R s m args below meth c H locs cells slots Q (F0 m (pc + 3) ls (.long x :: rest))) : W p l e R s m args below meth c H locs cells slots Q (F0 m pc ls (.ref a :: rest)) := by
  dsimp only [b_getL] at hf
  split at hf
  · rename_i x hx
    obtain ⟨fs, h1, h2⟩ := hm_fld_inv hx
    exact va_get S.1 S.2.1 S.2.2.2.2 hin S.2.2.2.1 hK (hI.1.one h1) 0 rfl hc k hk (S.2.2.2.2 _ hlink) (fun _ h => by rw [hsame]; exact h) h2 hdg (kk x hf)
  · cases hf
theorem x_getR (S : CallFix p m c cc nL s args Ts own) (hK : va_K D cl tys s) (hI : hm_I D dA cl z k1 s M H locs cells slots) {a ci k N index : Nat} {C ref : String} {T : u_T} (hin : ∀ w ∈ u_ws C T N, w ∈ Ts) (hc : cl[ci]? = some (C, T, N)) (hk : k < N) (hlink : (Cond.fieldLink own index ref (T k).2.1 (T k).2.2.1) ∈ Ts) (hsame : ref = (T k).1) (hdg : decode cc pc = .ok (.getfield index, 3)) {K : Option Nat → hX α} (hf : (b_getR a ci k K).1 M = some Z)
    (kk : ∀ x : Option Nat, (K x).1 M = some Z → W p l e R s m args below meth c H locs cells slots Q (F0 m (pc + 3) ls (va_rf x :: rest))) : W p l e R s m args below meth c H locs cells slots Q (F0 m pc ls (.ref a :: rest)) := by
  dsimp only [b_getR] at hf
  split at hf
  · rename_i hx
    obtain ⟨fs, h1, h2⟩ := hm_fld_inv hx
    exact va_get S.1 S.2.1 S.2.2.2.2 hin S.2.2.2.1 hK (hI.1.one h1) 0 rfl hc k hk (S.2.2.2.2 _ hlink) (fun _ h => by rw [hsame]; exact h) h2 hdg (kk none hf)
  · rename_i x hx
    obtain ⟨fs, h1, h2⟩ := hm_fld_inv hx
    exact va_get S.1 S.2.1 S.2.2.2.2 hin S.2.2.2.1 hK (hI.1.one h1) 0 rfl hc k hk (S.2.2.2.2 _ hlink) (fun _ h => by rw [hsame]; exact h) h2 hdg (kk (some x) hf)
  · cases hf
/-- the heart of a putfield: the map changes at one address -/
theorem x_putV (S : CallFix p m c cc nL s args Ts own) (hK : va_K D cl tys s) (hI : hm_I D dA cl z k1 s M H locs cells slots) {a ci k N index : Nat} {C ref : String} {T : u_T} (hin : ∀ w ∈ u_ws C T N, w ∈ Ts) (ty0 : Nat → FieldType) (hty : ∀ k, k < N → parseFieldDescriptor (T k).2.2.1 = some (ty0 k)) (hnm : ∀ a, a < N → ∀ b, b < N → a ≠ b → (T a).2.1 ≠ (T b).2.1) (hc : cl[ci]? = some (C, T, N)) (hk : k < N) (hlink : (Cond.fieldLink own index ref (T k).2.1 (T k).2.2.1) ∈ Ts) (hsame : ref = (T k).1)
    (hfin : (T k).2.2.2 = false ∨ ((T k).2.2.2 = true ∧ meth.name = "<init>" ∧ (T k).1 = own)) {v : Value} (hn : narrow (ty0 k) v = v) (hfit : fits (ty0 k) v = true) {fs : List Value} (he : M.1 a = some (.inr (ci, fs))) (hl : k < fs.length) (hdg : decode cc pc = .ok (.putfield index, 3))
    (kk : ∀ (H1 : Heap) (locs1 : List Loc), hm_I D dA cl z k1 s (hm_up M a (.inr (ci, fs.set k v))) H1 locs1 cells slots → W p l e R s m args below meth c H1 locs1 cells slots Q (F0 m (pc + 3) ls rest)) : W p l e R s m args below meth c H locs cells slots Q (F0 m pc ls (v :: .ref a :: rest)) := by
  obtain ⟨hexec, hb, -, hown, hts⟩ := S
  have hap := va_apart (own := own) hts hin ty0 hty hnm hK hc
  obtain ⟨r, h1, cell, q1, q2, q3, q4⟩ := hI.1 a _ he
  have hr : r = (C, T, N) := Option.some.inj (h1.symm.trans hc)
  subst hr
  obtain ⟨hS, hfc, kC, hkC, hkind⟩ := hK.1 ci _ hc
  obtain ⟨cf, kf, fi, f, hi, hsl⟩ := hS k hk
  have hi' : s.fieldFound? ref (T k).2.1 (T k).2.2.1 = some (cf, kf, fi, f) := by rw [hsame]; exact hi
  have hlay := hts _ (hin _ (u_in_lay hk))
  have hst := (u_facts hfc hkC (u_lays hts hin hk) hi).1
  have fin : ∀ H' : Heap, H'[a]? = some (cell.setSlot (D.2 ci k) v) → H'.size = H.size → (∀ q : Nat, q ≠ a → H'[q]? = H[q]?) → W p l e R s m args below meth c H' (locs ++ [⟨a, D.2 ci k⟩]) cells slots Q (F0 m (pc + 3) ls rest) := fun H' e1 e2 e3 =>
    kk H' _ (hI.up he (e := .inr (ci, fs.set k v)) ⟨_, hc, t_OB.to (V := updV (vp_V fs) k v) ⟨_, e1, q2, q3, t_set q4 hap hk v⟩ (fun j _ => vp_updV_set hl v j)⟩ e2 e3)
  unfold u_lay at hlay
  rcases hfin with hfin | ⟨hfin, hin2, hdecl⟩
  · rw [if_neg (by rw [hfin]; decide)] at hlay
    have h6 := u_store hfc hkC hkind hlay hi (hty k hk) hn hfit
    refine W.putK hexec hb (f := f) ⟨hown, hts _ hlink, ⟨_, _, _, hi'⟩, hst⟩ (by rw [q2]; exact h6) q1 q3 (by rw [hsl]; exact k2_hasslot (q4 k hk)) rfl rfl hdg fun H' e1 e2 e3 => ?_
    rw [hsl] at e1 ⊢
    exact fin H' e1 e2 e3
  · rw [if_pos hfin] at hlay
    have hcf : m.cls = cf := by
      obtain ⟨_, _, c', _, _, _, -, -, hf', -, -, -, hown2, -⟩ := Cond.laysFinal_spec hlay
      have e1 : c' = cf := by have := hi.symm.trans hf'; simp at this; exact this.1.symm
      rw [hdecl] at hown2
      rw [← e1]; exact Option.some.inj (hown.symm.trans hown2)
    have h6 := u_fits hfc hkC hkind (Or.inr hlay) hi (hty k hk) hn hfit
    refine W.putFinK hexec hb hown (hts _ hlink) hi' hst hcf hin2 (by rw [q2]; exact h6) q1 q3 (by rw [hsl]; exact k2_hasslot (q4 k hk)) rfl rfl hdg fun H' e1 e2 e3 => ?_
    rw [hsl] at e1 ⊢
    exact fin H' e1 e2 e3
theorem x_put (S : CallFix p m c cc nL s args Ts own) (hK : va_K D cl tys s) (hI : hm_I D dA cl z k1 s M H locs cells slots) {a ci k N index : Nat} {C ref : String} {T : u_T} (hin : ∀ w ∈ u_ws C T N, w ∈ Ts) (ty0 : Nat → FieldType) (hty : ∀ k, k < N → parseFieldDescriptor (T k).2.2.1 = some (ty0 k)) (hnm : ∀ a, a < N → ∀ b, b < N → a ≠ b → (T a).2.1 ≠ (T b).2.1) (hc : cl[ci]? = some (C, T, N)) (hk : k < N) (hlink : (Cond.fieldLink own index ref (T k).2.1 (T k).2.2.1) ∈ Ts) (hsame : ref = (T k).1)
    (hfin : (T k).2.2.2 = false ∨ ((T k).2.2.2 = true ∧ meth.name = "<init>" ∧ (T k).1 = own)) {v : Value} (hn : narrow (ty0 k) v = v) (hfit : fits (ty0 k) v = true) (hdg : decode cc pc = .ok (.putfield index, 3)) {K : hX α} (hf : (b_put a ci k v K).1 M = some Z)
    (kk : ∀ (M1 : hM) (H1 : Heap) (locs1 : List Loc), K.1 M1 = some Z → hm_I D dA cl z k1 s M1 H1 locs1 cells slots → W p l e R s m args below meth c H1 locs1 cells slots Q (F0 m (pc + 3) ls rest)) : W p l e R s m args below meth c H locs cells slots Q (F0 m pc ls (v :: .ref a :: rest)) := by
  dsimp only [b_put] at hf
  split at hf
  · rename_i fs hfs
    split at hf
    · rename_i hl
      exact x_putV S hK hI hin ty0 hty hnm hc hk hlink hsame hfin hn hfit (hm_obj_inv hfs) hl hdg (fun H1 locs1 h => kk _ H1 locs1 hf h)
    · cases hf
  · cases hf
theorem nar_ok {ty : FieldType} {x : Int32} (h : vp_nar ty x = x) : narrow ty (.int x) = .int x := by
  cases ty <;> first | rfl | (have h2 : Value.int (vp_nar _ x) = Value.int x := congrArg Value.int h; exact h2)
theorem x_putN (S : CallFix p m c cc nL s args Ts own) (hK : va_K D cl tys s) (hI : hm_I D dA cl z k1 s M H locs cells slots) {a ci k N index : Nat} {C ref : String} {T : u_T} (hin : ∀ w ∈ u_ws C T N, w ∈ Ts) (ty0 : Nat → FieldType) (hty : ∀ k, k < N → parseFieldDescriptor (T k).2.2.1 = some (ty0 k)) (hnm : ∀ a, a < N → ∀ b, b < N → a ≠ b → (T a).2.1 ≠ (T b).2.1) (hc : cl[ci]? = some (C, T, N)) (hk : k < N) (hlink : (Cond.fieldLink own index ref (T k).2.1 (T k).2.2.1) ∈ Ts) (hsame : ref = (T k).1)
    (hfin : (T k).2.2.2 = false ∨ ((T k).2.2.2 = true ∧ meth.name = "<init>" ∧ (T k).1 = own)) {x : Int32} (hdg : decode cc pc = .ok (.putfield index, 3)) {K : hX α} (hf : (b_putN (ty0 k) a ci k x K).1 M = some Z)
    (kk : ∀ (M1 : hM) (H1 : Heap) (locs1 : List Loc), K.1 M1 = some Z → hm_I D dA cl z k1 s M1 H1 locs1 cells slots → W p l e R s m args below meth c H1 locs1 cells slots Q (F0 m (pc + 3) ls rest)) : W p l e R s m args below meth c H locs cells slots Q (F0 m pc ls (.int x :: .ref a :: rest)) := by
  dsimp only [b_putN] at hf
  split at hf
  · rename_i fs hfs
    split at hf
    · rename_i hl
      exact x_putV S hK hI hin ty0 hty hnm hc hk hlink hsame hfin (nar_ok hl.2.1) hl.2.2 (hm_obj_inv hfs) hl.1 hdg (fun H1 locs1 h => kk _ H1 locs1 hf h)
    · cases hf
  · cases hf
/-! arrays -/
theorem x_len (S : CallFix p m c cc nL s args Ts own) (hK : va_K D cl tys s) (hI : hm_I D dA cl z k1 s M H locs cells slots) {a t : Nat} {ty : FieldType} (ht : tys[t]? = some (dA t, ty)) (hdg : decode cc pc = .ok (.arraylength, 1)) {K : Int32 → hX α} (hf : (b_len a t K).1 M = some Z)
    (kk : ∀ x : Int32, (K x).1 M = some Z → W p l e R s m args below meth c H locs cells slots Q (F0 m (pc + 1) ls (.int x :: rest))) : W p l e R s m args below meth c H locs cells slots Q (F0 m pc ls (.ref a :: rest)) := by
  dsimp only [b_len] at hf
  split at hf
  · rename_i x hx
    exact va_alen S.1 S.2.1 hK (hI.1.one (hm_arr_inv hx)) 0 t rfl ht (v := nI x.1) rfl hdg (kk _ hf)
  · cases hf
theorem x_iald (S : CallFix p m c cc nL s args Ts own) (hK : va_K D cl tys s) (hI : hm_I D dA cl z k1 s M H locs cells slots) {a t : Nat} (ht : tys[t]? = some (dA t, .int)) {i : Int32} (hdg : decode cc pc = .ok (.iaload, 1)) {K : Int32 → hX α} (hf : (b_ald a t i K).1 M = some Z)
    (kk : ∀ x : Int32, (K x).1 M = some Z → W p l e R s m args below meth c H locs cells slots Q (F0 m (pc + 1) ls (.int x :: rest))) : W p l e R s m args below meth c H locs cells slots Q (F0 m pc ls (.int i :: .ref a :: rest)) := by
  dsimp only [b_ald] at hf
  split at hf
  · rename_i n f hx
    split at hf
    · cases hf
    · rename_i hin
      exact va_iald S.1 S.2.1 hK (hI.1.one (hm_arr_inv hx)) 0 t rfl ht hin hdg (kk _ hf)
  · cases hf
theorem x_cald (S : CallFix p m c cc nL s args Ts own) (hK : va_K D cl tys s) (hI : hm_I D dA cl z k1 s M H locs cells slots) {a t : Nat} (ht : tys[t]? = some (dA t, .char)) {i : Int32} (hdg : decode cc pc = .ok (.caload, 1)) {K : Int32 → hX α} (hf : (b_ald a t i K).1 M = some Z)
    (kk : ∀ x : Int32, (K x).1 M = some Z → W p l e R s m args below meth c H locs cells slots Q (F0 m (pc + 1) ls (.int x :: rest))) : W p l e R s m args below meth c H locs cells slots Q (F0 m pc ls (.int i :: .ref a :: rest)) := by
  dsimp only [b_ald] at hf
  split at hf
  · rename_i n f hx
    split at hf
    · cases hf
    · rename_i hin
      exact va_cald S.1 S.2.1 hK (hI.1.one (hm_arr_inv hx)) 0 t rfl ht hin hdg (kk _ hf)
  · cases hf
theorem x_zald (S : CallFix p m c cc nL s args Ts own) (hK : va_K D cl tys s) (hI : hm_I D dA cl z k1 s M H locs cells slots) {a t : Nat} (ht : tys[t]? = some (dA t, .boolean)) {i : Int32} (hdg : decode cc pc = .ok (.baload, 1)) {K : Int32 → hX α} (hf : (b_ald a t i K).1 M = some Z)
    (kk : ∀ x : Int32, (K x).1 M = some Z → W p l e R s m args below meth c H locs cells slots Q (F0 m (pc + 1) ls (.int x :: rest))) : W p l e R s m args below meth c H locs cells slots Q (F0 m pc ls (.int i :: .ref a :: rest)) := by
  dsimp only [b_ald] at hf
  split at hf
  · rename_i n f hx
    split at hf
    · cases hf
    · rename_i hin
      exact va_zald S.1 S.2.1 hK (hI.1.one (hm_arr_inv hx)) 0 t rfl ht hin hdg (kk _ hf)
  · cases hf
theorem x_aald (S : CallFix p m c cc nL s args Ts own) (hK : va_K D cl tys s) (hI : hm_I D dA cl z k1 s M H locs cells slots) {a t : Nat} {C : String} (ht : tys[t]? = some (dA t, .object C)) {i : Int32} (hdg : decode cc pc = .ok (.aaload, 1)) {K : Option Nat → hX α} (hf : (b_aldR a t i K).1 M = some Z)
    (kk : ∀ x : Option Nat, (K x).1 M = some Z → W p l e R s m args below meth c H locs cells slots Q (F0 m (pc + 1) ls (va_rf x :: rest))) : W p l e R s m args below meth c H locs cells slots Q (F0 m pc ls (.int i :: .ref a :: rest)) := by
  dsimp only [b_aldR] at hf
  split at hf
  · rename_i n f hx
    split at hf
    · cases hf
    · rename_i hin
      exact va_aldq S.1 S.2.1 hK (hI.1.one (hm_arr_inv hx)) 0 t rfl ht hin hdg (kk _ hf)
  · cases hf
theorem x_bald (S : CallFix p m c cc nL s args Ts own) (hK : va_K D cl tys s) (hI : hm_I D dA cl z k1 s M H locs cells slots) {a t : Nat} (ht : tys[t]? = some (dA t, .byte)) {i : Int32} (hdg : decode cc pc = .ok (.baload, 1)) {K : Int32 → hX α} (hf : (b_ald a t i K).1 M = some Z)
    (kk : ∀ x : Int32, (K x).1 M = some Z → W p l e R s m args below meth c H locs cells slots Q (F0 m (pc + 1) ls (.int x :: rest))) : W p l e R s m args below meth c H locs cells slots Q (F0 m pc ls (.int i :: .ref a :: rest)) := by
  dsimp only [b_ald] at hf
  split at hf
  · rename_i n f hx
    split at hf
    · cases hf
    · rename_i hin
      exact va_bald S.1 S.2.1 hK (hI.1.one (hm_arr_inv hx)) 0 t rfl ht hin hdg (kk _ hf)
  · cases hf
theorem x_lald (S : CallFix p m c cc nL s args Ts own) (hK : va_K D cl tys s) (hI : hm_I D dA cl z k1 s M H locs cells slots) {a t : Nat} (ht : tys[t]? = some (dA t, .long)) {i : Int32} (hdg : decode cc pc = .ok (.laload, 1)) {K : Int64 → hX α} (hf : (b_aldL a t i K).1 M = some Z)
    (kk : ∀ x : Int64, (K x).1 M = some Z → W p l e R s m args below meth c H locs cells slots Q (F0 m (pc + 1) ls (.long x :: rest))) : W p l e R s m args below meth c H locs cells slots Q (F0 m pc ls (.int i :: .ref a :: rest)) := by
  dsimp only [b_aldL] at hf
  split at hf
  · rename_i n f hx
    split at hf
    · cases hf
    · rename_i hin
      exact va_lald S.1 S.2.1 hK (hI.1.one (hm_arr_inv hx)) 0 t rfl ht hin hdg (kk _ hf)
  · cases hf
theorem upd_st {f : Nat → Int32} {i x : Int32} : updV (fun j => Value.int (f j)) i.toNatClampNeg (.int x) = fun j => Value.int (upd f i.toNatClampNeg x j) := by
  funext q
  by_cases hq : q = i.toNatClampNeg
  · subst hq; simp [updV, upd]
  · simp [updV, upd, hq]
theorem x_iast (S : CallFix p m c cc nL s args Ts own) (hK : va_K D cl tys s) (hI : hm_I D dA cl z k1 s M H locs cells slots) {a t : Nat} (ht : tys[t]? = some (dA t, .int)) {i x : Int32} (hdg : decode cc pc = .ok (.iastore, 1)) {K : hX α} (hf : (b_ast a t i x K).1 M = some Z)
    (kk : ∀ (M1 : hM) (H1 : Heap) (locs1 : List Loc), K.1 M1 = some Z → hm_I D dA cl z k1 s M1 H1 locs1 cells slots → W p l e R s m args below meth c H1 locs1 cells slots Q (F0 m (pc + 1) ls rest)) : W p l e R s m args below meth c H locs cells slots Q (F0 m pc ls (.int x :: .int i :: .ref a :: rest)) := by
  dsimp only [b_ast] at hf
  split at hf
  · rename_i n f hx
    split at hf
    · cases hf
    · rename_i hin
      have hA := hm_arr_inv hx
      refine W.iast S.1 S.2.1 (hI.1 a _ hA) ((hK.2 t _ ht).1 n (fun j => .int (f j))) (fun q => by cases q) (by show ¬ (i < 0 ∨ (arrV _ _ _).slots.size ≤ _); rw [arrV_size]; exact hin) rfl rfl hdg fun H1 e z oq => ?_
      refine kk _ H1 _ hf (hI.up hA ?_ z oq)
      show H1[a]? = some (vp_cell _ _)
      rw [e]
      show some ((vp_cell (dA t) (n, .inl f)).setSlot _ _) = _
      rw [vp_cell_i, vp_cell_i, arrV_store, upd_st]
  · cases hf
theorem x_cast (S : CallFix p m c cc nL s args Ts own) (hK : va_K D cl tys s) (hI : hm_I D dA cl z k1 s M H locs cells slots) {a t : Nat} (ht : tys[t]? = some (dA t, .char)) {i x : Int32} (hdg : decode cc pc = .ok (.castore, 1)) {K : hX α} (hf : (b_ast a t i (vp_nar .char x) K).1 M = some Z)
    (kk : ∀ (M1 : hM) (H1 : Heap) (locs1 : List Loc), K.1 M1 = some Z → hm_I D dA cl z k1 s M1 H1 locs1 cells slots → W p l e R s m args below meth c H1 locs1 cells slots Q (F0 m (pc + 1) ls rest)) : W p l e R s m args below meth c H locs cells slots Q (F0 m pc ls (.int x :: .int i :: .ref a :: rest)) := by
  dsimp only [b_ast] at hf
  split at hf
  · rename_i n f hx
    split at hf
    · cases hf
    · rename_i hin
      have hA := hm_arr_inv hx
      refine W.cast S.1 S.2.1 (hI.1 a _ hA) ((hK.2 t _ ht).1 n (fun j => .int (f j))) (fun q => by cases q) (by show ¬ (i < 0 ∨ (arrV _ _ _).slots.size ≤ _); rw [arrV_size]; exact hin) rfl rfl hdg fun H1 e z oq => ?_
      refine kk _ H1 _ hf (hI.up hA ?_ z oq)
      show H1[a]? = some (vp_cell _ _)
      rw [e]
      show some ((vp_cell (dA t) (n, .inl f)).setSlot _ _) = _
      rw [vp_cell_i, vp_cell_i, arrV_store]
      exact congrArg (fun g => some (arrV (dA t) n g)) (upd_st (x := vp_nar .char x))
  · cases hf
theorem x_zast (S : CallFix p m c cc nL s args Ts own) (hK : va_K D cl tys s) (hI : hm_I D dA cl z k1 s M H locs cells slots) {a t : Nat} (ht : tys[t]? = some (dA t, .boolean)) {i x : Int32} (hdg : decode cc pc = .ok (.bastore, 1)) {K : hX α} (hf : (b_ast a t i (vp_nar .boolean x) K).1 M = some Z)
    (kk : ∀ (M1 : hM) (H1 : Heap) (locs1 : List Loc), K.1 M1 = some Z → hm_I D dA cl z k1 s M1 H1 locs1 cells slots → W p l e R s m args below meth c H1 locs1 cells slots Q (F0 m (pc + 1) ls rest)) : W p l e R s m args below meth c H locs cells slots Q (F0 m pc ls (.int x :: .int i :: .ref a :: rest)) := by
  dsimp only [b_ast] at hf
  split at hf
  · rename_i n f hx
    split at hf
    · cases hf
    · rename_i hin
      have hA := hm_arr_inv hx
      refine W.zast S.1 S.2.1 (hI.1 a _ hA) ((hK.2 t _ ht).1 n (fun j => .int (f j))) (fun q => by cases q) (by show ¬ (i < 0 ∨ (arrV _ _ _).slots.size ≤ _); rw [arrV_size]; exact hin) rfl rfl hdg fun H1 e z oq => ?_
      refine kk _ H1 _ hf (hI.up hA ?_ z oq)
      show H1[a]? = some (vp_cell _ _)
      rw [e]
      show some ((vp_cell (dA t) (n, .inl f)).setSlot _ _) = _
      rw [vp_cell_i, vp_cell_i, arrV_store]
      exact congrArg (fun g => some (arrV (dA t) n g)) (upd_st (x := vp_nar .boolean x))
  · cases hf
theorem x_bast (S : CallFix p m c cc nL s args Ts own) (hK : va_K D cl tys s) (hI : hm_I D dA cl z k1 s M H locs cells slots) {a t : Nat} (ht : tys[t]? = some (dA t, .byte)) {i x : Int32} (hdg : decode cc pc = .ok (.bastore, 1)) {K : hX α} (hf : (b_ast a t i (vp_nar .byte x) K).1 M = some Z)
    (kk : ∀ (M1 : hM) (H1 : Heap) (locs1 : List Loc), K.1 M1 = some Z → hm_I D dA cl z k1 s M1 H1 locs1 cells slots → W p l e R s m args below meth c H1 locs1 cells slots Q (F0 m (pc + 1) ls rest)) : W p l e R s m args below meth c H locs cells slots Q (F0 m pc ls (.int x :: .int i :: .ref a :: rest)) := by
  dsimp only [b_ast] at hf
  split at hf
  · rename_i n f hx
    split at hf
    · cases hf
    · rename_i hin
      have hA := hm_arr_inv hx
      refine W.bast S.1 S.2.1 (hI.1 a _ hA) ((hK.2 t _ ht).1 n (fun j => .int (f j))) (fun q => by cases q) (by show ¬ (i < 0 ∨ (arrV _ _ _).slots.size ≤ _); rw [arrV_size]; exact hin) rfl rfl hdg fun H1 e z oq => ?_
      refine kk _ H1 _ hf (hI.up hA ?_ z oq)
      show H1[a]? = some (vp_cell _ _)
      rw [e]
      show some ((vp_cell (dA t) (n, .inl f)).setSlot _ _) = _
      rw [vp_cell_i, vp_cell_i, arrV_store]
      exact congrArg (fun g => some (arrV (dA t) n g)) (upd_st (x := vp_nar .byte x))
  · cases hf
theorem upl_st {f : Nat → Int64} {i : Int32} {x : Int64} : updV (fun j => Value.long (f j)) i.toNatClampNeg (.long x) = fun j => Value.long (vp_updL f i.toNatClampNeg x j) := by
  funext q
  by_cases hq : q = i.toNatClampNeg
  · subst hq; simp [updV, vp_updL]
  · simp [updV, vp_updL, hq]
theorem x_last (S : CallFix p m c cc nL s args Ts own) (hK : va_K D cl tys s) (hI : hm_I D dA cl z k1 s M H locs cells slots) {a t : Nat} (ht : tys[t]? = some (dA t, .long)) {i : Int32} {x : Int64} (hdg : decode cc pc = .ok (.lastore, 1)) {K : hX α} (hf : (b_astL a t i x K).1 M = some Z)
    (kk : ∀ (M1 : hM) (H1 : Heap) (locs1 : List Loc), K.1 M1 = some Z → hm_I D dA cl z k1 s M1 H1 locs1 cells slots → W p l e R s m args below meth c H1 locs1 cells slots Q (F0 m (pc + 1) ls rest)) : W p l e R s m args below meth c H locs cells slots Q (F0 m pc ls (.long x :: .int i :: .ref a :: rest)) := by
  dsimp only [b_astL] at hf
  split at hf
  · rename_i n f hx
    split at hf
    · cases hf
    · rename_i hin
      have hA := hm_arr_inv hx
      refine W.last S.1 S.2.1 (hI.1 a _ hA) ((hK.2 t _ ht).1 n (fun j => .long (f j))) (fun q => by cases q) (by show ¬ (i < 0 ∨ (arrV _ _ _).slots.size ≤ _); rw [arrV_size]; exact hin) rfl rfl hdg fun H1 e z oq => ?_
      refine kk _ H1 _ hf (hI.up hA ?_ z oq)
      show H1[a]? = some (vp_cell _ _)
      rw [e]
      show some ((vp_cell (dA t) (n, .inr (.inl f))).setSlot _ _) = _
      rw [vp_cell_l, vp_cell_l, arrV_store, upl_st]
  · cases hf
theorem upq_st {f : Nat → Option Nat} {i : Int32} {r : Option Nat} : updV (fun j => va_rf (f j)) i.toNatClampNeg (va_rf r) = fun j => va_rf (va_up f i.toNatClampNeg r j) := by
  funext q
  by_cases hq : q = i.toNatClampNeg
  · subst hq; simp [updV, va_up]
  · simp [updV, va_up, hq]
theorem x_aast (S : CallFix p m c cc nL s args Ts own) (hK : va_K D cl tys s) (hI : hm_I D dA cl z k1 s M H locs cells slots) {a t ci N : Nat} {C : String} {T : u_T} (ht : tys[t]? = some (dA t, .object C)) (hc : cl[ci]? = some (C, T, N)) {i : Int32} {r : Option Nat} (hdg : decode cc pc = .ok (.aastore, 1)) {K : hX α} (hf : (b_astR a t ci i r K).1 M = some Z)
    (kk : ∀ (M1 : hM) (H1 : Heap) (locs1 : List Loc), K.1 M1 = some Z → hm_I D dA cl z k1 s M1 H1 locs1 cells slots → W p l e R s m args below meth c H1 locs1 cells slots Q (F0 m (pc + 1) ls rest)) : W p l e R s m args below meth c H locs cells slots Q (F0 m pc ls (va_rf r :: .int i :: .ref a :: rest)) := by
  dsimp only [b_astR] at hf
  split at hf
  · rename_i n f hx
    split at hf
    · cases hf
    · rename_i hin
      have hA := hm_arr_inv hx
      have h0 : ¬ i < 0 := fun q => hin (Or.inl q)
      have hlt : i.toNatClampNeg < n := Nat.not_le.mp fun q => hin (Or.inr (Or.inl q))
      have hok : ¬ hm_okR M ci r = false := fun q => hin (Or.inr (Or.inr q))
      have fin : ∀ H1 : Heap, H1[a]? = some ((vp_cell (dA t) (n, .inr (.inr (.inr (.inr f))))).setSlot i.toNatClampNeg (va_rf r)) → H1.size = H.size → (∀ q : Nat, q ≠ a → H1[q]? = H[q]?) → W p l e R s m args below meth c H1 (locs ++ [⟨a, i.toNatClampNeg⟩]) cells slots Q (F0 m (pc + 1) ls rest) := by
        intro H1 e z oq
        refine kk _ H1 _ hf (hI.up hA ?_ z oq)
        show H1[a]? = some (vp_cell _ _)
        rw [e, vp_cell_q, vp_cell_q, arrV_store, upq_st]
      cases r with
      | none =>
        exact va_WaastN (C := C) S.1 S.2.1 (hI.1 a _ hA) ((hK.2 t _ ht).1 n (fun j => va_rf (f j))) (fun h => by cases h) (by show ¬ (i < 0 ∨ (arrV _ _ _).slots.size ≤ _); rw [arrV_size]; exact fun q => hin (q.imp_right Or.inl)) rfl rfl hdg fin
      | some v =>
        obtain ⟨vs, hvs⟩ : ∃ vs, hm_obj M v ci = some vs := by
          cases hq : hm_obj M v ci with
          | none => exact absurd (by simp [hm_okR, hq]) hok
          | some vs => exact ⟨vs, rfl⟩
        obtain ⟨r', hr', cellV, g1, g2, g3, -⟩ := hI.1 v _ (hm_obj_inv hvs)
        have hcls := (hK.1 ci _ hc).2
        obtain ⟨kA, comp, j1, j2, j3, -⟩ := (hK.2 t _ ht).2
        have hcomp : comp = D.1 ci := Option.some.inj (j3.symm.trans hcls.1)
        subst hcomp
        obtain ⟨kC, hkC, -⟩ := hcls.2
        exact W.aast S.1 S.2.1 (hI.1 a _ hA) (fun q h => by cases h) (fun h => by cases h) j1 j2 rfl hkC ⟨h0, by show _ < (arrV _ _ _).slots.size; rw [arrV_size]; exact hlt⟩ g1 (fun q h => by rw [g3] at h; cases h) (by rw [g2]; exact hkC) (by rw [g2]; exact va_assign hcls) rfl rfl hdg fin
  · cases hf
/-! making -/
theorem x_new (S : CallFix p m c cc nL s args Ts own) (hK : va_K D cl tys s) (hI : hm_I D dA cl z k1 s M H locs cells slots) (hR : Z.2.2.1 - s.heap.size ≤ R.cells ∧ Z.2.2.2 - k1 ≤ R.slots) {ci N index : Nat} {C : String} {T : u_T} (hin : ∀ w ∈ u_ws C T N, w ∈ Ts) (ty0 : Nat → FieldType) (hty : ∀ k, k < N → parseFieldDescriptor (T k).2.2.1 = some (ty0 k)) (hc : cl[ci]? = some (C, T, N)) (hcl : (Cond.classLink own index C) ∈ Ts) (hinst : (Cond.instantiable C N) ∈ Ts) (hini : (Cond.initialized C) ∈ Ts)
    {fs : List Value} (hfs : ∀ j, j < N → defaultValue (ty0 j) = vp_V fs j) (hdg : decode cc pc = .ok (.new index, 3)) {K : Nat → hX α} (hf : (b_new ci N fs K).1 M = some Z)
    (kk : ∀ (q : Nat) (M1 : hM) (H1 : Heap), (K q).1 M1 = some Z → hm_I D dA cl z k1 s M1 H1 locs (cells + 1) (slots + N) → W p l e R s m args below meth c H1 locs (cells + 1) (slots + N) Q (F0 m (pc + 3) ls (.ref q :: rest))) : W p l e R s m args below meth c H locs cells slots Q (F0 m pc ls rest) := by
  have hf : (K M.2.1).1 (hm_nw M (.inr (ci, fs)) N) = some Z := hf
  have hle := (K M.2.1).2 _ Z hf
  have l1 : M.2.1 + 1 ≤ Z.2.2.1 := hle.1
  have l2 : M.2.2 + N ≤ Z.2.2.2 := hle.2
  have hKn := hK.1 ci _ hc
  obtain ⟨-, i2, -, -, -, i6, i7⟩ := id hI
  refine W.newcK S.1 S.2.1 S.2.2.2.1 (S.2.2.2.2 _ hcl) (S.2.2.2.2 _ hinst) (S.2.2.2.2 _ hini) rfl hdg (by omega) (by omega) hKn.2.1 rfl fun H1 kC hkC e1 z1 o1 => ?_
  rw [i2]
  exact kk _ _ H1 hf (hI.new (by rw [i2] at e1 ⊢; exact ⟨_, hc, (u_born ty0 S.2.2.2.2 hin hKn hkC e1 hty).to hfs⟩) z1 o1)
theorem x_newa (S : CallFix p m c cc nL s args Ts own) (hK : va_K D cl tys s) (hI : hm_I D dA cl z k1 s M H locs cells slots) (hR : Z.2.2.1 - s.heap.size ≤ R.cells ∧ Z.2.2.2 - k1 ≤ R.slots) {t : Nat} {atype : ArrayType} (harr : (Cond.arrayClass (newarray.typeOf atype)) ∈ Ts) (ht : tys[t]? = some (dA t, newarray.typeOf atype)) (h8 : componentBytes (newarray.typeOf atype) ≤ 8) (hd0 : defaultValue (newarray.typeOf atype) = .int 0) (hna : va_RA s (dA t) (newarray.typeOf atype) → s.vm.findClass ("[" ++ (newarray.typeOf atype).toString) = some (dA t)) {n : Int32} (hdg : decode cc pc = .ok (.newarray atype, 2)) {K : Nat → hX α} (hf : (b_newa t n K).1 M = some Z)
    (kk : ∀ (q : Nat) (M1 : hM) (H1 : Heap), (K q).1 M1 = some Z → hm_I D dA cl z k1 s M1 H1 locs (cells + 1) (slots + n.toNatClampNeg) → W p l e R s m args below meth c H1 locs (cells + 1) (slots + n.toNatClampNeg) Q (F0 m (pc + 2) ls (.ref q :: rest))) : W p l e R s m args below meth c H locs cells slots Q (F0 m pc ls (.int n :: rest)) := by
  dsimp only [b_newa] at hf
  split at hf
  · cases hf
  · rename_i hn
    have hle := (K M.2.1).2 _ Z hf
    have l1 : M.2.1 + 1 ≤ Z.2.2.1 := hle.1
    have l2 : M.2.2 + n.toNatClampNeg ≤ Z.2.2.2 := hle.2
    obtain ⟨-, i2, -, -, -, i6, i7⟩ := id hI
    have hbig : ¬ 60000000 < n.toNatClampNeg := fun q => hn (Or.inr q)
    refine va_newaK S.1 S.2.1 (S.2.2.2.2 _ harr) rfl hdg rfl (fun q => hn (Or.inl q)) rfl (Nat.le_trans (Nat.mul_le_mul (Nat.not_lt.mp hbig) h8) (by decide)) (by omega) (by omega) rfl fun H1 cA e1 z1 o1 hAr hNm => ?_
    have hcA : cA = dA t := Option.some.inj (hNm.symm.trans (hna (hK.2 t _ ht).2))
    subst hcA
    rw [i2]
    refine kk _ _ H1 hf (hI.new ?_ z1 o1)
    show H1[H.size]? = some (vp_cell (dA t) (n.toNatClampNeg, .inl (fun _ => 0)))
    rw [vp_cell_i, e1, hd0]
theorem x_newL (S : CallFix p m c cc nL s args Ts own) (hK : va_K D cl tys s) (hI : hm_I D dA cl z k1 s M H locs cells slots) (hR : Z.2.2.1 - s.heap.size ≤ R.cells ∧ Z.2.2.2 - k1 ≤ R.slots) {t : Nat} {atype : ArrayType} (harr : (Cond.arrayClass (newarray.typeOf atype)) ∈ Ts) (ht : tys[t]? = some (dA t, newarray.typeOf atype)) (h8 : componentBytes (newarray.typeOf atype) ≤ 8) (hd0 : defaultValue (newarray.typeOf atype) = .long 0) (hna : va_RA s (dA t) (newarray.typeOf atype) → s.vm.findClass ("[" ++ (newarray.typeOf atype).toString) = some (dA t)) {n : Int32} (hdg : decode cc pc = .ok (.newarray atype, 2)) {K : Nat → hX α} (hf : (b_newL t n K).1 M = some Z)
    (kk : ∀ (q : Nat) (M1 : hM) (H1 : Heap), (K q).1 M1 = some Z → hm_I D dA cl z k1 s M1 H1 locs (cells + 1) (slots + n.toNatClampNeg) → W p l e R s m args below meth c H1 locs (cells + 1) (slots + n.toNatClampNeg) Q (F0 m (pc + 2) ls (.ref q :: rest))) : W p l e R s m args below meth c H locs cells slots Q (F0 m pc ls (.int n :: rest)) := by
  dsimp only [b_newL] at hf
  split at hf
  · cases hf
  · rename_i hn
    have hle := (K M.2.1).2 _ Z hf
    have l1 : M.2.1 + 1 ≤ Z.2.2.1 := hle.1
    have l2 : M.2.2 + n.toNatClampNeg ≤ Z.2.2.2 := hle.2
    obtain ⟨-, i2, -, -, -, i6, i7⟩ := id hI
    have hbig : ¬ 60000000 < n.toNatClampNeg := fun q => hn (Or.inr q)
    refine va_newaK S.1 S.2.1 (S.2.2.2.2 _ harr) rfl hdg rfl (fun q => hn (Or.inl q)) rfl (Nat.le_trans (Nat.mul_le_mul (Nat.not_lt.mp hbig) h8) (by decide)) (by omega) (by omega) rfl fun H1 cA e1 z1 o1 hAr hNm => ?_
    have hcA : cA = dA t := Option.some.inj (hNm.symm.trans (hna (hK.2 t _ ht).2))
    subst hcA
    rw [i2]
    refine kk _ _ H1 hf (hI.new ?_ z1 o1)
    show H1[H.size]? = some (vp_cell (dA t) (n.toNatClampNeg, .inr (.inl (fun _ => 0))))
    rw [vp_cell_l, e1, hd0]
theorem x_newq (S : CallFix p m c cc nL s args Ts own) (hK : va_K D cl tys s) (hI : hm_I D dA cl z k1 s M H locs cells slots) (hR : Z.2.2.1 - s.heap.size ≤ R.cells ∧ Z.2.2.2 - k1 ≤ R.slots) {t index : Nat} {C : String} (hcl : (Cond.classLink own index C) ∈ Ts) (hov : va_AO C s) (ht : tys[t]? = some (dA t, .object C)) {n : Int32} (hdg : decode cc pc = .ok (.anewarray index, 3)) {K : Nat → hX α} (hf : (b_newq t n K).1 M = some Z)
    (kk : ∀ (q : Nat) (M1 : hM) (H1 : Heap), (K q).1 M1 = some Z → hm_I D dA cl z k1 s M1 H1 locs (cells + 1) (slots + n.toNatClampNeg) → W p l e R s m args below meth c H1 locs (cells + 1) (slots + n.toNatClampNeg) Q (F0 m (pc + 3) ls (.ref q :: rest))) : W p l e R s m args below meth c H locs cells slots Q (F0 m pc ls (.int n :: rest)) := by
  dsimp only [b_newq] at hf
  split at hf
  · cases hf
  · rename_i hn
    have hle := (K M.2.1).2 _ Z hf
    have l1 : M.2.1 + 1 ≤ Z.2.2.1 := hle.1
    have l2 : M.2.2 + n.toNatClampNeg ≤ Z.2.2.2 := hle.2
    obtain ⟨-, i2, -, -, -, i6, i7⟩ := id hI
    have hbig : ¬ 60000000 < n.toNatClampNeg := fun q => hn (Or.inr q)
    refine W.anew S.1 S.2.1 S.2.2.2.1 (S.2.2.2.2 _ hcl) (va_AO.use hov) rfl hdg rfl (fun q => hn (Or.inl q)) (by omega) (by omega) (by omega) fun cA kA comp f1 f2 f3 f4 => ?_
    obtain ⟨kA', comp', -, -, -, j4⟩ := (hK.2 t _ ht).2
    have hcA : cA = dA t := Option.some.inj (f1.symm.trans j4)
    subst hcA
    generalize hH1 : H.push ({ cls := dA t, slots := Array.replicate n.toNatClampNeg .null, vm := .none } : Cell) = H1
    have z1 : H1.size = H.size + 1 := by rw [← hH1, Array.size_push]
    have e1 : H1[H.size]? = some (arrV (dA t) n.toNatClampNeg (fun _ => .null)) := by rw [← hH1, Array.getElem?_push_size, ← arrV_new]
    have o1 : ∀ q : Nat, q < H.size → H1[q]? = H[q]? := fun q hq => by rw [← hH1, Array.getElem?_push, if_neg (Nat.ne_of_lt hq)]
    rw [i2]
    refine kk _ _ H1 hf (hI.new ?_ z1 o1)
    show H1[H.size]? = some (vp_cell (dA t) (n.toNatClampNeg, .inr (.inr (.inr (.inr (fun _ => none))))))
    rw [vp_cell_q, e1]
    rfl
/-! calls -/
theorem x_call (hI : hm_I D dA cl z k1 s M H locs cells slots) {st0 : List Value} {rv : Option Value} {M1 : hM} {av : Array Value} (hle : hm_le M M1) (hr : va_Run p l e R s m args below meth c H locs cells slots (M1.2.1 - M.2.1) (M1.2.2 - M.2.2) (F0 m pc ls st0) rest (hm_Q D dA cl tys ST aK aV z rv M1 av) (fun q => z ≤ q))
    (kk : ∀ (H1 : Heap) (locs1 : List Loc) (cells1 slots1 : Nat), hm_I D dA cl z k1 s M1 H1 locs1 cells1 slots1 → W p l e R s m args below meth c H1 locs1 cells1 slots1 Q (F0 m (pc + 3) ls (rv.toList ++ rest))) : W p l e R s m args below meth c H locs cells slots Q (F0 m pc ls st0) := by
  intro T hT X
  obtain ⟨v, st₀, t, T', L, h0, X', hL, e1, e2, ⟨hv, hB, hz, hk⟩, st⟩ := hr T hT X
  cases hv
  rw [h0] at hz hk
  obtain ⟨-, -, i3, -, i5, i6, i7⟩ := hI
  obtain ⟨l1, l2⟩ := hle
  obtain ⟨t2, a1, b1⟩ := kk T'.heap (locs ++ L) _ _ ⟨by rw [e1]; exact hB.1, by rw [e1]; exact hB.2.1, ⟨Nat.le_trans i3.1 (by rw [e1]; exact hz), fun q g1 g2 => by rw [e1, hk q (Nat.lt_of_lt_of_le g1 i3.1) g2]; exact i3.2.1 q g1 g2, fun q hq => by
      rcases List.mem_append.mp hq with h | h
      · exact i3.2.2 q h
      · exact hL q h⟩, hB.2.2.2.1, i5, by omega, by omega⟩ T' rfl X'
  exact ⟨t2, st t2 a1, b1⟩
/-! giving back -/
theorem x_reti (S : CallFix p m c cc nL s args Ts own) (hK : va_K D cl tys s) (hG : hm_G ST aK aV z s s.heap) (hI : hm_I D dA cl z k1 s M H locs cells slots) (hr : meth.sig.returnType = some .int) (hlocks : meth.locks = false) {v : Int32} {Z : Int32 × hM} (hdg : decode cc pc = .ok (.ireturn, 1)) (hf : (b_ret v).1 M = some Z) :
    W p l e R s m args below meth c H locs cells slots (MQ below (hm_Q D dA cl tys ST aK aV z (some (.int Z.1)) Z.2) args s (Z.2.2.1 - s.heap.size) (Z.2.2.2 - k1) (fun q => z ≤ q)) (F0 m pc ls [.int v]) := by
  obtain rfl : Z = (v, M) := (Option.some.inj hf).symm
  obtain ⟨-, -, -, -, -, i6, i7⟩ := id hI
  have e1 : M.2.1 - s.heap.size = cells := by omega
  have e2 : M.2.2 - k1 = slots := by omega
  show W p l e R s m args below meth c H locs cells slots (MQ below (hm_Q D dA cl tys ST aK aV z (some (.int v)) M) args s (M.2.1 - s.heap.size) (M.2.2 - k1) (fun q => z ≤ q)) (F0 m pc ls [.int v])
  rw [e1, e2]
  exact W.iret S.1 S.2.1 hr (fun t ht hW => ⟨rfl, hm_B.of hK hG hI ht hW, hI.2.2.1.F ht⟩) hI.2.2.1.2.2 hdg hlocks
theorem x_retn (S : CallFix p m c cc nL s args Ts own) (hK : va_K D cl tys s) (hG : hm_G ST aK aV z s s.heap) (hI : hm_I D dA cl z k1 s M H locs cells slots) {ty : FieldType} (hr : meth.sig.returnType = some ty) (hlocks : meth.locks = false) {v : Int32} {Z : Int32 × hM} (hdg : decode cc pc = .ok (.ireturn, 1)) (hf : (b_retN ty v).1 M = some Z) :
    W p l e R s m args below meth c H locs cells slots (MQ below (hm_Q D dA cl tys ST aK aV z (some (.int Z.1)) Z.2) args s (Z.2.2.1 - s.heap.size) (Z.2.2.2 - k1) (fun q => z ≤ q)) (F0 m pc ls [.int v]) := by
  dsimp only [b_retN] at hf
  split at hf
  · rename_i hn
    obtain rfl : Z = (v, M) := (Option.some.inj hf).symm
    obtain ⟨-, -, -, -, -, i6, i7⟩ := id hI
    have e1 : M.2.1 - s.heap.size = cells := by omega
    have e2 : M.2.2 - k1 = slots := by omega
    show W p l e R s m args below meth c H locs cells slots (MQ below (hm_Q D dA cl tys ST aK aV z (some (.int v)) M) args s (M.2.1 - s.heap.size) (M.2.2 - k1) (fun q => z ≤ q)) (F0 m pc ls [.int v])
    rw [e1, e2]
    exact W.zret S.1 S.2.1 hr (nar_ok hn) (fun t ht hW => ⟨rfl, hm_B.of hK hG hI ht hW, hI.2.2.1.F ht⟩) hI.2.2.1.2.2 hdg hlocks
  · cases hf
theorem x_retl (S : CallFix p m c cc nL s args Ts own) (hK : va_K D cl tys s) (hG : hm_G ST aK aV z s s.heap) (hI : hm_I D dA cl z k1 s M H locs cells slots) (hr : meth.sig.returnType = some .long) (hlocks : meth.locks = false) {v : Int64} {Z : Int64 × hM} (hdg : decode cc pc = .ok (.lreturn, 1)) (hf : (b_ret v).1 M = some Z) :
    W p l e R s m args below meth c H locs cells slots (MQ below (hm_Q D dA cl tys ST aK aV z (some (.long Z.1)) Z.2) args s (Z.2.2.1 - s.heap.size) (Z.2.2.2 - k1) (fun q => z ≤ q)) (F0 m pc ls [.long v]) := by
  obtain rfl : Z = (v, M) := (Option.some.inj hf).symm
  obtain ⟨-, -, -, -, -, i6, i7⟩ := id hI
  have e1 : M.2.1 - s.heap.size = cells := by omega
  have e2 : M.2.2 - k1 = slots := by omega
  show W p l e R s m args below meth c H locs cells slots (MQ below (hm_Q D dA cl tys ST aK aV z (some (.long v)) M) args s (M.2.1 - s.heap.size) (M.2.2 - k1) (fun q => z ≤ q)) (F0 m pc ls [.long v])
  rw [e1, e2]
  exact W.lret S.1 S.2.1 hr (fun t ht hW => ⟨rfl, hm_B.of hK hG hI ht hW, hI.2.2.1.F ht⟩) hI.2.2.1.2.2 hdg hlocks
theorem x_retr (S : CallFix p m c cc nL s args Ts own) (hK : va_K D cl tys s) (hG : hm_G ST aK aV z s s.heap) (hI : hm_I D dA cl z k1 s M H locs cells slots) {rt : FieldType} (hr : meth.sig.returnType = some rt) (hrt : (∃ n, rt = .object n) ∨ ∃ t, rt = .array t) (hlocks : meth.locks = false) {v : Option Nat} {Z : Option Nat × hM} (hdg : decode cc pc = .ok (.areturn, 1)) (hf : (b_ret v).1 M = some Z) :
    W p l e R s m args below meth c H locs cells slots (MQ below (hm_Q D dA cl tys ST aK aV z (some (va_rf Z.1)) Z.2) args s (Z.2.2.1 - s.heap.size) (Z.2.2.2 - k1) (fun q => z ≤ q)) (F0 m pc ls [va_rf v]) := by
  obtain rfl : Z = (v, M) := (Option.some.inj hf).symm
  obtain ⟨-, -, -, -, -, i6, i7⟩ := id hI
  have e1 : M.2.1 - s.heap.size = cells := by omega
  have e2 : M.2.2 - k1 = slots := by omega
  show W p l e R s m args below meth c H locs cells slots (MQ below (hm_Q D dA cl tys ST aK aV z (some (va_rf v)) M) args s (M.2.1 - s.heap.size) (M.2.2 - k1) (fun q => z ≤ q)) (F0 m pc ls [va_rf v])
  rw [e1, e2]
  exact W.aret S.1 S.2.1 hr hrt (by cases v with | none => exact Or.inl rfl | some a => exact Or.inr ⟨a, rfl⟩) (fun t ht hW => ⟨rfl, hm_B.of hK hG hI ht hW, hI.2.2.1.F ht⟩) hI.2.2.1.2.2 hdg hlocks
theorem x_rett (S : CallFix p m c cc nL s args Ts own) (hK : va_K D cl tys s) (hG : hm_G ST aK aV z s s.heap) (hI : hm_I D dA cl z k1 s M H locs cells slots) {rt : FieldType} (hr : meth.sig.returnType = some rt) (hrt : (∃ n, rt = .object n) ∨ ∃ t, rt = .array t) (hlocks : meth.locks = false) {v : Option Nat} {Z : Option Nat × hM} (hdg : decode cc pc = .ok (.areturn, 1)) (hf : (b_ret v).1 M = some Z) :
    W p l e R s m args below meth c H locs cells slots (MQ below (hm_Q D dA cl tys ST aK aV z (some (va_rf (Option.map aK Z.1))) Z.2) args s (Z.2.2.1 - s.heap.size) (Z.2.2.2 - k1) (fun q => z ≤ q)) (F0 m pc ls [va_rf (Option.map aK v)]) := by
  obtain rfl : Z = (v, M) := (Option.some.inj hf).symm
  obtain ⟨-, -, -, -, -, i6, i7⟩ := id hI
  have e1 : M.2.1 - s.heap.size = cells := by omega
  have e2 : M.2.2 - k1 = slots := by omega
  show W p l e R s m args below meth c H locs cells slots (MQ below (hm_Q D dA cl tys ST aK aV z (some (va_rf (Option.map aK v))) M) args s (M.2.1 - s.heap.size) (M.2.2 - k1) (fun q => z ≤ q)) (F0 m pc ls [va_rf (Option.map aK v)])
  rw [e1, e2]
  exact W.aret S.1 S.2.1 hr hrt (by cases v with | none => exact Or.inl rfl | some a => exact Or.inr ⟨_, rfl⟩) (fun t ht hW => ⟨rfl, hm_B.of hK hG hI ht hW, hI.2.2.1.F ht⟩) hI.2.2.1.2.2 hdg hlocks
theorem x_retv (S : CallFix p m c cc nL s args Ts own) (hK : va_K D cl tys s) (hG : hm_G ST aK aV z s s.heap) (hI : hm_I D dA cl z k1 s M H locs cells slots) (hr : meth.sig.returnType = none) (hlocks : meth.locks = false) {Z : Unit × hM} (hdg : decode cc pc = .ok (.return_, 1)) (hf : (b_ret ()).1 M = some Z) :
    W p l e R s m args below meth c H locs cells slots (MQ below (hm_Q D dA cl tys ST aK aV z none Z.2) args s (Z.2.2.1 - s.heap.size) (Z.2.2.2 - k1) (fun q => z ≤ q)) (F0 m pc ls []) := by
  obtain rfl : Z = ((), M) := (Option.some.inj hf).symm
  obtain ⟨-, -, -, -, -, i6, i7⟩ := id hI
  have e1 : M.2.1 - s.heap.size = cells := by omega
  have e2 : M.2.2 - k1 = slots := by omega
  show W p l e R s m args below meth c H locs cells slots (MQ below (hm_Q D dA cl tys ST aK aV z none M) args s (M.2.1 - s.heap.size) (M.2.2 - k1) (fun q => z ≤ q)) (F0 m pc ls [])
  rw [e1, e2]
  exact W.vret S.1 S.2.1 hr (fun t ht hW => ⟨rfl, hm_B.of hK hG hI ht hW, hI.2.2.1.F ht⟩) hI.2.2.1.2.2 hdg hlocks
end ROWS
