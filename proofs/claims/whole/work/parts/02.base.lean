/-! THE MAP WORLD. A state of the system is one map from addresses to cells, with the heap's size and the slots made so far; a method's MODEL is a function on it that may get stuck (none); a method's CONTRACT says that the machine does what the model does. -/
abbrev hM : Type := (Nat → Option va_E) × Nat × Nat
def hm_le (M N : hM) : Prop := M.2.1 ≤ N.2.1 ∧ M.2.2 ≤ N.2.2
theorem hm_le.rf {M : hM} : hm_le M M := ⟨Nat.le_refl _, Nat.le_refl _⟩
theorem hm_le.tr {A B C : hM} (h : hm_le A B) (g : hm_le B C) : hm_le A C := ⟨Nat.le_trans h.1 g.1, Nat.le_trans h.2 g.2⟩
/-- a model: what it makes only grows -/
abbrev hX (α : Type) : Type := { f : hM → Option (α × hM) // ∀ (M : hM) (Z : α × hM), f M = some Z → hm_le M Z.2 }
def hm_up (M : hM) (a : Nat) (e : va_E) : hM := (va_up M.1 a (some e), M.2)
def hm_nw (M : hM) (e : va_E) (n : Nat) : hM := (va_up M.1 M.2.1 (some e), M.2.1 + 1, M.2.2 + n)
theorem hm_le.up {M Z : hM} {a : Nat} {e : va_E} (h : hm_le (hm_up M a e) Z) : hm_le M Z := h
theorem hm_le.nw {M Z : hM} {e : va_E} {n : Nat} (h : hm_le (hm_nw M e n) Z) : hm_le M Z := ⟨Nat.le_trans (Nat.le_succ _) h.1, Nat.le_trans (Nat.le_add_right _ _) h.2⟩
/-- what a cell holds -/
def hm_fld (M : hM) (a ci k : Nat) : Option Value := match M.1 a with
  | some (.inr o) => if o.1 = ci then o.2[k]? else none
  | _ => none
def hm_obj (M : hM) (a ci : Nat) : Option (List Value) := match M.1 a with
  | some (.inr o) => if o.1 = ci then some o.2 else none
  | _ => none
def hm_arr (M : hM) (a t : Nat) : Option vp_A := match M.1 a with
  | some (.inl o) => if o.1 = t then some o.2 else none
  | _ => none
theorem hm_fld_inv {M : hM} {a ci k : Nat} {v : Value} (h : hm_fld M a ci k = some v) : ∃ fs, M.1 a = some (.inr (ci, fs)) ∧ fs[k]? = some v := by
  unfold hm_fld at h
  split at h
  · rename_i o ho
    split at h
    · rename_i hc
      exact ⟨o.2, by rw [ho, ← hc], h⟩
    · cases h
  · cases h
theorem hm_obj_inv {M : hM} {a ci : Nat} {fs : List Value} (h : hm_obj M a ci = some fs) : M.1 a = some (.inr (ci, fs)) := by
  unfold hm_obj at h
  split at h
  · rename_i o ho
    split at h
    · rename_i hc
      cases h
      rw [ho, ← hc]
    · cases h
  · cases h
theorem hm_arr_inv {M : hM} {a t : Nat} {x : vp_A} (h : hm_arr M a t = some x) : M.1 a = some (.inl (t, x)) := by
  unfold hm_arr at h
  split at h
  · rename_i o ho
    split at h
    · rename_i hc
      cases h
      rw [ho, ← hc]
    · cases h
  · cases h
section MODEL
variable {α β : Type}
def b_fail : hX α := ⟨fun _ => none, fun _ _ h => by cases h⟩
def b_ret (v : α) : hX α := ⟨fun M => some (v, M), fun M Z h => by cases h; exact hm_le.rf⟩
/-- a small int is given back -/
def b_retN (ty : FieldType) (v : Int32) : hX Int32 := ⟨fun M => if vp_nar ty v = v then some (v, M) else none, fun M Z h => by
  dsimp only at h
  split at h
  · cases h; exact hm_le.rf
  · cases h⟩
def b_call (f : hX β) (K : β → hX α) : hX α := ⟨fun M => match f.1 M with
  | some (v, N) => (K v).1 N
  | none => none, fun M Z h => by
  dsimp only at h
  split at h
  · rename_i v N hf
    exact (f.2 M _ hf).tr ((K v).2 N Z h)
  · cases h⟩
/-- a reference that isn't null -/
def b_nn (r : Option Nat) (K : Nat → hX α) : hX α := match r with
  | none => b_fail
  | some a => K a
def b_let {σ : Type} (J : σ) (body : σ → hX α) : hX α := body J
def b_is (a ci : Nat) (K : hX α) : hX α := ⟨fun M => match hm_obj M a ci with
  | some _ => K.1 M
  | none => none, fun M Z h => by
  dsimp only at h
  split at h
  · exact K.2 M Z h
  · cases h⟩
def b_getI (a ci k : Nat) (K : Int32 → hX α) : hX α := ⟨fun M => match hm_fld M a ci k with
  | some (.int x) => (K x).1 M
  | _ => none, fun M Z h => by
  dsimp only at h
  split at h
  · exact (K _).2 M Z h
  · cases h⟩
def b_getL (a ci k : Nat) (K : Int64 → hX α) : hX α := ⟨fun M => match hm_fld M a ci k with
  | some (.long x) => (K x).1 M
  | _ => none, fun M Z h => by
  dsimp only at h
  split at h
  · exact (K _).2 M Z h
  · cases h⟩
def b_getR (a ci k : Nat) (K : Option Nat → hX α) : hX α := ⟨fun M => match hm_fld M a ci k with
  | some .null => (K none).1 M
  | some (.ref x) => (K (some x)).1 M
  | _ => none, fun M Z h => by
  dsimp only at h
  split at h
  · exact (K _).2 M Z h
  · exact (K _).2 M Z h
  · cases h⟩
/-- a field is written -/
def b_put (a ci k : Nat) (v : Value) (K : hX α) : hX α := ⟨fun M => match hm_obj M a ci with
  | some fs => if k < fs.length then K.1 (hm_up M a (.inr (ci, fs.set k v))) else none
  | none => none, fun M Z h => by
  dsimp only at h
  split at h
  · split at h
    · exact (K.2 _ Z h).up
    · cases h
  · cases h⟩
/-- a field of a small type is written -/
def b_putN (ty : FieldType) (a ci k : Nat) (x : Int32) (K : hX α) : hX α := ⟨fun M => match hm_obj M a ci with
  | some fs => if k < fs.length ∧ vp_nar ty x = x ∧ fits ty (.int x) = true then K.1 (hm_up M a (.inr (ci, fs.set k (.int x)))) else none
  | none => none, fun M Z h => by
  dsimp only at h
  split at h
  · split at h
    · exact (K.2 _ Z h).up
    · cases h
  · cases h⟩
def b_len (a t : Nat) (K : Int32 → hX α) : hX α := ⟨fun M => match hm_arr M a t with
  | some x => (K (nI x.1)).1 M
  | none => none, fun M Z h => by
  dsimp only at h
  split at h
  · exact (K _).2 M Z h
  · cases h⟩
def b_ald (a t : Nat) (i : Int32) (K : Int32 → hX α) : hX α := ⟨fun M => match hm_arr M a t with
  | some (n, .inl f) => if i < 0 ∨ n ≤ i.toNatClampNeg then none else (K (f i.toNatClampNeg)).1 M
  | _ => none, fun M Z h => by
  dsimp only at h
  split at h
  · split at h
    · cases h
    · exact (K _).2 M Z h
  · cases h⟩
def b_aldR (a t : Nat) (i : Int32) (K : Option Nat → hX α) : hX α := ⟨fun M => match hm_arr M a t with
  | some (n, .inr (.inr (.inr (.inr f)))) => if i < 0 ∨ n ≤ i.toNatClampNeg then none else (K (f i.toNatClampNeg)).1 M
  | _ => none, fun M Z h => by
  dsimp only at h
  split at h
  · split at h
    · cases h
    · exact (K _).2 M Z h
  · cases h⟩
def b_aldL (a t : Nat) (i : Int32) (K : Int64 → hX α) : hX α := ⟨fun M => match hm_arr M a t with
  | some (n, .inr (.inl f)) => if i < 0 ∨ n ≤ i.toNatClampNeg then none else (K (f i.toNatClampNeg)).1 M
  | _ => none, fun M Z h => by
  dsimp only at h
  split at h
  · split at h
    · cases h
    · exact (K _).2 M Z h
  · cases h⟩
def b_astL (a t : Nat) (i : Int32) (x : Int64) (K : hX α) : hX α := ⟨fun M => match hm_arr M a t with
  | some (n, .inr (.inl f)) => if i < 0 ∨ n ≤ i.toNatClampNeg then none else K.1 (hm_up M a (.inl (t, n, .inr (.inl (vp_updL f i.toNatClampNeg x)))))
  | _ => none, fun M Z h => by
  dsimp only at h
  split at h
  · split at h
    · cases h
    · exact (K.2 _ Z h).up
  · cases h⟩
/-- an element of an array of ints, chars .. is written; what is kept of x is given -/
def b_ast (a t : Nat) (i x : Int32) (K : hX α) : hX α := ⟨fun M => match hm_arr M a t with
  | some (n, .inl f) => if i < 0 ∨ n ≤ i.toNatClampNeg then none else K.1 (hm_up M a (.inl (t, n, .inl (upd f i.toNatClampNeg x))))
  | _ => none, fun M Z h => by
  dsimp only at h
  split at h
  · split at h
    · cases h
    · exact (K.2 _ Z h).up
  · cases h⟩
def hm_okR (M : hM) (ci : Nat) (r : Option Nat) : Bool := match r with
  | none => true
  | some v => (hm_obj M v ci).isSome
/-- an object of class ci, or null, is put into an array -/
def b_astR (a t ci : Nat) (i : Int32) (r : Option Nat) (K : hX α) : hX α := ⟨fun M => match hm_arr M a t with
  | some (n, .inr (.inr (.inr (.inr f)))) => if i < 0 ∨ n ≤ i.toNatClampNeg ∨ hm_okR M ci r = false then none else K.1 (hm_up M a (.inl (t, n, .inr (.inr (.inr (.inr (va_up f i.toNatClampNeg r)))))))
  | _ => none, fun M Z h => by
  dsimp only at h
  split at h
  · split at h
    · cases h
    · exact (K.2 _ Z h).up
  · cases h⟩
def b_new (ci N : Nat) (fs : List Value) (K : Nat → hX α) : hX α := ⟨fun M => (K M.2.1).1 (hm_nw M (.inr (ci, fs)) N), fun M Z h => ((K M.2.1).2 _ Z h).nw⟩
def b_newa (t : Nat) (n : Int32) (K : Nat → hX α) : hX α := ⟨fun M => if n < 0 ∨ 60000000 < n.toNatClampNeg then none else (K M.2.1).1 (hm_nw M (.inl (t, n.toNatClampNeg, .inl (fun _ => 0))) n.toNatClampNeg), fun M Z h => by
  dsimp only at h
  split at h
  · cases h
  · exact ((K M.2.1).2 _ Z h).nw⟩
def b_newL (t : Nat) (n : Int32) (K : Nat → hX α) : hX α := ⟨fun M => if n < 0 ∨ 60000000 < n.toNatClampNeg then none else (K M.2.1).1 (hm_nw M (.inl (t, n.toNatClampNeg, .inr (.inl (fun _ => 0)))) n.toNatClampNeg), fun M Z h => by
  dsimp only at h
  split at h
  · cases h
  · exact ((K M.2.1).2 _ Z h).nw⟩
def b_newq (t : Nat) (n : Int32) (K : Nat → hX α) : hX α := ⟨fun M => if n < 0 ∨ 60000000 < n.toNatClampNeg then none else (K M.2.1).1 (hm_nw M (.inl (t, n.toNatClampNeg, .inr (.inr (.inr (.inr (fun _ => none)))))) n.toNatClampNeg), fun M Z h => by
  dsimp only at h
  split at h
  · cases h
  · exact ((K M.2.1).2 _ Z h).nw⟩
/-- a text's length, a text's sign (texts are known by their numbers) -/
def b_slen (byt : List (List Int32)) (i : Nat) (K : Int32 → hX α) : hX α := if i < byt.length then K (nI (byt.getD i []).length) else b_fail
def b_schr (byt : List (List Int32)) (i : Nat) (k : Int32) (K : Int32 → hX α) : hX α := if byt.length ≤ i ∨ k < 0 ∨ (byt.getD i []).length ≤ k.toNatClampNeg then b_fail else K (((byt.getD i []).getD k.toNatClampNeg 0) &&& 255)
end MODEL
