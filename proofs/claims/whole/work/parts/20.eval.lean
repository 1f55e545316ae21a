/-! LAYER 2: models, evaluated step by step -/
section EV
variable {α β : Type} {M : hM}
theorem r_ret {v : α} : (b_ret v).1 M = some (v, M) := rfl
theorem r_call {f : hX β} {K : β → hX α} {v : β} {N : hM} (h : f.1 M = some (v, N)) : (b_call f K).1 M = (K v).1 N := by
  show (match f.1 M with
    | some (v, N) => (K v).1 N
    | none => none) = _
  rw [h]
theorem r_is {a ci : Nat} {K : hX α} {fs : List Value} (h : M.1 a = some (.inr (ci, fs))) : (b_is a ci K).1 M = K.1 M := by
  have e : hm_obj M a ci = some fs := by unfold hm_obj; rw [h]; exact if_pos rfl
  show (match hm_obj M a ci with
    | some _ => K.1 M
    | none => none) = _
  rw [e]
theorem r_fld {a ci k : Nat} {fs : List Value} {v : Value} (h : M.1 a = some (.inr (ci, fs))) (hk : fs[k]? = some v) : hm_fld M a ci k = some v := by
  unfold hm_fld; rw [h]; exact (if_pos rfl).trans hk
theorem r_obj {a ci : Nat} {fs : List Value} (h : M.1 a = some (.inr (ci, fs))) : hm_obj M a ci = some fs := by unfold hm_obj; rw [h]; exact if_pos rfl
theorem r_arr {a t : Nat} {x : vp_A} (h : M.1 a = some (.inl (t, x))) : hm_arr M a t = some x := by unfold hm_arr; rw [h]; exact if_pos rfl
theorem r_getI {a ci k : Nat} {K : Int32 → hX α} {fs : List Value} {x : Int32} (h : M.1 a = some (.inr (ci, fs))) (hk : fs[k]? = some (.int x)) : (b_getI a ci k K).1 M = (K x).1 M := by
  show (match hm_fld M a ci k with
    | some (.int x) => (K x).1 M
    | _ => none) = _
  rw [r_fld h hk]
theorem r_getL {a ci k : Nat} {K : Int64 → hX α} {fs : List Value} {x : Int64} (h : M.1 a = some (.inr (ci, fs))) (hk : fs[k]? = some (.long x)) : (b_getL a ci k K).1 M = (K x).1 M := by
  show (match hm_fld M a ci k with
    | some (.long x) => (K x).1 M
    | _ => none) = _
  rw [r_fld h hk]
theorem r_getR {a ci k : Nat} {K : Option Nat → hX α} {fs : List Value} {r : Option Nat} (h : M.1 a = some (.inr (ci, fs))) (hk : fs[k]? = some (va_rf r)) : (b_getR a ci k K).1 M = (K r).1 M := by
  show (match hm_fld M a ci k with
    | some .null => (K none).1 M
    | some (.ref x) => (K (some x)).1 M
    | _ => none) = _
  rw [r_fld h hk]
  cases r <;> rfl
theorem r_put {a ci k : Nat} {v : Value} {K : hX α} {fs : List Value} (h : M.1 a = some (.inr (ci, fs))) (hk : k < fs.length) : (b_put a ci k v K).1 M = K.1 (hm_up M a (.inr (ci, fs.set k v))) := by
  show (match hm_obj M a ci with
    | some fs => if k < fs.length then K.1 (hm_up M a (.inr (ci, fs.set k v))) else none
    | none => none) = _
  rw [r_obj h]
  exact if_pos hk
theorem r_putN {ty : FieldType} {a ci k : Nat} {x : Int32} {K : hX α} {fs : List Value} (h : M.1 a = some (.inr (ci, fs))) (hk : k < fs.length) (h1 : vp_nar ty x = x) (h2 : fits ty (.int x) = true) : (b_putN ty a ci k x K).1 M = K.1 (hm_up M a (.inr (ci, fs.set k (.int x)))) := by
  show (match hm_obj M a ci with
    | some fs => if k < fs.length ∧ vp_nar ty x = x ∧ fits ty (.int x) = true then K.1 (hm_up M a (.inr (ci, fs.set k (.int x)))) else none
    | none => none) = _
  rw [r_obj h]
  exact if_pos ⟨hk, h1, h2⟩
theorem r_len {a t : Nat} {K : Int32 → hX α} {x : vp_A} (h : M.1 a = some (.inl (t, x))) : (b_len a t K).1 M = (K (nI x.1)).1 M := by
  show (match hm_arr M a t with
    | some x => (K (nI x.1)).1 M
    | none => none) = _
  rw [r_arr h]
theorem r_ald {a t n : Nat} {i : Int32} {f : Nat → Int32} {K : Int32 → hX α} (h : M.1 a = some (.inl (t, n, .inl f))) (hi : ¬ (i < 0 ∨ n ≤ i.toNatClampNeg)) : (b_ald a t i K).1 M = (K (f i.toNatClampNeg)).1 M := by
  show (match hm_arr M a t with
    | some (n, .inl f) => if i < 0 ∨ n ≤ i.toNatClampNeg then none else (K (f i.toNatClampNeg)).1 M
    | _ => none) = _
  rw [r_arr h]
  exact if_neg hi
theorem r_aldL {a t n : Nat} {i : Int32} {f : Nat → Int64} {K : Int64 → hX α} (h : M.1 a = some (.inl (t, n, .inr (.inl f)))) (hi : ¬ (i < 0 ∨ n ≤ i.toNatClampNeg)) : (b_aldL a t i K).1 M = (K (f i.toNatClampNeg)).1 M := by
  show (match hm_arr M a t with
    | some (n, .inr (.inl f)) => if i < 0 ∨ n ≤ i.toNatClampNeg then none else (K (f i.toNatClampNeg)).1 M
    | _ => none) = _
  rw [r_arr h]
  exact if_neg hi
theorem r_aldR {a t n : Nat} {i : Int32} {f : Nat → Option Nat} {K : Option Nat → hX α} (h : M.1 a = some (.inl (t, n, .inr (.inr (.inr (.inr f)))))) (hi : ¬ (i < 0 ∨ n ≤ i.toNatClampNeg)) : (b_aldR a t i K).1 M = (K (f i.toNatClampNeg)).1 M := by
  show (match hm_arr M a t with
    | some (n, .inr (.inr (.inr (.inr f)))) => if i < 0 ∨ n ≤ i.toNatClampNeg then none else (K (f i.toNatClampNeg)).1 M
    | _ => none) = _
  rw [r_arr h]
  exact if_neg hi
theorem r_ast {a t n : Nat} {i x : Int32} {f : Nat → Int32} {K : hX α} (h : M.1 a = some (.inl (t, n, .inl f))) (hi : ¬ (i < 0 ∨ n ≤ i.toNatClampNeg)) : (b_ast a t i x K).1 M = K.1 (hm_up M a (.inl (t, n, .inl (upd f i.toNatClampNeg x)))) := by
  show (match hm_arr M a t with
    | some (n, .inl f) => if i < 0 ∨ n ≤ i.toNatClampNeg then none else K.1 (hm_up M a (.inl (t, n, .inl (upd f i.toNatClampNeg x))))
    | _ => none) = _
  rw [r_arr h]
  exact if_neg hi
theorem r_astL {a t n : Nat} {i : Int32} {x : Int64} {f : Nat → Int64} {K : hX α} (h : M.1 a = some (.inl (t, n, .inr (.inl f)))) (hi : ¬ (i < 0 ∨ n ≤ i.toNatClampNeg)) : (b_astL a t i x K).1 M = K.1 (hm_up M a (.inl (t, n, .inr (.inl (vp_updL f i.toNatClampNeg x))))) := by
  show (match hm_arr M a t with
    | some (n, .inr (.inl f)) => if i < 0 ∨ n ≤ i.toNatClampNeg then none else K.1 (hm_up M a (.inl (t, n, .inr (.inl (vp_updL f i.toNatClampNeg x)))))
    | _ => none) = _
  rw [r_arr h]
  exact if_neg hi
theorem r_astR {a t n ci v : Nat} {i : Int32} {f : Nat → Option Nat} {fs : List Value} {K : hX α} (h : M.1 a = some (.inl (t, n, .inr (.inr (.inr (.inr f)))))) (hi : ¬ (i < 0 ∨ n ≤ i.toNatClampNeg)) (hv : M.1 v = some (.inr (ci, fs))) : (b_astR a t ci i (some v) K).1 M = K.1 (hm_up M a (.inl (t, n, .inr (.inr (.inr (.inr (va_up f i.toNatClampNeg (some v)))))))) := by
  show (match hm_arr M a t with
    | some (n, .inr (.inr (.inr (.inr f)))) => if i < 0 ∨ n ≤ i.toNatClampNeg ∨ hm_okR M ci (some v) = false then none else K.1 (hm_up M a (.inl (t, n, .inr (.inr (.inr (.inr (va_up f i.toNatClampNeg (some v))))))))
    | _ => none) = _
  rw [r_arr h]
  refine if_neg ?_
  have e : hm_okR M ci (some v) = true := by show (hm_obj M v ci).isSome = true; rw [r_obj hv]; rfl
  rw [e]
  rintro (h1 | h1 | h1)
  · exact hi (Or.inl h1)
  · exact hi (Or.inr h1)
  · cases h1
theorem r_new {ci n : Nat} {fs : List Value} {K : Nat → hX α} : (b_new ci n fs K).1 M = (K M.2.1).1 (hm_nw M (.inr (ci, fs)) n) := rfl
theorem r_newa {t : Nat} {n : Int32} {K : Nat → hX α} (h : ¬ (n < 0 ∨ 60000000 < n.toNatClampNeg)) : (b_newa t n K).1 M = (K M.2.1).1 (hm_nw M (.inl (t, n.toNatClampNeg, .inl (fun _ => 0))) n.toNatClampNeg) := if_neg h
theorem r_newL {t : Nat} {n : Int32} {K : Nat → hX α} (h : ¬ (n < 0 ∨ 60000000 < n.toNatClampNeg)) : (b_newL t n K).1 M = (K M.2.1).1 (hm_nw M (.inl (t, n.toNatClampNeg, .inr (.inl (fun _ => 0)))) n.toNatClampNeg) := if_neg h
theorem r_newq {t : Nat} {n : Int32} {K : Nat → hX α} (h : ¬ (n < 0 ∨ 60000000 < n.toNatClampNeg)) : (b_newq t n K).1 M = (K M.2.1).1 (hm_nw M (.inl (t, n.toNatClampNeg, .inr (.inr (.inr (.inr (fun _ => none)))))) n.toNatClampNeg) := if_neg h
theorem r_if_t {c : Prop} [Decidable c] {A B : hX α} (hc : c) : (if c then A else B).1 M = A.1 M := by rw [if_pos hc]
theorem r_if_f {c : Prop} [Decidable c] {A B : hX α} (hc : ¬ c) : (if c then A else B).1 M = B.1 M := by rw [if_neg hc]
theorem r_nn {a : Nat} {K : Nat → hX α} : (b_nn (some a) K).1 M = (K a).1 M := rfl
theorem r_let {σ : Type} {J : σ} {body : σ → hX α} : (b_let J body).1 M = (body J).1 M := rfl
theorem up_s {a : Nat} {e : va_E} : (hm_up M a e).1 a = some e := if_pos rfl
theorem up_n {a b : Nat} {e : va_E} (h : b ≠ a) : (hm_up M a e).1 b = M.1 b := if_neg h
theorem up_up {a : Nat} {e e' : va_E} : hm_up (hm_up M a e) a e' = hm_up M a e' := by
  unfold hm_up
  refine Prod.ext ?_ rfl
  funext q
  by_cases h : q = a <;> simp [va_up, h]
theorem up_self {a : Nat} {e : va_E} (h : M.1 a = some e) : hm_up M a e = M := by
  unfold hm_up
  refine Prod.ext ?_ rfl
  funext q
  by_cases hq : q = a
  · subst hq; simp [va_up, h]
  · simp [va_up, hq]
theorem up_comm {a b : Nat} {e e' : va_E} (h : a ≠ b) : hm_up (hm_up M a e) b e' = hm_up (hm_up M b e') a e := by
  unfold hm_up
  refine Prod.ext ?_ rfl
  funext q
  by_cases h1 : q = a <;> by_cases h2 : q = b
  · exact absurd (h1.symm.trans h2) h
  · simp [va_up, h1, h]
  · simp [va_up, h2, Ne.symm h]
  · simp [va_up, h1, h2]
theorem nw_s {e : va_E} {n : Nat} : (hm_nw M e n).1 M.2.1 = some e := if_pos rfl
theorem nw_n {b n : Nat} {e : va_E} (h : b ≠ M.2.1) : (hm_nw M e n).1 b = M.1 b := if_neg h
end EV
