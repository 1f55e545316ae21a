/-! LAYER 2: rows as they are meant, and how the reference holds them -/
/-- the signs from s up to e -/
def wd (f : Nat → Int32) (s e : Nat) : List Int32 := (List.range (e - s)).map (fun j => f (s + j))
theorem wd_len {f : Nat → Int32} {s e : Nat} : (wd f s e).length = e - s := by unfold wd; rw [List.length_map, List.length_range]
theorem wd_get {f : Nat → Int32} {s e j : Nat} (h : j < e - s) : (wd f s e).getD j 0 = f (s + j) := by
  unfold wd
  rw [List.getD_eq_getElem?_getD, List.getElem?_map, List.getElem?_range h]; rfl
theorem wd_ext {f g : Nat → Int32} {s e : Nat} (h : ∀ j, j < e - s → f (s + j) = g (s + j)) : wd f s e = wd g s e := by
  unfold wd
  exact List.map_congr_left (fun j hj => h j (List.mem_range.mp hj))
/-- a row: KIND, SET, NAME, the other name, least, end, written differently -/
abbrev aR : Type := Nat × Int32 × List Int32 × List Int32 × Int64 × Int64 × Bool
/-- the signs w lie in A from b on -/
def nmI (A : Nat → Int32) (b : Nat) (w : List Int32) : Prop := ∀ j, j < w.length → A (b + j) = w.getD j 0
def RRow (s : rS) (r : Nat) (a : aR) : Prop := s.2.2.1 12 r = nI a.1 ∧ s.2.2.1 13 r = a.2.1 ∧ s.2.2.1 14 r = nI a.2.2.1.length ∧ nmI (s.2.2.1 16) (20 * r) a.2.2.1 ∧ s.2.2.1 15 r = nI a.2.2.2.1.length ∧ nmI (s.2.2.1 17) (20 * r) a.2.2.2.1 ∧ s.2.2.2 18 r = a.2.2.2.2.1 ∧ s.2.2.2 19 r = a.2.2.2.2.2.1 ∧ s.2.2.1 20 r = (if a.2.2.2.2.2.2 = true then 1 else 0)
/-- what belongs to packages below p, and what isn't read's -/
def lm (p : Nat) : Nat → Nat → Prop
  | 1, _ => True
  | 4, _ => True
  | 25, _ => True
  | 26, _ => True
  | 28, _ => True
  | 5, _ => True
  | 6, i => i < p
  | 7, i => i < p
  | 8, _ => True
  | 10, i => i < 5000 * p
  | 11, i => i < 250 * p
  | 12, i => i < 200 * p
  | 13, i => i < 200 * p
  | 14, i => i < 200 * p
  | 15, i => i < 200 * p
  | 20, i => i < 200 * p
  | 16, i => i < 4000 * p
  | 17, i => i < 4000 * p
  | _, _ => False
def lmL (p : Nat) : Nat → Nat → Prop
  | 2, _ => True
  | 3, _ => True
  | 9, _ => True
  | 18, i => i < 200 * p
  | 19, i => i < 200 * p
  | _, _ => False
/-- the reading of package p leaves all else -/
def kr (p : Nat) (s s' : rS) : Prop := (s'.1 2 = s.1 2 ∧ s'.1 11 = s.1 11 ∧ s'.1 39 = s.1 39 ∧ s'.1 43 = s.1 43) ∧ (∀ j i, lm p j i → s'.2.2.1 j i = s.2.2.1 j i) ∧ (∀ j i, lmL p j i → s'.2.2.2 j i = s.2.2.2 j i)
section KR
variable {N : Nat} {M : hM} {m p : Nat} {s s' s'' : rS} {f : Nat → Int32} {n k : Nat}
theorem kr.rf : kr p s s := ⟨⟨rfl, rfl, rfl, rfl⟩, fun _ _ _ => rfl, fun _ _ _ => rfl⟩
theorem kr.tr (h : kr p s s') (g : kr p s' s'') : kr p s s'' := ⟨⟨g.1.1.trans h.1.1, g.1.2.1.trans h.1.2.1, g.1.2.2.1.trans h.1.2.2.1, g.1.2.2.2.trans h.1.2.2.2⟩, fun j i c => (g.2.1 j i c).trans (h.2.1 j i c), fun j i c => (g.2.2 j i c).trans (h.2.2 j i c)⟩
theorem kq.r (h : kq s s') : kr p s s' := ⟨⟨h.2 2 (by omega) (by omega), h.2 11 (by omega) (by omega), h.2 39 (by omega) (by omega), h.2 43 (by omega) (by omega)⟩, fun j i _ => by rw [h.1], fun j i _ => by rw [h.1]⟩
theorem kr.tS (h : kr p s s') (g : tS s f n) : tS s' f n := ⟨h.1.1.trans g.1, g.2.1, g.2.2.1, by rw [← g.2.2.2]; funext i; exact h.2.1 1 i trivial⟩
/-- a scalar that is read's own is set -/
theorem kr_I {j : Nat} {x : Int32} (h : j ≠ 2 ∧ j ≠ 11 ∧ j ≠ 39 ∧ j ≠ 43) : kr p s (va_up s.1 j x, s.2) := ⟨⟨ua_n (by omega), ua_n (by omega), ua_n (by omega), ua_n (by omega)⟩, fun _ _ _ => rfl, fun _ _ _ => rfl⟩
theorem kr_A {j : Nat} {A : Nat → Int32} (h : ∀ i, lm p j i → A i = s.2.2.1 j i) : kr p s (s.1, s.2.1, va_up s.2.2.1 j A, s.2.2.2) := by
  refine ⟨⟨rfl, rfl, rfl, rfl⟩, fun j' i c => ?_, fun _ _ _ => rfl⟩
  show va_up s.2.2.1 j A j' i = s.2.2.1 j' i
  by_cases e : j' = j
  · subst e; rw [ua_s]; exact h i c
  · rw [ua_n e]
theorem kr_AL {j : Nat} {A : Nat → Int64} (h : ∀ i, lmL p j i → A i = s.2.2.2 j i) : kr p s (s.1, s.2.1, s.2.2.1, va_up s.2.2.2 j A) := by
  refine ⟨⟨rfl, rfl, rfl, rfl⟩, fun _ _ _ => rfl, fun j' i c => ?_⟩
  show va_up s.2.2.2 j A j' i = s.2.2.2 j' i
  by_cases e : j' = j
  · subst e; rw [ua_s]; exact h i c
  · rw [ua_n e]
/-- a piece of an array is written over -/
def cpA (A : Nat → Int32) (b L : Nat) (g : Nat → Int32) : Nat → Int32 := fun i => if b ≤ i ∧ i < b + L then g (i - b) else A i
theorem cpA_0 {A g : Nat → Int32} {b : Nat} : cpA A b 0 g = A := by
  funext i; unfold cpA; rw [if_neg (by omega)]
theorem cpA_s {A g : Nat → Int32} {b L : Nat} : va_up (cpA A b L g) (b + L) (g L) = cpA A b (L + 1) g := by
  funext i; unfold va_up cpA
  by_cases h : i = b + L
  · rw [if_pos h, if_pos (by omega), h, Nat.add_sub_cancel_left]
  · rw [if_neg h]
    by_cases h2 : b ≤ i ∧ i < b + L
    · rw [if_pos h2, if_pos (by omega)]
    · rw [if_neg h2, if_neg (by omega)]
theorem cpA_in {A g : Nat → Int32} {b L j : Nat} (h : j < L) : cpA A b L g (b + j) = g j := by
  unfold cpA; rw [if_pos (by omega), Nat.add_sub_cancel_left]
theorem cpA_out {A g : Nat → Int32} {b L i : Nat} (h : i < b ∨ b + L ≤ i) : cpA A b L g i = A i := by
  unfold cpA; rw [if_neg (by omega)]
theorem nar_byte {c : Int32} : vp_nar .byte c = sx c := rfl
theorem sx_sx {c : Int32} : sx (sx c) = sx c := by unfold sx; rw [Int8.toInt8_toInt32]
theorem m_copy {tj Z b L t : Nat} (ht : tj ≠ 1) (hZ : Z < 2 ^ 31) (hst : ∀ (i x : Int32) (K : hX Unit) (s : rS), ¬ (i < 0 ∨ Z ≤ i.toNatClampNeg) → (b_ast (m + tj) 6 i x K).1 (ov M m s) = K.1 (ov M m (s.1, s.2.1, va_up s.2.2.1 tj (va_up (s.2.2.1 tj) i.toNatClampNeg x), s.2.2.2)))
    (hx : s.2.2.1 1 = tx f) (hb : b + L ≤ 2000) (htz : t + L ≤ Z) : ∀ (d fu i : Nat), d + i = L → d < fu →
    (f_MD_copyName_3 N m (nI b) (nI L) (some (m + tj)) (nI t) fu (nI i)).1 (ov M m (s.1, s.2.1, va_up s.2.2.1 tj (cpA (s.2.2.1 tj) t i (fun j => tx f (b + j))), s.2.2.2)) = some ((), ov M m (s.1, s.2.1, va_up s.2.2.1 tj (cpA (s.2.2.1 tj) t L (fun j => tx f (b + j))), s.2.2.2)) := by
  intro d
  induction d with
  | zero =>
    intro fu i hd hfu
    obtain ⟨fu, rfl⟩ : ∃ g, fu = g + 1 := ⟨fu - 1, by omega⟩
    rw [e_MD_copyName_3, r_if_t (show nI L ≤ nI i from nI_le (by omega) (by omega)), show i = L by omega]
    rfl
  | succ d ih =>
    intro fu i hd hfu
    obtain ⟨fu, rfl⟩ : ∃ g, fu = g + 1 := ⟨fu - 1, by omega⟩
    rw [e_MD_copyName_3, r_if_f (show ¬ nI L ≤ nI i from nI_ge (by omega) (by omega))]
    have h2 : ¬ (nI (b + i) < 0 ∨ 2000 ≤ (nI (b + i)).toNatClampNeg) := nI_in (by omega) (by decide)
    have h3 := nI_clamp (n := b + i) (by omega)
    have h5 : ¬ (nI (t + i) < 0 ∨ Z ≤ (nI (t + i)).toNatClampNeg) := nI_in (by omega) hZ
    have h6 := nI_clamp (n := t + i) (by omega)
    have e1 : va_up s.2.2.1 tj (cpA (s.2.2.1 tj) t i (fun j => tx f (b + j))) 1 = tx f := (ua_n (Ne.symm ht)).trans hx
    simp only [mR_1, r_nn, nI_add, mA_1 h2, h3, e1]
    rw [hst _ _ _ _ h5]
    simp only [h6, ua_s, ua_ua, nar_byte]
    rw [show sx (tx f (b + i)) = (fun j => tx f (b + j)) i from sx_sx, cpA_s, nI_1]
    exact ih fu (i + 1) (by omega) (by omega)
theorem m_copyName {tj Z b L t : Nat} (hN : 2001 ≤ N) (ht : tj ≠ 1) (hZ : Z < 2 ^ 31) (hst : ∀ (i x : Int32) (K : hX Unit) (s : rS), ¬ (i < 0 ∨ Z ≤ i.toNatClampNeg) → (b_ast (m + tj) 6 i x K).1 (ov M m s) = K.1 (ov M m (s.1, s.2.1, va_up s.2.2.1 tj (va_up (s.2.2.1 tj) i.toNatClampNeg x), s.2.2.2)))
    (hx : s.2.2.1 1 = tx f) (hb : b + L ≤ 2000) (htz : t + L ≤ Z) : (f_MD_copyName N m (nI b) (nI L) (some (m + tj)) (nI t)).1 (ov M m s) = some ((), ov M m (s.1, s.2.1, va_up s.2.2.1 tj (cpA (s.2.2.1 tj) t L (fun j => tx f (b + j))), s.2.2.2)) := by
  have := m_copy (N := N) (M := M) (m := m) (s := s) (f := f) ht hZ hst hx hb htz L N 0 (by omega) (by omega)
  rw [cpA_0, ua_self rfl] at this
  exact this
end KR
