/-! LAYER 2: what has been read so far, and how the reference holds it -/
/-- rows with the places of their names; features as they came; sets -/
abbrev aP : Type := List (aR × Nat) × List (List Int32) × Nat
def RR (s : rS) (r : Nat) (a : aR) : Prop := RRow s r a ∧ a.2.2.1.length ≤ 20 ∧ a.2.2.2.1.length ≤ 20
def kdf (i : Nat) : Nat := if i = 0 then 0 else i + 4
def ktx (i : Nat) : Nat := if i = 0 then 12 else i
def ntx (i : Nat) : Nat := if i = 0 then 17 else i + 12
/-- the reference's tables of words -/
def cS (s : rS) : Prop := (∀ i, i < 12 → s.2.2.2 3 i = kC (ktx i) ∧ s.2.2.1 4 i = nI (kdf i)) ∧ (∀ i, i < 5 → s.2.2.2 2 i = kC (ntx i))
def FF (s : rS) (r : Nat) (w : List Int32) : Prop := s.2.2.1 11 r = nI w.length ∧ nmI (s.2.2.1 10) (20 * r) w ∧ w.length ≤ 20
def dfl (st : aP) : List (aR × Nat) := st.1.filter (fun x => x.1.1 == 10)
def PD (s : rS) (D : List (aR × Nat)) : Prop := s.1 34 = nI D.length ∧ ∀ i x, D[i]? = some x → s.2.2.1 21 i = nI x.2 ∧ s.2.2.1 22 i = nI x.1.2.2.1.length
def PI0 (p : Nat) (s : rS) (st : aP) : Prop := s.1 11 = nI p ∧ p ≤ 40 ∧ s.1 28 = nI st.1.length ∧ st.1.length ≤ 200 ∧ s.1 29 = nI st.2.2 ∧ (∀ i x, st.1[i]? = some x → RR s (200 * p + i) x.1) ∧ s.2.2.1 7 p = nI st.2.1.length ∧ (∀ i w, st.2.1[i]? = some w → FF s (250 * p + i) w) ∧ cS s
def PI (p : Nat) (s : rS) (st : aP) : Prop := PI0 p s st ∧ PD s (dfl st)
section PST
variable {N : Nat} {M : hM} {m p : Nat} {s s' s'' : rS} {f : Nat → Int32} {n k : Nat} {st : aP}
theorem RRow_of {r : Nat} {a : aR} (h : RRow s r a) (e1 : s'.2.2 = s.2.2) : RRow s' r a := by unfold RRow at *; rw [e1]; exact h
theorem PI0.q (h : PI0 p s st) (g : kq s s') : PI0 p s' st := by
  obtain ⟨a1, a2, a3, a4, a5, a6, a7, a8, a9⟩ := h
  refine ⟨(g.2 11 (by omega) (by omega)).trans a1, a2, (g.2 28 (by omega) (by omega)).trans a3, a4, (g.2 29 (by omega) (by omega)).trans a5, fun i x hx => ⟨RRow_of (a6 i x hx).1 g.1, (a6 i x hx).2⟩, by rw [g.1]; exact a7, fun i w hw => ?_, ?_⟩
  · unfold FF; rw [g.1]; exact a8 i w hw
  · unfold cS; rw [g.1]; exact a9
theorem PD.q {D : List (aR × Nat)} (h : PD s D) (g : kq s s') : PD s' D := by
  refine ⟨(g.2 34 (by omega) (by omega)).trans h.1, fun i x hx => ?_⟩
  rw [g.1]; exact h.2 i x hx
theorem PI.q (h : PI p s st) (g : kq s s') : PI p s' st := ⟨h.1.q g, h.2.q g⟩
theorem RR_keep {r r' : Nat} {a : aR} (h : RR s r' a) (h1 : ∀ j i, ¬ tch r j i → s'.2.2.1 j i = s.2.2.1 j i) (h2 : ∀ j i, ¬ tchL r j i → s'.2.2.2 j i = s.2.2.2 j i) (hr : r' ≠ r) : RR s' r' a := by
  obtain ⟨⟨a1, a2, a3, a4, a5, a6, a7, a8, a9⟩, b1, b2⟩ := h
  refine ⟨⟨?_, ?_, ?_, ?_, ?_, ?_, ?_, ?_, ?_⟩, b1, b2⟩
  · rw [h1 12 r' (by unfold tch; omega)]; exact a1
  · rw [h1 13 r' (by unfold tch; omega)]; exact a2
  · rw [h1 14 r' (by unfold tch; omega)]; exact a3
  · intro j hj; rw [h1 16 _ (by unfold tch; omega)]; exact a4 j hj
  · rw [h1 15 r' (by unfold tch; omega)]; exact a5
  · intro j hj; rw [h1 17 _ (by unfold tch; omega)]; exact a6 j hj
  · rw [h2 18 r' (by unfold tchL; omega)]; exact a7
  · rw [h2 19 r' (by unfold tchL; omega)]; exact a8
  · rw [h1 20 r' (by unfold tch; omega)]; exact a9
theorem lm_t {r j i : Nat} (hr : 200 * p ≤ r) (h : lm p j i) : ¬ tch r j i := by
  intro c
  rcases c with ⟨e | e | e | e | e, hi⟩ | ⟨e | e, hi⟩ <;> subst e
  · have : i < 200 * p := h; omega
  · have : i < 200 * p := h; omega
  · have : i < 200 * p := h; omega
  · have : i < 200 * p := h; omega
  · have : i < 200 * p := h; omega
  · have : i < 4000 * p := h; omega
  · have : i < 4000 * p := h; omega
theorem lmL_t {r j i : Nat} (hr : 200 * p ≤ r) (h : lmL p j i) : ¬ tchL r j i := by
  intro c
  rcases c with ⟨e | e, hi⟩ <;> subst e
  · have : i < 200 * p := h; omega
  · have : i < 200 * p := h; omega
theorem app_get {α : Type} {l : List α} {x y : α} {i : Nat} (h : (l ++ [x])[i]? = some y) : l[i]? = some y ∨ (i = l.length ∧ y = x) := by
  by_cases c : i < l.length
  · left; rw [List.getElem?_append_left c] at h; exact h
  · right
    rw [List.getElem?_append_right (by omega)] at h
    by_cases c2 : i - l.length = 0
    · rw [c2] at h
      exact ⟨by omega, by cases h; rfl⟩
    · rw [List.getElem?_eq_none (by show 1 ≤ i - l.length; omega)] at h; cases h
theorem PI0.add {a : aR} {pl : Nat} (h : PI0 p s st) (hl : st.1.length < 200) (e1 : s'.1 = va_up s.1 28 (nI (st.1.length + 1))) (hR : RR s' (200 * p + st.1.length) a) (h1 : ∀ j i, ¬ tch (200 * p + st.1.length) j i → s'.2.2.1 j i = s.2.2.1 j i) (h2 : ∀ j i, ¬ tchL (200 * p + st.1.length) j i → s'.2.2.2 j i = s.2.2.2 j i) : PI0 p s' (st.1 ++ [(a, pl)], st.2) ∧ kr p s s' := by
  obtain ⟨a1, a2, a3, a4, a5, a6, a7, a8, a9⟩ := h
  refine ⟨⟨?_, a2, ?_, ?_, ?_, ?_, ?_, ?_, ?_⟩, ?_⟩
  · rw [e1]; exact a1
  · rw [e1, List.length_append]; rfl
  · rw [List.length_append]; show st.1.length + 1 ≤ 200; omega
  · rw [e1]; exact a5
  · intro i x hx
    rcases app_get hx with c | ⟨c1, c2⟩
    · have hi : i < st.1.length := (List.getElem?_eq_some_iff.mp c).1
      exact RR_keep (a6 i x c) h1 h2 (by omega)
    · rw [c1, c2]; exact hR
  · rw [h1 7 p (by unfold tch; omega)]; exact a7
  · intro i w hw
    obtain ⟨b1, b2, b3⟩ := a8 i w hw
    refine ⟨?_, ?_, b3⟩
    · rw [h1 11 _ (by unfold tch; omega)]; exact b1
    · intro j hj; rw [h1 10 _ (by unfold tch; omega)]; exact b2 j hj
  · refine ⟨fun i hi => ⟨?_, ?_⟩, fun i hi => ?_⟩
    · rw [h2 3 i (by unfold tchL; omega)]; exact (a9.1 i hi).1
    · rw [h1 4 i (by unfold tch; omega)]; exact (a9.1 i hi).2
    · rw [h2 2 i (by unfold tchL; omega)]; exact a9.2 i hi
  · refine ⟨⟨by rw [e1]; rfl, by rw [e1]; rfl, by rw [e1]; rfl, by rw [e1]; rfl⟩, fun j i c => h1 j i (lm_t (by omega) c), fun j i c => h2 j i (lmL_t (by omega) c)⟩
theorem PD.add {D : List (aR × Nat)} (h : PD s D) (e1 : s'.1 34 = s.1 34) (h1 : ∀ i, s'.2.2.1 21 i = s.2.2.1 21 i) (h2 : ∀ i, s'.2.2.1 22 i = s.2.2.1 22 i) : PD s' D := ⟨e1.trans h.1, fun i x hx => ⟨(h1 i).trans (h.2 i x hx).1, (h2 i).trans (h.2 i x hx).2⟩⟩
theorem dfl_add {a : aR} {pl : Nat} (h : a.1 ≠ 10) : dfl (st.1 ++ [(a, pl)], st.2) = dfl st := by
  unfold dfl
  rw [List.filter_append]
  have : ([(a, pl)] : List (aR × Nat)).filter (fun x => x.1.1 == 10) = [] := by
    rw [List.filter_cons]
    have e : (a.1 == 10) = false := by rw [beq_eq_false_iff_ne]; exact h
    rw [if_neg (by rw [e]; decide)]; rfl
  rw [this, List.append_nil]
theorem dfl_add10 {a : aR} {pl : Nat} (h : a.1 = 10) : dfl (st.1 ++ [(a, pl)], st.2) = dfl st ++ [(a, pl)] := by
  unfold dfl
  rw [List.filter_append]
  have : ([(a, pl)] : List (aR × Nat)).filter (fun x => x.1.1 == 10) = [(a, pl)] := by
    rw [List.filter_cons]
    have e : (a.1 == 10) = true := by rw [beq_iff_eq]; exact h
    rw [if_pos e]; rfl
  rw [this]
/-- a row is added, of the text from b to e and from b2 to e2 -/
theorem m_add {kd b L b2 L2 q0 : Nat} {lo hi : Int64} {nm nm2 : List Int32} (hN : 2001 ≤ N) (hS : tS s f n) (h7 : s.1 7 = 0) (hP : PI0 p s st) (h31 : s.1 31 = nI kd) (hkd : kd < 16) (h30 : s.1 30 = nI q0) (hb : b + L ≤ 2000) (hL : L ≤ 20) (hb2 : b2 + L2 ≤ 2000) (hL2 : L2 ≤ 20) (e1 : wd (tx f) b (b + L) = nm) (e2 : wd (tx f) b2 (b2 + L2) = nm2) (pl : Nat) :
    if st.1.length = 200 then ∃ s', (f_MD_addRow N m (nI b) (nI L) (nI b2) (nI L2) lo hi).1 (ov M m s) = some (0, ov M m s') ∧ kr p s s' ∧ s'.1 7 = wr q0
    else ∃ s', (f_MD_addRow N m (nI b) (nI L) (nI b2) (nI L2) lo hi).1 (ov M m s) = some (1, ov M m s') ∧ kr p s s' ∧ (∀ j, j ≠ 28 → s'.1 j = s.1 j) ∧ PI0 p s' (st.1 ++ [((kd, if kd = 8 then nI st.2.2 else -1, nm, nm2, lo, hi, false), pl)], st.2) ∧ (∀ i, s'.2.2.1 21 i = s.2.2.1 21 i) ∧ (∀ i, s'.2.2.1 22 i = s.2.2.1 22 i) := by
  have hP' := hP
  obtain ⟨a1, a2, a3, a4, a5, a6, a7, a8, a9⟩ := hP
  by_cases c : st.1.length = 200
  · rw [if_pos c]
    exact ⟨_, m_addFull h7 (by rw [a3, c]) h30, kr_I (j := 7) (by omega), rfl⟩
  · rw [if_neg c]
    obtain ⟨s', r1, r2, r3, r4, r5, r6⟩ := m_addRow (N := N) (M := M) (m := m) (lo := lo) (hi := hi) hN hS h7 a3 (by omega) a1 a2 h31 hkd hb hL hb2 hL2
    rw [e1, e2, a5] at r4
    have ln1 : nm.length ≤ 20 := by rw [← e1, wd_len]; omega
    have ln2 : nm2.length ≤ 20 := by rw [← e2, wd_len]; omega
    obtain ⟨g1, g2⟩ := PI0.add (pl := pl) hP' (by omega) r2 ⟨r4, ln1, ln2⟩ r5 r6
    exact ⟨s', r1, g2, fun j hj => by rw [r2]; exact ua_n hj, g1, fun i => r5 21 i (by unfold tch; omega), fun i => r5 22 i (by unfold tch; omega)⟩
end PST
