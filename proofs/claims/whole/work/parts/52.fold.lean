/-! LAYER 2: names FOLDED and compared -/
def lw (c : Int32) : Int32 := if 65 ≤ c ∧ c ≤ 90 then c + 32 else c
/-- FOLDED, behind a bar or not -/
def fd : Bool → List Int32 → List Int32
  | _, [] => []
  | b, c :: t => if cB c then (if b = true then fd true t else 45 :: fd true t) else lw c :: fd false t
def fold (w : List Int32) : List Int32 := fd false w
def cmpL : List Int32 → List Int32 → Int32
  | [], ys => nI 0 - nI ys.length
  | x :: xs, [] => nI (x :: xs).length - nI 0
  | x :: xs, y :: ys => if x = y then cmpL xs ys else x - y
def cmpN (x y : List Int32) : Int32 := cmpL (fold x) (fold y)
/-- a name's signs: letters, digits, bars; a letter first -/
def wfN (w : List Int32) : Prop := w.length ≤ 20 ∧ (∀ c, c ∈ w → (cL c ∨ cD c ∨ cB c) ∧ ∃ b : Nat, b < 128 ∧ c = nI b) ∧ ¬ cB (w.getD 0 0)
section FOLD
variable {N : Nat} {M : hM} {m p : Nat} {s s' s'' : rS}
theorem fd_len : ∀ (w : List Int32) (b : Bool), (fd b w).length ≤ w.length
  | [], b => by unfold fd; exact Nat.le_refl _
  | c :: t, b => by
    have h1 := fd_len t true
    have h2 := fd_len t false
    unfold fd
    split
    · split
      · show _ ≤ t.length + 1; omega
      · show (fd true t).length + 1 ≤ t.length + 1; omega
    · show (fd false t).length + 1 ≤ t.length + 1; omega
theorem cpA_cons {A : Nat → Int32} {c : Nat} {x : Int32} {l : List Int32} : cpA (va_up A c x) (c + 1) l.length (fun j => l.getD j 0) = cpA A c (x :: l).length (fun j => (x :: l).getD j 0) := by
  funext i
  unfold cpA va_up
  show _ = if c ≤ i ∧ i < c + (l.length + 1) then _ else _
  by_cases h : i = c
  · rw [if_neg (by omega), if_pos h, if_pos (by omega), h, Nat.sub_self]; rfl
  · rw [if_neg h]
    by_cases h2 : c + 1 ≤ i ∧ i < c + 1 + l.length
    · rw [if_pos h2, if_pos (by omega)]
      obtain ⟨d, hd⟩ : ∃ d, i - c = d + 1 := ⟨i - c - 1, by omega⟩
      rw [hd, show i - (c + 1) = d by omega]; rfl
    · rw [if_neg h2, if_neg (by omega)]
theorem cpA_nil {A : Nat → Int32} {c : Nat} : cpA A c ([] : List Int32).length (fun j => ([] : List Int32).getD j 0) = A := cpA_0
theorem lw_dec : ∀ b : Fin 128, vp_nar .byte ((lw (nI b.val)).toInt8.toInt32) = lw (nI b.val) := by decide +kernel
theorem drop_cons {w : List Int32} {i : Nat} (h : i < w.length) : w.drop i = w.getD i 0 :: w.drop (i + 1) := by
  rw [List.drop_eq_getElem_cons h, List.getD_eq_getElem?_getD, List.getElem?_eq_getElem h]; rfl
theorem m_fold_loop {sj dj Z b : Nat} {w : List Int32} (hne : sj ≠ dj) (hZ : Z < 2 ^ 31)
    (hld : ∀ (i : Int32) (K : Int32 → hX Int32) (s : rS), ¬ (i < 0 ∨ Z ≤ i.toNatClampNeg) → (b_ald (m + sj) 6 i K).1 (ov M m s) = (K (s.2.2.1 sj i.toNatClampNeg)).1 (ov M m s))
    (hst : ∀ (i x : Int32) (K : hX Int32) (s : rS), ¬ (i < 0 ∨ 20 ≤ i.toNatClampNeg) → (b_ast (m + dj) 6 i x K).1 (ov M m s) = K.1 (ov M m (s.1, s.2.1, va_up s.2.2.1 dj (va_up (s.2.2.1 dj) i.toNatClampNeg x), s.2.2.2)))
    (hw : wfN w) (hb : b + w.length ≤ Z) (hnm : nmI (s.2.2.1 sj) b w) : ∀ (d fu i c : Nat) (A : Nat → Int32), d + i = w.length → d < fu → c ≤ i →
    (f_MD_folded_6 N (some (m + sj)) (nI b) (nI w.length) (some (m + dj)) fu (nI c) (nI i)).1 (ov M m (s.1, s.2.1, va_up s.2.2.1 dj A, s.2.2.2)) = some (nI (c + (fd (decide (cB (w.getD (i - 1) 0))) (w.drop i)).length), ov M m (s.1, s.2.1, va_up s.2.2.1 dj (cpA A c (fd (decide (cB (w.getD (i - 1) 0))) (w.drop i)).length (fun j => (fd (decide (cB (w.getD (i - 1) 0))) (w.drop i)).getD j 0)), s.2.2.2)) := by
  have hl := hw.1
  intro d
  induction d with
  | zero =>
    intro fu i c A h1 h2 h3
    obtain ⟨fu, rfl⟩ : ∃ g, fu = g + 1 := ⟨fu - 1, by omega⟩
    have e0 : fd (decide (cB (w.getD (i - 1) 0))) (w.drop i) = [] := by rw [List.drop_eq_nil_of_le (by omega)]; unfold fd; rfl
    rw [e0, cpA_nil, e_MD_folded_6, r_let, r_let, r_let, r_if_t (show nI w.length ≤ nI i from nI_le (by omega) (by omega))]
    rfl
  | succ d ih =>
    intro fu i c A h1 h2 h3
    obtain ⟨fu, rfl⟩ : ∃ g, fu = g + 1 := ⟨fu - 1, by omega⟩
    have hi : i < w.length := by omega
    have hmem : w.getD i 0 ∈ w := by rw [List.getD_eq_getElem?_getD, List.getElem?_eq_getElem hi]; exact List.getElem_mem hi
    obtain ⟨hch, b0, hb0, eb0⟩ := hw.2.1 _ hmem
    have h5 : ¬ (nI (b + i) < 0 ∨ Z ≤ (nI (b + i)).toNatClampNeg) := nI_in (by omega) hZ
    have h6 := nI_clamp (n := b + i) (by omega)
    have h7 : ¬ (nI c < 0 ∨ 20 ≤ (nI c).toNatClampNeg) := nI_in (by omega) (by decide)
    have h8 := nI_clamp (n := c) (by omega)
    have eA : ∀ A, va_up s.2.2.1 dj A sj (b + i) = w.getD i 0 := fun A => by rw [ua_n hne]; exact hnm i hi
    have nx : ∀ (c' : Nat) (A' : Nat → Int32), c' ≤ i + 1 → (f_MD_folded_6 N (some (m + sj)) (nI b) (nI w.length) (some (m + dj)) fu (nI c') (nI i + 1)).1 (ov M m (s.1, s.2.1, va_up s.2.2.1 dj A', s.2.2.2)) = some (nI (c' + (fd (decide (cB (w.getD i 0))) (w.drop (i + 1))).length), ov M m (s.1, s.2.1, va_up s.2.2.1 dj (cpA A' c' (fd (decide (cB (w.getD i 0))) (w.drop (i + 1))).length (fun j => (fd (decide (cB (w.getD i 0))) (w.drop (i + 1))).getD j 0)), s.2.2.2)) := by
      intro c' A' hc'
      have := ih fu (i + 1) c' A' (by omega) (by omega) hc'
      rw [nI_1]
      exact this
    rw [e_MD_folded_6, r_let, r_let, r_let, r_if_f (show ¬ nI w.length ≤ nI i from nI_ge (by omega) (by omega)), r_nn, nI_add, hld _ _ _ h5]
    simp only [h6, eA, r_callE, s_isDash, Option.bind_some]
    rw [drop_cons hi]
    by_cases c1 : cB (w.getD i 0)
    · rw [bI_t c1, r_if_f (show ¬ (1 : Int32) = 0 by decide)]
      have hi1 : 1 ≤ i := by
        rcases Nat.eq_zero_or_pos i with z | z
        · subst z; exact absurd c1 hw.2.2
        · exact z
      have h9 : ¬ (nI (b + i - 1) < 0 ∨ Z ≤ (nI (b + i - 1)).toNatClampNeg) := nI_in (by omega) hZ
      have h10 := nI_clamp (n := b + i - 1) (by omega)
      have eB : va_up s.2.2.1 dj A sj (b + i - 1) = w.getD (i - 1) 0 := by
        rw [ua_n hne, show b + i - 1 = b + (i - 1) by omega]; exact hnm (i - 1) (by omega)
      rw [show nI (b + i) - 1 = nI (b + i - 1) from pk_sub (b := 1) (by omega), hld _ _ _ h9]
      simp only [h10, eB, r_callE, s_isDash, Option.bind_some]
      have n1 := nx (c + 1) (va_up A c 45) (by omega)
      have n0 := nx c A (by omega)
      rw [show decide (cB (w.getD i 0)) = true from decide_eq_true c1] at n1 n0
      have eF : ∀ bb, fd bb (w.getD i 0 :: w.drop (i + 1)) = if bb = true then fd true (w.drop (i + 1)) else 45 :: fd true (w.drop (i + 1)) := fun bb => by
        show (if cB (w.getD i 0) then _ else _) = _
        rw [if_pos c1]
      rw [eF]
      by_cases c2 : cB (w.getD (i - 1) 0)
      · rw [bI_t c2, r_if_f (show ¬ (1 : Int32) = 0 by decide), decide_eq_true c2, if_pos rfl]
        exact n0
      · rw [bI_f c2, r_if_t rfl, decide_eq_false c2, if_neg (by decide), r_nn, hst _ _ _ _ h7]
        dsimp only
        rw [h8, ua_s, ua_ua, show vp_nar .byte 45 = 45 from rfl, nI_1, n1, cpA_cons]
        rw [show c + 1 + (fd true (w.drop (i + 1))).length = c + (45 :: fd true (w.drop (i + 1))).length from by show _ = c + ((fd true (w.drop (i + 1))).length + 1); omega]
    · rw [bI_f c1, r_if_t rfl]
      have n1 := nx (c + 1) (va_up A c (lw (w.getD i 0))) (by omega)
      rw [show decide (cB (w.getD i 0)) = false from decide_eq_false c1] at n1
      have eF : ∀ bb, fd bb (w.getD i 0 :: w.drop (i + 1)) = lw (w.getD i 0) :: fd false (w.drop (i + 1)) := fun bb => by
        show (if cB (w.getD i 0) then _ else _) = _
        rw [if_neg c1]
      rw [eF]
      have fin : ∀ v, v = lw (w.getD i 0) → (b_nn (some (m + dj)) (fun a1 => b_ast a1 6 (nI c) (vp_nar .byte ((v : Int32).toInt8.toInt32)) (f_MD_folded_6 N (some (m + sj)) (nI b) (nI w.length) (some (m + dj)) fu (nI c + 1) (nI i + 1)))).1 (ov M m (s.1, s.2.1, va_up s.2.2.1 dj A, s.2.2.2)) = some (nI (c + (lw (w.getD i 0) :: fd false (w.drop (i + 1))).length), ov M m (s.1, s.2.1, va_up s.2.2.1 dj (cpA A c (lw (w.getD i 0) :: fd false (w.drop (i + 1))).length (fun j => (lw (w.getD i 0) :: fd false (w.drop (i + 1))).getD j 0)), s.2.2.2)) := by
        intro v hv
        have en : vp_nar .byte ((lw (w.getD i 0)).toInt8.toInt32) = lw (w.getD i 0) := by rw [eb0]; exact lw_dec ⟨b0, hb0⟩
        rw [hv, r_nn, en, hst _ _ _ _ h7]
        dsimp only
        rw [h8, ua_s, ua_ua, nI_1, n1, cpA_cons]
        rw [show c + 1 + (fd false (w.drop (i + 1))).length = c + (lw (w.getD i 0) :: fd false (w.drop (i + 1))).length from by show _ = c + ((fd false (w.drop (i + 1))).length + 1); omega]
      by_cases c3 : w.getD i 0 < 65
      · rw [r_if_t c3]
        exact fin _ (show w.getD i 0 = lw (w.getD i 0) by unfold lw; rw [if_neg (fun z => absurd (Int32.lt_of_lt_of_le c3 z.1) Int32.lt_irrefl)])
      · rw [r_if_f c3]
        by_cases c4 : 90 < w.getD i 0
        · rw [r_if_t c4]
          exact fin _ (show w.getD i 0 = lw (w.getD i 0) by unfold lw; rw [if_neg (fun z => absurd (Int32.lt_of_lt_of_le c4 z.2) Int32.lt_irrefl)])
        · rw [r_if_f c4]
          exact fin _ (show w.getD i 0 + 32 = lw (w.getD i 0) by unfold lw; rw [if_pos ⟨Int32.not_lt.mp c3, Int32.not_lt.mp c4⟩])
end FOLD
