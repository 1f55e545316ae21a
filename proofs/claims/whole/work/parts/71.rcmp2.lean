/-! LAYER 2: rows compared, in the reference; same and differ -/
def chT (tl : Bool) (ch : List (Nat × Nat)) (w : Nat) (l : List Nat) : List (Nat × Nat) := if tl = true then ch ++ l.map (fun i => (w, i)) else ch
section RCMP2
variable {N : Nat} {M : hM} {m p : Nat} {s s' s'' : rS} {f : Nat → Int32} {n : Nat} {pk : List aPk} {ch : List (Nat × Nat)} {pr : List Int32}
theorem alI_len : ∀ (i : Nat) (l : List Bool), (alI i l).length ≤ l.length
  | _, [] => Nat.le_refl _
  | i, b :: l => by
    unfold alI
    have := alI_len (i + 1) l
    split
    · show _ ≤ l.length + 1; omega
    · show (alI (i + 1) l).length + 1 ≤ l.length + 1; omega
theorem prL_len {lb : List aR} : ∀ (la : List aR) (t : List Bool), (prL lb la t).1.length = la.length ∧ (prL lb la t).2.length = t.length
  | [], t => ⟨rfl, rfl⟩
  | x :: xs, t => by
    unfold prL
    cases ffn x lb t 0 with
    | none => have := prL_len (lb := lb) xs t; exact ⟨by show _ + 1 = _ + 1; omega, this.2⟩
    | some j =>
      have := prL_len (lb := lb) xs (t.set j true)
      rw [List.length_set] at this
      exact ⟨by show _ + 1 = _ + 1; omega, this.2⟩
theorem chT_len {tl : Bool} {w : Nat} {l : List Nat} : (chT tl ch w l).length ≤ ch.length + l.length := by
  unfold chT; split
  · rw [List.length_append, List.length_map]; exact Nat.le_refl _
  · omega
theorem chT_nil {tl : Bool} {w : Nat} : chT tl ch w [] = ch := by
  unfold chT; split
  · exact List.append_nil _
  · rfl
theorem chT_cons {tl : Bool} {w i : Nat} {l : List Nat} : chT tl (if tl = true then ch ++ [(w, i)] else ch) w l = chT tl ch w (i :: l) := by
  unfold chT
  cases tl
  · rfl
  · simp
theorem m_143 {qa qb : Nat} {B : aPk} {tl : Bool} (hb : pk[qb]? = some B) {t : List Bool} (ht : t.length = B.2.2.2.length) : ∀ (d fu j c : Nat) (ch : List (Nat × Nat)) (s : rS), d + j = B.2.2.2.length → d < fu → c + d ≤ 1000 → (tl = true → ch.length + d ≤ 400) → RInv s f n pk ch pr → TK s t →
    ∃ s', (f_MD_compareRows_143 N m (nI qa) (nI qb) (bZ tl) fu (nI c) (nI j)).1 (ov M m s) = some (nI (c + (alI j (t.drop j)).length), ov M m s') ∧ RInv s' f n pk (chT tl ch 1 (alI j (t.drop j))) pr := by
  intro d
  induction d with
  | zero =>
    intro fu j c ch s h1 h2 h3 h4 hI hT
    obtain ⟨fu, rfl⟩ : ∃ g, fu = g + 1 := ⟨fu - 1, by omega⟩
    have hB := hI.2.2.2.2.1 qb B hb
    have hqb := (List.getElem?_eq_some_iff.mp hb).1
    have h40 := hI.2.2.1
    have hl := hB.2.2.2.2.2.1
    have ip : ¬ (nI qb < 0 ∨ 41 ≤ (nI qb).toNatClampNeg) := nI_in (by omega) (by decide)
    have cp := nI_clamp (n := qb) (by omega)
    rw [List.drop_eq_nil_of_le (show t.length ≤ j by omega)]
    rw [show alI j [] = [] from by unfold alI; rfl, chT_nil]
    refine ⟨s, ?_, hI⟩
    rw [e_MD_compareRows_143, r_let]
    simp only [mR_13, r_nn, mA_6 ip, cp, hB.2.2.2.2.1, show nI B.2.2.2.length ≤ nI j from nI_le (by omega) (by omega), if_true]
    rfl
  | succ d ih =>
    intro fu j c ch s h1 h2 h3 h4 hI hT
    obtain ⟨fu, rfl⟩ : ∃ g, fu = g + 1 := ⟨fu - 1, by omega⟩
    have hB := hI.2.2.2.2.1 qb B hb
    have hqb := (List.getElem?_eq_some_iff.mp hb).1
    have h40 := hI.2.2.1
    have hl := hB.2.2.2.2.2.1
    have ip : ¬ (nI qb < 0 ∨ 41 ≤ (nI qb).toNatClampNeg) := nI_in (by omega) (by decide)
    have cp := nI_clamp (n := qb) (by omega)
    have htj : t[j]? = some t[j] := List.getElem?_eq_getElem (by omega)
    have e27 := hT.2 j _ htj
    have i1 : ¬ (nI j < 0 ∨ 200 ≤ (nI j).toNatClampNeg) := nI_in (by omega) (by decide)
    have c1 := nI_clamp (n := j) (by omega)
    rw [List.drop_eq_getElem_cons (show j < t.length by omega)]
    rw [show alI j (t[j] :: t.drop (j + 1)) = if t[j] = true then alI (j + 1) (t.drop (j + 1)) else j :: alI (j + 1) (t.drop (j + 1)) from rfl]
    rw [e_MD_compareRows_143, r_let]
    simp only [mR_13, r_nn, mA_6 ip, cp, hB.2.2.2.2.1, show ¬ nI B.2.2.2.length ≤ nI j from nI_ge (by omega) (by omega), if_false, mR_42, mA_27 i1, c1, e27]
    by_cases d1 : t[j] = true
    · rw [d1, r_if_f (show ¬ bZ true = 0 by decide), if_pos rfl, nI_1]
      exact ih fu (j + 1) c ch s (by omega) (by omega) (by omega) (fun z => by have := h4 z; omega) hI hT
    · have d1' : t[j] = false := by cases h : t[j]; rfl; exact absurd h d1
      rw [d1', r_if_t (show bZ false = 0 by decide), if_neg (show ¬ (false = true) by decide)]
      have e : c + (j :: alI (j + 1) (t.drop (j + 1))).length = c + 1 + (alI (j + 1) (t.drop (j + 1))).length := by show c + (_ + 1) = _; omega
      rw [e]
      cases tl with
      | false =>
        rw [r_if_t (show bZ false = 0 by decide), nI_1, nI_1]
        obtain ⟨s1, u1, u2⟩ := ih fu (j + 1) (c + 1) ch s (by omega) (by omega) (by omega) (fun z => by cases z) hI hT
        exact ⟨s1, u1, u2⟩
      | true =>
        rw [r_if_f (show ¬ bZ true = 0 by decide)]
        obtain ⟨s1, u1, u2, u3⟩ := m_tell (N := N) (M := M) (m := m) (w := 1) (i := j) (Or.inr rfl) hI (by have := h4 rfl; omega) hT
        have u1' : (f_MD_tell N m 1 (nI j)).1 (ov M m s) = some ((), ov M m s1) := u1
        rw [mI_is, r_callE, u1', Option.bind_some, nI_1, nI_1]
        obtain ⟨s2, v1, v2⟩ := ih fu (j + 1) (c + 1) (ch ++ [(1, j)]) s1 (by omega) (by omega) (by omega) (fun z => by rw [List.length_append]; have := h4 z; show ch.length + 1 + d ≤ 400; omega) u2 u3
        refine ⟨s2, v1, ?_⟩
        have := chT_cons (tl := true) (ch := ch) (w := 1) (i := j) (l := alI (j + 1) (t.drop (j + 1)))
        rw [if_pos rfl] at this
        rw [← this]; exact v2
theorem m_34 {qa qb : Nat} {A B : aPk} {tl : Bool} (hN : 2001 ≤ N) (ha : pk[qa]? = some A) (hb : pk[qb]? = some B) : ∀ (d fu i c : Nat) (ch : List (Nat × Nat)) (s : rS) (t : List Bool), d + i = A.2.2.2.length → d < fu → c + d ≤ 1000 - 200 → (tl = true → ch.length + d ≤ 200) → t.length = B.2.2.2.length → RInv s f n pk ch pr → TK s t →
    ∃ s', (f_MD_compareRows_34 N m (nI qa) (nI qb) (bZ tl) fu (nI c) (nI i)).1 (ov M m s) = (f_MD_compareRows_143 N m (nI qa) (nI qb) (bZ tl) N (nI (c + (alI i (prL B.2.2.2 (A.2.2.2.drop i) t).1).length)) 0).1 (ov M m s') ∧ RInv s' f n pk (chT tl ch 0 (alI i (prL B.2.2.2 (A.2.2.2.drop i) t).1)) pr ∧ TK s' (prL B.2.2.2 (A.2.2.2.drop i) t).2 := by
  intro d
  induction d with
  | zero =>
    intro fu i c ch s t h1 h2 h3 h4 ht hI hT
    obtain ⟨fu, rfl⟩ : ∃ g, fu = g + 1 := ⟨fu - 1, by omega⟩
    have hA := hI.2.2.2.2.1 qa A ha
    have hqa := (List.getElem?_eq_some_iff.mp ha).1
    have h40 := hI.2.2.1
    have hl := hA.2.2.2.2.2.1
    have ip : ¬ (nI qa < 0 ∨ 41 ≤ (nI qa).toNatClampNeg) := nI_in (by omega) (by decide)
    have cp := nI_clamp (n := qa) (by omega)
    rw [List.drop_eq_nil_of_le (show A.2.2.2.length ≤ i by omega)]
    rw [show prL B.2.2.2 [] t = ([], t) from rfl]
    dsimp only
    rw [show alI i [] = [] from by unfold alI; rfl, chT_nil]
    refine ⟨s, ?_, hI, hT⟩
    rw [e_MD_compareRows_34]
    simp only [mR_13, r_nn, mA_6 ip, cp, hA.2.2.2.2.1, show nI A.2.2.2.length ≤ nI i from nI_le (by omega) (by omega), if_true]
    rfl
  | succ d ih =>
    intro fu i c ch s t h1 h2 h3 h4 ht hI hT
    obtain ⟨fu, rfl⟩ : ∃ g, fu = g + 1 := ⟨fu - 1, by omega⟩
    have hA := hI.2.2.2.2.1 qa A ha
    have hB := hI.2.2.2.2.1 qb B hb
    have hqa := (List.getElem?_eq_some_iff.mp ha).1
    have h40 := hI.2.2.1
    have hl := hA.2.2.2.2.2.1
    have hlb := hB.2.2.2.2.2.1
    have ip : ¬ (nI qa < 0 ∨ 41 ≤ (nI qa).toNatClampNeg) := nI_in (by omega) (by decide)
    have cp := nI_clamp (n := qa) (by omega)
    have hi : i < A.2.2.2.length := by omega
    have hget : A.2.2.2[i]? = some A.2.2.2[i] := List.getElem?_eq_getElem hi
    have h48 := m_cmp48 (N := N) (M := M) (m := m) (f := f) (n := n) (pk := pk) (ch := ch) (pr := pr) (c := c) (tl := tl) (K34 := f_MD_compareRows_34 N m (nI qa) (nI qb) (bZ tl) fu) hN ha hb hget (fun z => by have := h4 z; omega) (by omega) B.2.2.2.length N 0 s t (by omega) (by omega) ht hI hT
    rw [List.drop_zero, List.drop_zero] at h48
    rw [List.drop_eq_getElem_cons hi]
    unfold prL
    rw [e_MD_compareRows_34]
    simp only [mR_13, r_nn, mA_6 ip, cp, hA.2.2.2.2.1, show ¬ nI A.2.2.2.length ≤ nI i from nI_ge (by omega) (by omega), if_false]
    cases hf : ffn A.2.2.2[i] B.2.2.2 t 0 with
    | some j =>
      rw [hf] at h48
      obtain ⟨s1, u1, u2, u3⟩ := h48
      dsimp only at u1 ⊢
      obtain ⟨s2, v1, v2, v3⟩ := ih fu (i + 1) c ch s1 (t.set j true) (by omega) (by omega) (by omega) (fun z => by have := h4 z; omega) (by rw [List.length_set]; exact ht) u2 u3
      exact ⟨s2, u1.trans v1, v2, v3⟩
    | none =>
      rw [hf] at h48
      obtain ⟨s1, u1, u2, u3⟩ := h48
      dsimp only at u1 ⊢
      have hcl : (if tl = true then ch ++ [(0, i)] else ch).length ≤ ch.length + 1 := by
        split
        · rw [List.length_append]; exact Nat.le_refl _
        · omega
      obtain ⟨s2, v1, v2, v3⟩ := ih fu (i + 1) (c + 1) (if tl = true then ch ++ [(0, i)] else ch) s1 t (by omega) (by omega) (by omega) (fun z => by have := h4 z; omega) ht u2 u3
      have e : alI i (false :: (prL B.2.2.2 (A.2.2.2.drop (i + 1)) t).1) = i :: alI (i + 1) (prL B.2.2.2 (A.2.2.2.drop (i + 1)) t).1 := by
        show (if false = true then _ else _) = _
        rw [if_neg (by decide)]
      rw [e]
      refine ⟨s2, ?_, ?_, v3⟩
      · rw [show c + (i :: alI (i + 1) (prL B.2.2.2 (A.2.2.2.drop (i + 1)) t).1).length = c + 1 + (alI (i + 1) (prL B.2.2.2 (A.2.2.2.drop (i + 1)) t).1).length from by show c + (_ + 1) = _; omega]
        exact u1.trans v1
      · rw [← chT_cons]; exact v2
theorem m_clr {qa qb : Nat} {B : aPk} {p2 : Int32} (hb : pk[qb]? = some B) : ∀ (d fu j : Nat) (s : rS), d + j = B.2.2.2.length → d < fu → RInv s f n pk ch pr → (∀ k, k < j → s.2.2.1 27 k = 0) →
    ∃ s', (f_MD_compareRows_3 N m (nI qa) (nI qb) p2 fu (nI j)).1 (ov M m s) = (f_MD_compareRows_34 N m (nI qa) (nI qb) p2 N 0 0).1 (ov M m s') ∧ RInv s' f n pk ch pr ∧ TK s' (flF B.2.2.2) := by
  intro d
  induction d with
  | zero =>
    intro fu j s h1 h2 hI hz
    obtain ⟨fu, rfl⟩ : ∃ g, fu = g + 1 := ⟨fu - 1, by omega⟩
    have hB := hI.2.2.2.2.1 qb B hb
    have hqb := (List.getElem?_eq_some_iff.mp hb).1
    have h40 := hI.2.2.1
    have hl := hB.2.2.2.2.2.1
    have ip : ¬ (nI qb < 0 ∨ 41 ≤ (nI qb).toNatClampNeg) := nI_in (by omega) (by decide)
    have cp := nI_clamp (n := qb) (by omega)
    refine ⟨s, ?_, hI, ?_, fun k b hk => ?_⟩
    · rw [e_MD_compareRows_3]
      simp only [mR_13, r_nn, mA_6 ip, cp, hB.2.2.2.2.1, show nI B.2.2.2.length ≤ nI j from nI_le (by omega) (by omega), if_true]
    · unfold flF; rw [List.length_replicate]; exact hl
    · unfold flF at hk
      have hk' := (List.getElem?_eq_some_iff.mp hk)
      obtain ⟨w1, w2⟩ := hk'
      rw [List.length_replicate] at w1
      rw [List.getElem_replicate] at w2
      rw [← w2, hz k (by omega)]; rfl
  | succ d ih =>
    intro fu j s h1 h2 hI hz
    obtain ⟨fu, rfl⟩ : ∃ g, fu = g + 1 := ⟨fu - 1, by omega⟩
    have hB := hI.2.2.2.2.1 qb B hb
    have hqb := (List.getElem?_eq_some_iff.mp hb).1
    have h40 := hI.2.2.1
    have hl := hB.2.2.2.2.2.1
    have ip : ¬ (nI qb < 0 ∨ 41 ≤ (nI qb).toNatClampNeg) := nI_in (by omega) (by decide)
    have cp := nI_clamp (n := qb) (by omega)
    have i1 : ¬ (nI j < 0 ∨ 200 ≤ (nI j).toNatClampNeg) := nI_in (by omega) (by decide)
    have c1 := nI_clamp (n := j) (by omega)
    rw [e_MD_compareRows_3]
    simp only [mR_13, r_nn, mA_6 ip, cp, hB.2.2.2.2.1, show ¬ nI B.2.2.2.length ≤ nI j from nI_ge (by omega) (by omega), if_false, mR_42, mS_27 i1, c1, show vp_nar .boolean 0 = 0 from by decide, nI_1]
    refine ih fu (j + 1) _ (by omega) (by omega) hI.tk (fun k hk => ?_)
    show va_up (s.2.2.1 27) j 0 k = 0
    by_cases e : k = j
    · rw [e, ua_s]
    · rw [ua_n e]; exact hz k (by omega)
/-- rows compared, with or without telling -/
theorem m_cmpRows {qa qb : Nat} {A B : aPk} {tl : Bool} (hN : 2001 ≤ N) (ha : pk[qa]? = some A) (hb : pk[qb]? = some B) (hI : RInv s f n pk ch pr) (hch : tl = true → ch = []) : ∃ s', (f_MD_compareRows N m (nI qa) (nI qb) (bZ tl)).1 (ov M m s) = some (nI (alone A.2.2.2 B.2.2.2).length, ov M m s') ∧ RInv s' f n pk (if tl = true then alone A.2.2.2 B.2.2.2 else ch) pr := by
  have hA := hI.2.2.2.2.1 qa A ha
  have hB := hI.2.2.2.2.1 qb B hb
  have hl := hA.2.2.2.2.2.1
  have hlb := hB.2.2.2.2.2.1
  rw [e_MD_compareRows]
  obtain ⟨s1, u1, u2, u3⟩ := m_clr (N := N) (M := M) (m := m) (qa := qa) (p2 := bZ tl) hb B.2.2.2.length N 0 s (by omega) (by omega) hI (fun k hk => absurd hk (by omega))
  have hfl : (flF B.2.2.2).length = B.2.2.2.length := by unfold flF; rw [List.length_replicate]
  have key : ∀ (ch0 : List (Nat × Nat)), (tl = true → ch0.length + A.2.2.2.length ≤ 200) → RInv s1 f n pk ch0 pr → ∃ s', (f_MD_compareRows_34 N m (nI qa) (nI qb) (bZ tl) N 0 0).1 (ov M m s1) = some (nI (alone A.2.2.2 B.2.2.2).length, ov M m s') ∧ RInv s' f n pk (chT tl (chT tl ch0 0 (alI 0 (prL B.2.2.2 A.2.2.2 (flF B.2.2.2)).1)) 1 (alI 0 (prL B.2.2.2 A.2.2.2 (flF B.2.2.2)).2)) pr := by
    intro ch0 hc0 hI0
    obtain ⟨s2, v1, v2, v3⟩ := m_34 (N := N) (M := M) (m := m) (tl := tl) hN ha hb A.2.2.2.length N 0 0 ch0 s1 (flF B.2.2.2) (by omega) (by omega) (by omega) hc0 hfl hI0 u3
    rw [List.drop_zero, Nat.zero_add] at v1
    rw [List.drop_zero] at v2 v3
    have pl := prL_len (lb := B.2.2.2) A.2.2.2 (flF B.2.2.2)
    have al := alI_len 0 (prL B.2.2.2 A.2.2.2 (flF B.2.2.2)).1
    have cl := chT_len (ch := ch0) (tl := tl) (w := 0) (l := alI 0 (prL B.2.2.2 A.2.2.2 (flF B.2.2.2)).1)
    obtain ⟨s3, w1, w2⟩ := m_143 (N := N) (M := M) (m := m) (qa := qa) (tl := tl) hb (t := (prL B.2.2.2 A.2.2.2 (flF B.2.2.2)).2) (by rw [pl.2, hfl]) B.2.2.2.length N 0 (alI 0 (prL B.2.2.2 A.2.2.2 (flF B.2.2.2)).1).length _ s2 (by omega) (by omega) (by omega) (fun z => by have := hc0 z; omega) v2 v3
    rw [List.drop_zero] at w1 w2
    refine ⟨s3, ?_, w2⟩
    refine v1.trans (w1.trans ?_)
    unfold alone
    rw [List.length_append, List.length_map, List.length_map]
  cases tl with
  | true =>
    have : ch = [] := hch rfl
    subst this
    obtain ⟨s2, v1, v2⟩ := key [] (fun _ => by show 0 + _ ≤ _; omega) u2
    refine ⟨s2, u1.trans v1, ?_⟩
    rw [if_pos rfl]
    have e : chT true (chT true [] 0 (alI 0 (prL B.2.2.2 A.2.2.2 (flF B.2.2.2)).1)) 1 (alI 0 (prL B.2.2.2 A.2.2.2 (flF B.2.2.2)).2) = alone A.2.2.2 B.2.2.2 := by
      unfold chT alone
      rw [if_pos rfl, if_pos rfl, List.nil_append]
    rw [e] at v2
    exact v2
  | false =>
    rw [if_neg (by decide)]
    obtain ⟨s2, v1, v2⟩ := key ch (fun z => by cases z) u2
    exact ⟨s2, u1.trans v1, v2⟩
end RCMP2
