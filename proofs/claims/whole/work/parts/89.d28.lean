/-! LAYER 2: how long what is printed may be: text rows -/
def hdr (o : Option aR) (r : aR) : Bool := match o with
  | none => true
  | some q => !goS q r
def n8 : Option aR → List aR → Nat
  | _, [] => 0
  | o, r :: t => (if r.1 = 8 ∧ hdr o r = true then 1 else 0) + n8 (some r) t
def H9 : Option aR → List aR → List (List Int32)
  | _, [] => []
  | o, r :: t => (if r.1 = 9 ∧ hdr o r = true then [r.2.2.2.1] else []) ++ H9 (some r) t
def fS (l : List (List Int32)) : Nat := (l.map (fun F => 11 + F.length)).sum
def lb8 (S : Nat) (o : Option aR) : Nat := match o with
  | none => 0
  | some q => if q.1 < 8 then 0 else if q.1 = 8 then q.2.1.toInt.toNat + 1 else S
section TROW
theorem fS_app {a b : List (List Int32)} : fS (a ++ b) = fS a + fS b := by unfold fS; rw [List.map_append, List.sum_append]
theorem fS_c {w : List Int32} {l : List (List Int32)} : fS (w :: l) = 11 + w.length + fS l := by unfold fS; rw [List.map_cons, List.sum_cons]
theorem cRg_len {lo hi : Nat} : (cRg lo hi).length ≤ RC lo hi + 1 := by
  unfold cRg RC
  by_cases c1 : lo = 0 ∧ hi = 1000000000000000000
  · rw [if_pos c1]; show 1 ≤ _; omega
  · rw [if_neg c1]
    by_cases c2 : hi = lo + 1
    · rw [if_pos c2, if_pos c2, List.length_append]; show 2 + _ ≤ _; omega
    · rw [if_neg c2, if_neg c2]
      by_cases c3 : lo = 0
      · rw [if_pos c3]
        have c4 : ¬ hi = 1000000000000000000 := fun z => c1 ⟨c3, z⟩
        rw [if_neg c4, List.length_append]
        by_cases c5 : hi = 0
        · rw [if_pos ⟨c3, c5⟩, c5, verS_0]; decide
        · rw [if_neg (fun z => c5 z.2), if_pos c3, if_neg c4]; show 2 + _ ≤ _; omega
      · rw [if_neg c3, if_neg (show ¬ (lo = 0 ∧ hi = 0) from fun z => c3 z.1), if_neg c3, List.length_append, List.length_append]
        by_cases c4 : hi = 1000000000000000000
        · rw [if_pos c4, if_pos c4]; show 3 + (_ + 0) ≤ _; omega
        · rw [if_neg c4, if_neg c4, List.length_append, List.length_append]; show 3 + (_ + (1 + (2 + _))) ≤ _; omega
theorem rsS_len {r : aR} : gcH r + r.2.2.1.length + (rsS r).length ≤ gcR r := by
  unfold gcR
  by_cases c : r.1 < 7 ∨ r.1 = 8
  · rw [if_pos c]
    have e : rsS r = rngS (lnN r.2.2.2.2.1) (lnN r.2.2.2.2.2.1) := by unfold rsS; rw [if_pos c]
    rw [e, ← cRg_e, List.length_append]
    have := cRg_len (lo := lnN r.2.2.2.2.1) (hi := lnN r.2.2.2.2.2.1)
    show _ + (1 + _) ≤ _
    omega
  · rw [if_neg c]; exact Nat.le_refl _
theorem cBg_8 {r : aR} (h : r.1 = 8) : (cBg r).length = 4 := by
  unfold cBg
  rw [h, if_neg (by decide), if_neg (by decide), if_neg (by decide)]
  decide +kernel
theorem cBg_9 {r : aR} (h : r.1 = 9) : (cBg r).length = 10 + r.2.2.2.1.length := by
  unfold cBg
  rw [h, if_neg (by decide), if_neg (by decide), if_pos rfl, List.length_append, List.length_append, List.length_append, List.length_append]
  have : (sB.getD (ktx (9 - 4)) []).length = 7 := by decide +kernel
  rw [this]
  show 7 + (1 + (0 + (_ + 2))) = _
  omega
theorem cHd_len {o : Option aR} {r : aR} : (cHd o r).length ≤ gcH r + 3 * (if r.1 = 8 ∧ hdr o r = true then 1 else 0) + fS (if r.1 = 9 ∧ hdr o r = true then [r.2.2.2.1] else []) := by
  have own : ([59, 32] ++ cBg r).length ≤ gcH r + 3 * (if r.1 = 8 then 1 else 0) + fS (if r.1 = 9 then [r.2.2.2.1] else []) := by
    rw [List.length_append]
    unfold gcH
    have e2 : ([59, 32] : List Int32).length = 2 := rfl
    by_cases c8 : r.1 = 8
    · rw [cBg_8 c8, if_pos c8, if_pos c8]; omega
    · rw [if_neg c8]
      by_cases c9 : r.1 = 9
      · rw [cBg_9 c9, if_pos c9, if_pos c9, fS_c]; omega
      · rw [if_neg c9]; omega
  rcases o with _ | q
  · show ([59, 32] ++ cBg r).length ≤ _
    have h1 : hdr none r = true := rfl
    simp only [h1, and_true]
    exact own
  · show (if goS q r = true then (if r.1 = 8 then [32, 124, 32] else [44, 32]) else [59, 32] ++ cBg r : List Int32).length ≤ _
    cases hg : goS q r with
    | false =>
      have h1 : hdr (some q) r = true := by show (!goS q r) = true; rw [hg]; rfl
      rw [if_neg Bool.false_ne_true]
      simp only [h1, and_true]
      exact own
    | true =>
      rw [if_pos rfl]
      unfold gcH
      by_cases c8 : r.1 = 8
      · rw [if_pos c8, if_pos c8]; show 3 ≤ _; omega
      · rw [if_neg c8, if_neg c8]
        show 2 ≤ _
        split <;> omega
theorem cRows_len : ∀ (l : List aR) (o : Option aR), (cRows o l).length ≤ gsum l + 3 * n8 o l + fS (H9 o l)
  | [], o => Nat.zero_le _
  | r :: t, o => by
    have ih := cRows_len t (some r)
    have h1 := cHd_len (o := o) (r := r)
    have h2 := rsS_len (r := r)
    show (cHd o r ++ (r.2.2.1 ++ (rsS r ++ cRows (some r) t))).length ≤ gsum (r :: t) + 3 * ((if r.1 = 8 ∧ hdr o r = true then 1 else 0) + n8 (some r) t) + fS ((if r.1 = 9 ∧ hdr o r = true then [r.2.2.2.1] else []) ++ H9 (some r) t)
    rw [List.length_append, List.length_append, List.length_append, gsum_c, fS_app]
    omega
theorem oz_kd {q r : aR} (h : oz q r ≤ 0) : q.1 ≤ r.1 := by
  unfold oz at h
  split at h
  · omega
  · omega
theorem oz_set {q r : aR} (h : oz q r ≤ 0) (hk : q.1 = r.1) : q.2.1.toInt ≤ r.2.1.toInt := by
  unfold oz at h
  rw [if_pos hk] at h
  by_cases c : q.2.1 = r.2.1
  · rw [c]; exact Int.le_refl _
  · rw [if_neg c] at h; omega
theorem n8_le {S : Nat} : ∀ (l : List aR) (o : Option aR), List.Pairwise (fun x y => oz x y ≤ 0) l → (∀ q, o = some q → ∀ x, x ∈ l → oz q x ≤ 0) → (∀ x, x ∈ l → x.1 = 8 → ∃ j : Nat, j < S ∧ j < 2 ^ 31 ∧ x.2.1 = nI j) → (∀ q, o = some q → q.1 = 8 → 0 ≤ q.2.1.toInt) → lb8 S o ≤ S → n8 o l + lb8 S o ≤ S
  | [], o, _, _, _, _, h => by show 0 + _ ≤ _; omega
  | r :: t, o, hs, ho, hS, hp, hl => by
    obtain ⟨s1, s2⟩ := List.pairwise_cons.mp hs
    have hr := hS r List.mem_cons_self
    have lr : lb8 S (some r) ≤ S := by
      show (if r.1 < 8 then 0 else if r.1 = 8 then r.2.1.toInt.toNat + 1 else S) ≤ S
      split
      · omega
      · split
        · rename_i c
          obtain ⟨j, hj, hj2, e⟩ := hr c
          rw [e, nI_Z hj2]; omega
        · omega
    have ih := n8_le t (some r) s2 (fun q e x hx => by cases e; exact s1 x hx) (fun x hx => hS x (List.mem_cons_of_mem _ hx)) (fun q e h => by cases e; obtain ⟨j, _, hj2, ej⟩ := hr h; rw [ej, nI_Z hj2]; omega) lr
    show (if r.1 = 8 ∧ hdr o r = true then 1 else 0) + n8 (some r) t + lb8 S o ≤ S
    have e1 : lb8 S (some r) = if r.1 < 8 then 0 else if r.1 = 8 then r.2.1.toInt.toNat + 1 else S := rfl
    rw [e1] at ih
    by_cases c8 : r.1 = 8
    · rw [if_neg (by omega), if_pos c8] at ih
      obtain ⟨j, hj, hj2, ej⟩ := hr c8
      have ej' : r.2.1.toInt.toNat = j := by rw [ej, nI_Z hj2]; omega
      rw [ej'] at ih
      rcases o with _ | q
      · have e0 : lb8 S none = 0 := rfl
        rw [e0]
        split <;> omega
      · have hq := ho q rfl r List.mem_cons_self
        have hk := oz_kd hq
        have e2 : lb8 S (some q) = if q.1 < 8 then 0 else if q.1 = 8 then q.2.1.toInt.toNat + 1 else S := rfl
        rw [e2]
        by_cases q8 : q.1 < 8
        · rw [if_pos q8]; split <;> omega
        · have q88 : q.1 = 8 := by omega
          rw [if_neg q8, if_pos q88]
          have hset := oz_set hq (by omega)
          have hp0 := hp q rfl q88
          rw [ej, nI_Z hj2] at hset
          cases hg : goS q r with
          | true =>
            rw [if_neg (fun z => by have : (!goS q r) = true := z.2; rw [hg] at this; exact absurd this (by decide))]
            omega
          | false =>
            have hne : q.2.1 ≠ r.2.1 := fun z => by
              unfold goS at hg
              rw [show (q.1 == r.1) = true by rw [beq_iff_eq]; omega, Bool.true_and, if_neg (by omega), if_pos c8, show (r.2.1 == q.2.1) = true by rw [beq_iff_eq]; exact z.symm] at hg
              exact absurd hg (by decide)
            have hne' : q.2.1.toInt ≠ j := fun z => hne (Int32.toInt_inj.mp (by rw [z, ej, nI_Z hj2]))
            split <;> omega
    · rw [if_neg (fun z => c8 z.1)]
      rcases o with _ | q
      · have e0 : lb8 S none = 0 := rfl
        omega
      · have hk := oz_kd (ho q rfl r List.mem_cons_self)
        have e2 : lb8 S (some q) = if q.1 < 8 then 0 else if q.1 = 8 then q.2.1.toInt.toNat + 1 else S := rfl
        by_cases r8 : r.1 < 8
        · rw [e2, if_pos (by omega)]; omega
        · rw [if_neg r8, if_neg c8] at ih
          have : n8 (some r) t = 0 := by omega
          rw [this]; omega
theorem H9_nil : ∀ (l : List aR) (o : Option aR), (∀ x, x ∈ l → x.1 ≠ 9) → H9 o l = []
  | [], _, _ => rfl
  | r :: t, o, h => by
    show (if r.1 = 9 ∧ hdr o r = true then [r.2.2.2.1] else []) ++ H9 (some r) t = []
    rw [if_neg (fun z => h r List.mem_cons_self z.1), H9_nil t (some r) (fun x hx => h x (List.mem_cons_of_mem _ hx))]; rfl
theorem H9_mem : ∀ (l : List aR) (o : Option aR) (F : List Int32), F ∈ H9 o l → ∃ r, r ∈ l ∧ r.1 = 9 ∧ r.2.2.2.1 = F
  | [], _, F, h => by cases h
  | r :: t, o, F, h => by
    have h' : F ∈ (if r.1 = 9 ∧ hdr o r = true then [r.2.2.2.1] else []) ++ H9 (some r) t := h
    rcases List.mem_append.mp h' with y | y
    · split at y
      · rename_i c
        rw [List.mem_singleton.mp y]
        exact ⟨r, List.mem_cons_self, c.1, rfl⟩
      · cases y
    · obtain ⟨x, h1, h2⟩ := H9_mem t (some r) F y
      exact ⟨x, List.mem_cons_of_mem _ h1, h2⟩
theorem cz_st {x y w : List Int32} (h1 : cz x y < 0) (h2 : cz y w < 0) : cz x w < 0 := by
  have h3 := cz_t x y w (by omega) (by omega)
  by_cases c : cz x w = 0
  · rw [(cz_0 x w).mp c] at h1
    have := cz_n w y
    omega
  · omega
theorem H9_nd : ∀ (l : List aR) (o : Option aR), List.Pairwise (fun x y => oz x y ≤ 0) l → (∀ q, o = some q → wfA q ∧ ∀ x, x ∈ l → oz q x ≤ 0) → (∀ x, x ∈ l → wfA x) → ((H9 o l).map fold).Nodup ∧ (∀ q, o = some q → q.1 = 9 → ∀ F, F ∈ H9 o l → cz (fold q.2.2.2.1) (fold F) < 0)
  | [], o, _, _, _ => ⟨List.nodup_nil, fun q _ _ F hF => by cases hF⟩
  | r :: t, o, hs, ho, hw => by
    obtain ⟨s1, s2⟩ := List.pairwise_cons.mp hs
    have wr := hw r List.mem_cons_self
    obtain ⟨ih1, ih2⟩ := H9_nd t (some r) s2 (fun q e => by cases e; exact ⟨wr, s1⟩) (fun x hx => hw x (List.mem_cons_of_mem _ hx))
    have eH : H9 o (r :: t) = (if r.1 = 9 ∧ hdr o r = true then [r.2.2.2.1] else []) ++ H9 (some r) t := rfl
    rw [eH]
    by_cases c9 : r.1 = 9
    · have ih3 := ih2 r rfl c9
      by_cases ch : hdr o r = true
      · rw [if_pos ⟨c9, ch⟩]
        refine ⟨?_, fun q eq q9 F hF => ?_⟩
        · rw [List.singleton_append, List.map_cons]
          refine List.nodup_cons.mpr ⟨fun hm => ?_, ih1⟩
          obtain ⟨F, hF, e⟩ := List.mem_map.mp hm
          have := ih3 F hF
          rw [e, (cz_0 _ _).mpr rfl] at this
          omega
        · obtain ⟨wq, hq⟩ := ho q eq
          have hqr := hq r List.mem_cons_self
          rw [eq] at ch
          have hg : goS q r = false := by
            have : (!goS q r) = true := ch
            cases hgg : goS q r with
            | false => rfl
            | true => rw [hgg] at this; exact absurd this (by decide)
          have hne : fold r.2.2.2.1 ≠ fold q.2.2.2.1 := fun z => by
            unfold goS at hg
            rw [show (q.1 == r.1) = true by rw [beq_iff_eq]; omega, Bool.true_and, if_pos c9, show (cmpN r.2.2.2.1 q.2.2.2.1 == 0) = true by rw [beq_iff_eq]; exact (cmpN_0 wr.2.2.2.1 wq.2.2.2.1).mpr z] at hg
            exact absurd hg (by decide)
          have hlt : cz (fold q.2.2.2.1) (fold r.2.2.2.1) < 0 := by
            have hn0 : cz (fold q.2.2.2.1) (fold r.2.2.2.1) ≠ 0 := fun z => hne ((cz_0 _ _).mp z).symm
            unfold oz at hqr
            rw [if_pos (show q.1 = r.1 by omega), if_pos (show q.2.1 = r.2.1 by rw [wq.2.2.2.2.2.1 (by omega), wr.2.2.2.2.2.1 (by omega)]), if_pos q9, if_neg hn0] at hqr
            omega
          rcases List.mem_append.mp hF with y | y
          · rw [List.mem_singleton.mp y]; exact hlt
          · exact cz_st hlt (ih3 F y)
      · rw [if_neg (fun z => ch z.2), List.nil_append]
        refine ⟨ih1, fun q eq q9 F hF => ?_⟩
        obtain ⟨wq, hq⟩ := ho q eq
        rw [eq] at ch
        have hg : goS q r = true := by
          cases hgg : goS q r with
          | true => rfl
          | false => exact absurd (show (!goS q r) = true by rw [hgg]; rfl) ch
        unfold goS at hg
        rw [show (q.1 == r.1) = true by rw [beq_iff_eq]; omega, Bool.true_and, if_pos c9, beq_iff_eq] at hg
        rw [← (cmpN_0 wr.2.2.2.1 wq.2.2.2.1).mp hg]
        exact ih3 F hF
    · rw [if_neg (fun z => c9 z.1), List.nil_append]
      refine ⟨ih1, fun q eq q9 F hF => ?_⟩
      obtain ⟨wq, hq⟩ := ho q eq
      have hk := oz_kd (hq r List.mem_cons_self)
      rw [H9_nil t (some r) (fun x hx => by have := oz_kd (s1 x hx); omega)] at hF
      cases hF
theorem sum_er {g : List Int32 → Nat} {a : List Int32} : ∀ (l : List (List Int32)), a ∈ l → (l.map g).sum = g a + ((l.erase a).map g).sum
  | [], h => by cases h
  | b :: l, h => by
    by_cases e : b = a
    · rw [e, List.erase_cons_head, List.map_cons, List.sum_cons]
    · rw [List.erase_cons_tail (by simpa using e), List.map_cons, List.sum_cons, List.map_cons, List.sum_cons]
      rcases List.mem_cons.mp h with y | y
      · exact absurd y.symm e
      · rw [sum_er l y]; omega
theorem nd_sum {g : List Int32 → Nat} : ∀ (l1 l2 : List (List Int32)), l1.Nodup → (∀ x, x ∈ l1 → x ∈ l2) → (l1.map g).sum ≤ (l2.map g).sum
  | [], l2, _, _ => Nat.zero_le _
  | a :: l1, l2, hn, hs => by
    have hn' := List.nodup_cons.mp hn
    have ha := hs a List.mem_cons_self
    have := nd_sum (g := g) l1 (l2.erase a) hn'.2 (fun x hx => (List.mem_erase_of_ne (fun e => hn'.1 (by rw [← e]; exact hx))).mpr (hs x (List.mem_cons_of_mem _ hx)))
    rw [sum_er (g := g) l2 ha, List.map_cons, List.sum_cons]
    omega
theorem nd_map {l : List (List Int32)} (h : (l.map fold).Nodup) : l.Nodup := by
  rw [List.Nodup, List.pairwise_map] at h
  exact h.imp (fun h e => h (by rw [e]))
theorem cBr_len {P : aPk} : ∀ (l : List (List Int32)), (cBr P l).length = fS (l.filter (fun w => !hasNm P w))
  | [] => rfl
  | w :: t => by
    show ((if hasNm P w = true then [] else sB.getD 26 [] ++ (w ++ [58])) ++ cBr P t).length = _
    rw [List.length_append, cBr_len t]
    cases h : hasNm P w with
    | true => rw [if_pos rfl, List.filter_cons_of_neg (by rw [h]; decide)]; exact Nat.zero_add _
    | false =>
      rw [if_neg Bool.false_ne_true, List.filter_cons_of_pos (by rw [h]; rfl), fS_c, List.length_append, List.length_append]
      have : (sB.getD 26 []).length = 10 := by decide +kernel
      rw [this]
      show 10 + (_ + 1) + _ = _
      omega
/-- the whole, without the source -/
theorem cPs_len {P : aPk} {S : Nat} (hP : wfP P) (hs : List.Pairwise (fun x y => oz x y ≤ 0) P.2.2.2) (h8 : ∀ x, x ∈ P.2.2.2 → x.1 = 8 → ∃ j : Nat, j < S ∧ j < 2 ^ 31 ∧ x.2.1 = nI j) (h9 : ∀ x, x ∈ P.2.2.2 → x.1 = 9 → x.2.2.2.1 ∈ P.2.2.1) : (cPs P).length ≤ 10 + P.1.length + (verS P.2.1).length + gsum P.2.2.2 + 3 * S + fS P.2.2.1 := by
  have h1 := cRows_len P.2.2.2 none
  have h2 := n8_le (S := S) P.2.2.2 none hs (fun q e => by cases e) h8 (fun q e => by cases e) (Nat.zero_le _)
  have e0 : lb8 S none = 0 := rfl
  have h3 := H9_nd P.2.2.2 none hs (fun q e => by cases e) hP.2.2.2.2.1
  have h4 := cBr_len (P := P) (dsF P.2.2.1)
  have wf := hP.2.1
  have nd : (H9 none P.2.2.2 ++ (dsF P.2.2.1).filter (fun w => !hasNm P w)).Nodup := by
    have n1 : (H9 none P.2.2.2).Nodup := by
      have := h3.1
      exact nd_map this
    have n2 : (dsF P.2.2.1).Nodup := nd_map (dst_nd [] P.2.2.1 (fun w hw => by cases hw) wf List.nodup_nil)
    refine List.nodup_append.mpr ⟨n1, n2.filter _, fun F hF w hw e => ?_⟩
    obtain ⟨r, r1, r2, r3⟩ := H9_mem _ _ F hF
    obtain ⟨w1, w2⟩ := List.mem_filter.mp hw
    have wr := hP.2.2.2.2.1 r r1
    have : hasNm P w = true := by
      unfold hasNm
      rw [List.any_eq_true]
      refine ⟨r, r1, ?_⟩
      rw [Bool.and_eq_true, beq_iff_eq, beq_iff_eq, r3, e]
      exact ⟨r2, (cmpN_0 (wf w (dsF_mem w1)) (wf w (dsF_mem w1))).mpr rfl⟩
    rw [this] at w2
    exact absurd w2 (by decide)
  have h5 := nd_sum (g := fun F => 11 + F.length) _ P.2.2.1 nd (fun F hF => by
    rcases List.mem_append.mp hF with y | y
    · obtain ⟨r, r1, r2, r3⟩ := H9_mem _ _ F y
      rw [← r3]; exact h9 r r1 r2
    · exact dsF_mem (List.mem_filter.mp y).1)
  have h6 : fS (H9 none P.2.2.2 ++ (dsF P.2.2.1).filter (fun w => !hasNm P w)) ≤ fS P.2.2.1 := h5
  rw [fS_app] at h6
  unfold cPs
  rw [List.length_append, List.length_append, List.length_append, List.length_append, List.length_append, List.length_append]
  have e18 : (sB.getD 18 []).length = 8 := by decide +kernel
  rw [e18]
  show 8 + (_ + (1 + (_ + (_ + (_ + 1))))) ≤ _
  omega
end TROW
