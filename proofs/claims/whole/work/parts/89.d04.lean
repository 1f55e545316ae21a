/-! LAYER 2: the order of names and rows, in whole numbers -/
def smL (x : List Int32) : Prop := x.length ≤ 20 ∧ ∀ c, c ∈ x → ∃ b : Nat, b < 256 ∧ c = nI b
def cz : List Int32 → List Int32 → Int
  | [], ys => - (ys.length : Int)
  | x :: xs, [] => ((x :: xs).length : Int)
  | x :: xs, y :: ys => if x = y then cz xs ys else x.toInt - y.toInt
section ORDZ
theorem nI_Z {a : Nat} (h : a < 2 ^ 31) : (nI a).toInt = (a : Int) := by
  unfold nI
  rw [Int32.toInt_ofNat_of_lt h]
theorem sub_Z {a b : Int32} {x y : Int} (ha : a.toInt = x) (hb : b.toInt = y) (h1 : -(2 ^ 31) ≤ x - y) (h2 : x - y < 2 ^ 31) : (a - b).toInt = x - y := by
  rw [Int32.toInt_sub, ha, hb]
  exact Int.bmod_eq_of_le (by omega) (by omega)
theorem smL.t {c : Int32} {x : List Int32} (h : smL (c :: x)) : smL x ∧ ∃ b : Nat, b < 256 ∧ c = nI b := ⟨⟨by have := h.1; have e : (c :: x).length = x.length + 1 := rfl; omega, fun d hd => h.2 d (List.mem_cons_of_mem _ hd)⟩, h.2 c List.mem_cons_self⟩
theorem cmp_Z : ∀ (x y : List Int32), smL x → smL y → (cmpL x y).toInt = cz x y
  | [], ys, _, hy => by
    unfold cmpL cz
    have := hy.1
    rw [sub_Z (nI_Z (by decide)) (nI_Z (a := ys.length) (by omega)) (by omega) (by omega)]
    omega
  | x :: xs, [], hx, _ => by
    unfold cmpL cz
    have := hx.1
    rw [sub_Z (nI_Z (a := (x :: xs).length) (by omega)) (nI_Z (by decide)) (by omega) (by omega)]
    omega
  | x :: xs, y :: ys, hx, hy => by
    unfold cmpL cz
    obtain ⟨hx1, b, hb, eb⟩ := hx.t
    obtain ⟨hy1, c, hc, ec⟩ := hy.t
    split
    · exact cmp_Z xs ys hx1 hy1
    · have e1 : x.toInt = (b : Int) := by rw [eb]; exact nI_Z (by omega)
      have e2 : y.toInt = (c : Int) := by rw [ec]; exact nI_Z (by omega)
      rw [sub_Z e1 e2 (by omega) (by omega), e1, e2]
theorem cz_0 : ∀ (x y : List Int32), cz x y = 0 ↔ x = y
  | [], [] => ⟨fun _ => rfl, fun _ => rfl⟩
  | [], y :: ys => ⟨fun h => by unfold cz at h; have e : (y :: ys).length = ys.length + 1 := rfl; omega, fun h => by cases h⟩
  | x :: xs, [] => ⟨fun h => by unfold cz at h; have e : (x :: xs).length = xs.length + 1 := rfl; omega, fun h => by cases h⟩
  | x :: xs, y :: ys => by
    unfold cz
    by_cases c : x = y
    · rw [if_pos c, cz_0 xs ys, c]
      exact ⟨fun h => by rw [h], fun h => by cases h; rfl⟩
    · rw [if_neg c]
      refine ⟨fun h => absurd (Int32.toInt_inj.mp (show x.toInt = y.toInt by omega)) c, fun h => ?_⟩
      cases h; exact absurd rfl c
theorem cz_n : ∀ (x y : List Int32), cz x y = - cz y x
  | [], [] => rfl
  | [], y :: ys => by unfold cz; rfl
  | x :: xs, [] => by unfold cz; rw [Int.neg_neg]
  | x :: xs, y :: ys => by
    unfold cz
    by_cases c : x = y
    · rw [if_pos c, if_pos c.symm]; exact cz_n xs ys
    · rw [if_neg c, if_neg (fun h => c h.symm)]; omega
theorem cz_t : ∀ (x y w : List Int32), cz x y ≤ 0 → cz y w ≤ 0 → cz x w ≤ 0
  | [], _, w, _, _ => by unfold cz; omega
  | x :: xs, [], w, h, _ => by unfold cz at h; have e : (x :: xs).length = xs.length + 1 := rfl; omega
  | x :: xs, y :: ys, [], _, h => by unfold cz at h; have e : (y :: ys).length = ys.length + 1 := rfl; omega
  | x :: xs, y :: ys, w :: ws, h1, h2 => by
    unfold cz at h1 h2 ⊢
    by_cases c : x = y
    · rw [if_pos c] at h1
      by_cases d : y = w
      · rw [if_pos d] at h2
        rw [if_pos (c.trans d)]
        exact cz_t xs ys ws h1 h2
      · rw [if_neg d] at h2
        rw [if_neg (by rw [c]; exact d), c]; exact h2
    · rw [if_neg c] at h1
      by_cases d : y = w
      · rw [if_neg (by rw [← d]; exact c), ← d]; exact h1
      · rw [if_neg d] at h2
        have n1 : x.toInt ≠ y.toInt := fun h => c (Int32.toInt_inj.mp h)
        by_cases e : x = w
        · rw [if_pos e]; rw [e] at h1 n1; omega
        · rw [if_neg e]; omega
theorem lw_b : ∀ b : Fin 128, ∃ c : Fin 256, lw (nI b.val) = nI c.val := by decide +kernel
theorem fd_sm : ∀ (w : List Int32) (b : Bool), (∀ c, c ∈ w → ∃ b : Nat, b < 128 ∧ c = nI b) → ∀ c, c ∈ fd b w → ∃ b : Nat, b < 256 ∧ c = nI b
  | [], b, _, c, hc => by unfold fd at hc; cases hc
  | x :: t, b, h, c, hc => by
    have ht : ∀ c, c ∈ t → ∃ b : Nat, b < 128 ∧ c = nI b := fun c hc => h c (List.mem_cons_of_mem _ hc)
    unfold fd at hc
    split at hc
    · split at hc
      · exact fd_sm t true ht c hc
      · rcases List.mem_cons.mp hc with e | e
        · exact ⟨45, by omega, e⟩
        · exact fd_sm t true ht c e
    · rcases List.mem_cons.mp hc with e | e
      · obtain ⟨b, hb, eb⟩ := h x List.mem_cons_self
        obtain ⟨d, hd⟩ := lw_b ⟨b, hb⟩
        exact ⟨d.val, d.isLt, by rw [e, eb]; exact hd⟩
      · exact fd_sm t false ht c e
theorem fold_sm {w : List Int32} (h : wfN w) : smL (fold w) := ⟨Nat.le_trans (fd_len w false) h.1, fd_sm w false (fun c hc => (h.2.1 c hc).2)⟩
theorem cmpN_Z {x y : List Int32} (hx : wfN x) (hy : wfN y) : (cmpN x y).toInt = cz (fold x) (fold y) := cmp_Z _ _ (fold_sm hx) (fold_sm hy)
theorem Z_0 {a : Int32} : a = 0 ↔ a.toInt = 0 := by rw [← Int32.toInt_inj]; rfl
theorem cmpN_0 {x y : List Int32} (hx : wfN x) (hy : wfN y) : cmpN x y = 0 ↔ fold x = fold y := by rw [Z_0, cmpN_Z hx hy, cz_0]
/-- whether one of fs folds like w -/
theorem hasF_iff {w : List Int32} {fs : List (List Int32)} (hw : wfN w) (hf : ∀ g, g ∈ fs → wfN g) : hasF w fs = true ↔ ∃ g, g ∈ fs ∧ fold g = fold w := by
  unfold hasF
  rw [List.any_eq_true]
  refine ⟨fun ⟨g, h1, h2⟩ => ⟨g, h1, ((cmpN_0 hw (hf g h1)).mp (by simpa using h2)).symm⟩, fun ⟨g, h1, h2⟩ => ⟨g, h1, ?_⟩⟩
  have := (cmpN_0 hw (hf g h1)).mpr h2.symm
  rw [this]; rfl
theorem dst_mem : ∀ (acc fs : List (List Int32)) (w : List Int32), w ∈ dst acc fs → w ∈ acc ∨ w ∈ fs
  | acc, [], w, h => Or.inl h
  | acc, x :: t, w, h => by
    unfold dst at h
    split at h
    · rcases dst_mem acc t w h with e | e
      · exact Or.inl e
      · exact Or.inr (List.mem_cons_of_mem _ e)
    · rcases dst_mem _ t w h with e | e
      · rcases List.mem_append.mp e with y | y
        · exact Or.inl y
        · rw [List.mem_singleton.mp y]; exact Or.inr List.mem_cons_self
      · exact Or.inr (List.mem_cons_of_mem _ e)
theorem dst_acc : ∀ (acc fs : List (List Int32)) (w : List Int32), w ∈ acc → w ∈ dst acc fs
  | acc, [], w, h => h
  | acc, x :: t, w, h => by
    unfold dst
    split
    · exact dst_acc acc t w h
    · exact dst_acc _ t w (List.mem_append.mpr (Or.inl h))
theorem dst_has : ∀ (acc fs : List (List Int32)) (w : List Int32), (∀ g, g ∈ acc → wfN g) → (∀ g, g ∈ fs → wfN g) → w ∈ fs → ∃ g, g ∈ dst acc fs ∧ fold g = fold w
  | acc, x :: t, w, ha, hf, h => by
    unfold dst
    have hx := hf x List.mem_cons_self
    have ht : ∀ g, g ∈ t → wfN g := fun g hg => hf g (List.mem_cons_of_mem _ hg)
    have ha' : ∀ g, g ∈ acc ++ [x] → wfN g := fun g hg => by
      rcases List.mem_append.mp hg with y | y
      · exact ha g y
      · rw [List.mem_singleton.mp y]; exact hx
    rcases List.mem_cons.mp h with e | e
    · split
      · rename_i c
        obtain ⟨g, h1, h2⟩ := (hasF_iff hx ha).mp c
        exact ⟨g, dst_acc acc t g h1, by rw [h2, e]⟩
      · exact ⟨x, dst_acc _ t x (List.mem_append.mpr (Or.inr List.mem_cons_self)), by rw [e]⟩
    · split
      · exact dst_has acc t w ha ht e
      · exact dst_has _ t w ha' ht e
theorem dsF_mem {fs : List (List Int32)} {w : List Int32} (h : w ∈ dsF fs) : w ∈ fs := by
  rcases dst_mem [] fs w h with e | e
  · cases e
  · exact e
theorem hasF_ds {w : List Int32} {fs : List (List Int32)} (hw : wfN w) (hf : ∀ g, g ∈ fs → wfN g) : hasF w (dsF fs) = hasF w fs := by
  have hd : ∀ g, g ∈ dsF fs → wfN g := fun g hg => hf g (dsF_mem hg)
  rw [Bool.eq_iff_iff, hasF_iff hw hd, hasF_iff hw hf]
  refine ⟨fun ⟨g, h1, h2⟩ => ⟨g, dsF_mem h1, h2⟩, fun ⟨g, h1, h2⟩ => ?_⟩
  obtain ⟨g', h3, h4⟩ := dst_has [] fs g (fun g hg => by cases hg) hf h1
  exact ⟨g', h3, h4.trans h2⟩
/-- the order of rows in whole numbers -/
def oz (x y : aR) : Int := if x.1 = y.1 then (if x.2.1 = y.2.1 then (if x.1 = 9 then (if cz (fold x.2.2.2.1) (fold y.2.2.2.1) = 0 then cz (fold x.2.2.1) (fold y.2.2.1) else cz (fold x.2.2.2.1) (fold y.2.2.2.1)) else cz (fold x.2.2.1) (fold y.2.2.1)) else x.2.1.toInt - y.2.1.toInt) else (x.1 : Int) - y.1
theorem set_Z {x : aR} (h : wfA x) : -1 ≤ x.2.1.toInt ∧ x.2.1.toInt ≤ 2000 := by
  obtain ⟨_, _, _, _, _, h1, h2, _⟩ := h
  by_cases c : x.1 = 8
  · obtain ⟨j, hj, e⟩ := h2 c
    rw [e, nI_Z (by omega)]; omega
  · rw [h1 c]; decide
theorem ord_Z {x y : aR} (hx : wfA x) (hy : wfA y) : (ordR x y).toInt = oz x y := by
  unfold ordR oz
  have hs := set_Z hx
  have ht := set_Z hy
  have k1 := hx.1
  have k2 := hy.1
  have eN := cmpN_Z hx.2.1 hy.2.1
  have eO := cmpN_Z hx.2.2.2.1 hy.2.2.2.1
  by_cases c1 : x.1 = y.1
  · rw [if_pos c1, if_pos c1]
    by_cases c2 : x.2.1 = y.2.1
    · rw [if_pos c2, if_pos c2]
      by_cases c3 : x.1 = 9
      · rw [if_pos c3, if_pos c3]
        by_cases c4 : cmpN x.2.2.2.1 y.2.2.2.1 = 0
        · rw [if_pos c4, if_pos (by rw [← eO, c4]; rfl)]; exact eN
        · rw [if_neg c4, if_neg (by rw [← eO]; exact fun h => c4 (Z_0.mpr h))]; exact eO
      · rw [if_neg c3, if_pos rfl, if_neg c3]; exact eN
    · rw [if_neg c2, if_neg c2]
      exact sub_Z rfl rfl (by omega) (by omega)
  · rw [if_neg c1, if_neg c1]
    exact sub_Z (nI_Z (by omega)) (nI_Z (by omega)) (by omega) (by omega)
theorem oz_n {x y : aR} : oz x y = - oz y x := by
  unfold oz
  by_cases c1 : x.1 = y.1
  · rw [if_pos c1, if_pos c1.symm]
    by_cases c2 : x.2.1 = y.2.1
    · rw [if_pos c2, if_pos c2.symm]
      have n1 := cz_n (fold x.2.2.1) (fold y.2.2.1)
      have n2 := cz_n (fold x.2.2.2.1) (fold y.2.2.2.1)
      by_cases c3 : x.1 = 9
      · rw [if_pos c3, if_pos (show y.1 = 9 by omega)]
        by_cases c4 : cz (fold x.2.2.2.1) (fold y.2.2.2.1) = 0
        · rw [if_pos c4, if_pos (show cz (fold y.2.2.2.1) (fold x.2.2.2.1) = 0 by omega)]; exact n1
        · rw [if_neg c4, if_neg (show ¬ cz (fold y.2.2.2.1) (fold x.2.2.2.1) = 0 by omega)]; exact n2
      · rw [if_neg c3, if_neg (show ¬ y.1 = 9 by omega)]; exact n1
    · rw [if_neg c2, if_neg (fun h => c2 h.symm)]; omega
  · rw [if_neg c1, if_neg (fun h => c1 h.symm)]; omega
def rky (x : aR) : Nat × Int32 × List Int32 × List Int32 := (x.1, x.2.1, (if x.1 = 9 then fold x.2.2.2.1 else []), fold x.2.2.1)
theorem oz_0 {x y : aR} : oz x y = 0 ↔ rky x = rky y := by
  unfold oz rky
  by_cases c1 : x.1 = y.1
  · rw [if_pos c1]
    by_cases c2 : x.2.1 = y.2.1
    · rw [if_pos c2]
      by_cases c3 : x.1 = 9
      · rw [if_pos c3, if_pos c3, if_pos (show y.1 = 9 by omega)]
        by_cases c4 : cz (fold x.2.2.2.1) (fold y.2.2.2.1) = 0
        · rw [if_pos c4, cz_0, c1, c2, (cz_0 _ _).mp c4]
          exact ⟨fun h => by rw [h], fun h => by simpa using h⟩
        · rw [if_neg c4]
          refine ⟨fun h => absurd h c4, fun h => absurd ((cz_0 _ _).mpr ?_) c4⟩
          have := congrArg (fun t => t.2.2.1) h
          exact this
      · rw [if_neg c3, if_neg c3, if_neg (show ¬ y.1 = 9 by omega), cz_0, c1, c2]
        exact ⟨fun h => by rw [h], fun h => by simpa using h⟩
    · rw [if_neg c2]
      refine ⟨fun h => absurd (Int32.toInt_inj.mp (show x.2.1.toInt = y.2.1.toInt by omega)) c2, fun h => absurd (congrArg (fun t => t.2.1) h) c2⟩
  · rw [if_neg c1]
    refine ⟨fun h => absurd (show x.1 = y.1 by omega) c1, fun h => absurd (congrArg (fun t => t.1) h) c1⟩
theorem oz_t {x y w : aR} (h1 : oz x y ≤ 0) (h2 : oz y w ≤ 0) : oz x w ≤ 0 := by
  unfold oz at *
  by_cases c1 : x.1 = y.1
  · rw [if_pos c1] at h1
    by_cases d1 : y.1 = w.1
    · rw [if_pos d1] at h2
      rw [if_pos (c1.trans d1)]
      by_cases c2 : x.2.1 = y.2.1
      · rw [if_pos c2] at h1
        by_cases d2 : y.2.1 = w.2.1
        · rw [if_pos d2] at h2
          rw [if_pos (c2.trans d2)]
          by_cases c3 : x.1 = 9
          · rw [if_pos c3] at h1 ⊢
            rw [if_pos (c1.symm.trans c3)] at h2
            have t1 := cz_t (fold x.2.2.1) (fold y.2.2.1) (fold w.2.2.1)
            have t2 := cz_t (fold x.2.2.2.1) (fold y.2.2.2.1) (fold w.2.2.2.1)
            have t3 := cz_t (fold w.2.2.2.1) (fold x.2.2.2.1) (fold y.2.2.2.1)
            have t4 := cz_t (fold y.2.2.2.1) (fold w.2.2.2.1) (fold x.2.2.2.1)
            have z1 := cz_0 (fold x.2.2.2.1) (fold y.2.2.2.1)
            have z2 := cz_0 (fold y.2.2.2.1) (fold w.2.2.2.1)
            have z3 := cz_0 (fold x.2.2.2.1) (fold w.2.2.2.1)
            have n1 := cz_n (fold x.2.2.2.1) (fold y.2.2.2.1)
            have n2 := cz_n (fold y.2.2.2.1) (fold w.2.2.2.1)
            have n3 := cz_n (fold x.2.2.2.1) (fold w.2.2.2.1)
            by_cases c4 : cz (fold x.2.2.2.1) (fold y.2.2.2.1) = 0
            · rw [if_pos c4] at h1
              by_cases d4 : cz (fold y.2.2.2.1) (fold w.2.2.2.1) = 0
              · rw [if_pos d4] at h2
                rw [if_pos (z3.mpr ((z1.mp c4).trans (z2.mp d4)))]
                exact t1 h1 h2
              · rw [if_neg d4] at h2
                rw [if_neg (by rw [z1.mp c4]; exact d4), z1.mp c4]; exact h2
            · rw [if_neg c4] at h1
              by_cases d4 : cz (fold y.2.2.2.1) (fold w.2.2.2.1) = 0
              · rw [if_neg (by rw [← z2.mp d4]; exact c4), ← z2.mp d4]; exact h1
              · rw [if_neg d4] at h2
                by_cases e4 : cz (fold x.2.2.2.1) (fold w.2.2.2.1) = 0
                · rw [z3.mp e4] at h1 c4 n1; omega
                · rw [if_neg e4]; exact t2 h1 h2
          · rw [if_neg c3] at h1 ⊢
            rw [if_neg (fun h => c3 (c1.trans h))] at h2
            exact cz_t _ _ _ h1 h2
        · rw [if_neg d2] at h2
          rw [if_neg (by rw [c2]; exact d2), c2]; exact h2
      · rw [if_neg c2] at h1
        by_cases d2 : y.2.1 = w.2.1
        · rw [if_neg (by rw [← d2]; exact c2), ← d2]; exact h1
        · rw [if_neg d2] at h2
          have n1 : x.2.1.toInt ≠ y.2.1.toInt := fun h => c2 (Int32.toInt_inj.mp h)
          by_cases e : x.2.1 = w.2.1
          · rw [e] at h1 n1; omega
          · rw [if_neg e]; omega
    · rw [if_neg d1] at h2
      rw [if_neg (by rw [c1]; exact d1), c1]; exact h2
  · rw [if_neg c1] at h1
    by_cases d1 : y.1 = w.1
    · rw [if_neg (by rw [← d1]; exact c1), ← d1]; exact h1
    · rw [if_neg d1] at h2
      by_cases e : x.1 = w.1
      · omega
      · rw [if_neg e]; omega
theorem ord_lt {x y : aR} (hx : wfA x) (hy : wfA y) : ordR x y < 0 ↔ oz x y < 0 := by
  rw [Int32.lt_iff_toInt_lt, ord_Z hx hy]; exact Iff.rfl
theorem ord_gt {x y : aR} (hx : wfA x) (hy : wfA y) : 0 < ordR x y ↔ 0 < oz x y := by
  rw [Int32.lt_iff_toInt_lt, ord_Z hx hy]; exact Iff.rfl
theorem ord_0 {x y : aR} (hx : wfA x) (hy : wfA y) : ordR x y = 0 ↔ rky x = rky y := by
  rw [Z_0, ord_Z hx hy, oz_0]
end ORDZ
