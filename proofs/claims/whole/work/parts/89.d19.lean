/-! LAYER 2: the class's same and differ -/
section CSAME
variable {N z : Nat} {M M' M'' : hM} {A B : aPk} {a a' : Nat} {f : Nat → Int32} {n : Nat} {pk : List aPk} {ch : List (Nat × Nat)} {pr : List Int32}
theorem ffn_some {x : aR} : ∀ (l : List aR) (t : List Bool) (k j : Nat), ffn x l t k = some j → ∃ i, j = k + i ∧ t[i]? = some false
  | [], t, k, j, h => by cases t <;> cases h
  | y :: l, [], k, j, h => by cases h
  | y :: l, b :: t, k, j, h => by
    unfold ffn at h
    split at h
    · rename_i c
      cases h
      exact ⟨0, rfl, by rw [c.1]; rfl⟩
    · obtain ⟨i, h1, h2⟩ := ffn_some l t (k + 1) j h
      exact ⟨i + 1, by omega, by rw [List.getElem?_cons_succ]; exact h2⟩
theorem cnt_set : ∀ (t : List Bool) (i : Nat), t[i]? = some false → (t.set i true).count false + 1 = t.count false
  | [], i, h => by rw [List.getElem?_nil] at h; cases h
  | b :: t, 0, h => by
    cases h
    show (true :: t).count false + 1 = (false :: t).count false
    rw [List.count_cons_of_ne (by decide), List.count_cons_self]
  | b :: t, i + 1, h => by
    rw [List.getElem?_cons_succ] at h
    have := cnt_set t i h
    show (b :: t.set i true).count false + 1 = (b :: t).count false
    rw [List.count_cons, List.count_cons]
    omega
theorem prL_cnt {lb : List aR} : ∀ (la : List aR) (t : List Bool), (prL lb la t).1.length = la.length ∧ (prL lb la t).2.length = t.length ∧ (prL lb la t).2.count false + (prL lb la t).1.count true = t.count false
  | [], t => ⟨rfl, rfl, rfl⟩
  | x :: la, t => by
    rw [show prL lb (x :: la) t = match ffn x lb t 0 with
      | some j => (true :: (prL lb la (t.set j true)).1, (prL lb la (t.set j true)).2)
      | none => (false :: (prL lb la t).1, (prL lb la t).2) from rfl]
    cases hf : ffn x lb t 0 with
    | none =>
      obtain ⟨h1, h2, h3⟩ := prL_cnt (lb := lb) la t
      exact ⟨by show _ + 1 = _ + 1; rw [h1], h2, by dsimp only; rw [List.count_cons_of_ne (by decide)]; exact h3⟩
    | some j =>
      obtain ⟨h1, h2, h3⟩ := prL_cnt (lb := lb) la (t.set j true)
      obtain ⟨i, e1, e2⟩ := ffn_some lb t 0 j hf
      rw [Nat.zero_add] at e1
      rw [← e1] at e2
      have := cnt_set t j e2
      exact ⟨by show _ + 1 = _ + 1; rw [h1], by rw [h2, List.length_set], by dsimp only; rw [List.count_cons_self]; omega⟩
theorem alI_cnt : ∀ (i : Nat) (l : List Bool), (alI i l).length = l.count false
  | i, [] => rfl
  | i, b :: l => by
    unfold alI
    cases b with
    | true => rw [if_pos rfl, List.count_cons_of_ne (by decide)]; exact alI_cnt (i + 1) l
    | false => rw [if_neg (by decide), List.count_cons_self, List.length_cons, alI_cnt (i + 1) l]
theorem cnt_tf : ∀ (l : List Bool), l.count true + l.count false = l.length
  | [] => rfl
  | b :: l => by
    have := cnt_tf l
    rw [List.count_cons, List.count_cons, List.length_cons]
    cases b <;> simp <;> omega
theorem alone_len {la lb : List aR} : (alone la lb).length + 2 * (prL lb la (flF lb)).1.count true = la.length + lb.length := by
  obtain ⟨h1, h2, h3⟩ := prL_cnt (lb := lb) la (flF lb)
  have h4 := cnt_tf (prL lb la (flF lb)).1
  unfold alone
  rw [List.length_append, List.length_map, List.length_map, alI_cnt, alI_cnt]
  have h5 : (flF lb).count false = lb.length := by unfold flF; rw [List.count_replicate_self]
  omega
theorem s_countAlone {uA uB : Nat → Int32} (hN : 2001 ≤ N) (oA : okP A) (oB : okP B) (hP : cPa z M) (hA : pkB (z + 43) M a A uA) (hB : pkB (z + 43) M a' B uB) :
    ∃ M' f1 f2, (f_Pairing_countAlone N (z + 10) (some a) (some a')).1 M = some (nI (alone A.2.2.2 B.2.2.2).length, M') ∧ M'.1 (z + 11) = some (.inl (5, 200, .inl f1)) ∧ M'.1 (z + 12) = some (.inl (5, 200, .inl f2)) ∧ qfr z M M' ∧ (∀ j b, (prL B.2.2.2 A.2.2.2 (flF B.2.2.2)).1[j]? = some b → f1 j = bZ b) ∧ (∀ j b, (prL B.2.2.2 A.2.2.2 (flF B.2.2.2)).2[j]? = some b → f2 j = bZ b) := by
  obtain ⟨h10, ⟨g1, h11⟩, ⟨g2, h12⟩⟩ := hP
  have hlA := oA.1.2.2.2.1
  have hlB := oB.1.2.2.2.1
  obtain ⟨e1, x1, x2⟩ := s_clear (N := N) (M := M) (A := z + 11) 200 N 0 g1 (by omega) (by omega) (fun j hj => absurd hj (Nat.not_lt_zero _))
  rw [up_self (show M.1 (z + 11) = some (bAr g1) from h11)] at x1
  have q1 : qfr z M (hm_up M (z + 11) (bAr e1)) := ⟨rfl, fun b n1 _ => up_n n1⟩
  have h12' : (hm_up M (z + 11) (bAr e1)).1 (z + 12) = some (bAr g2) := (up_n (by omega)).trans h12
  obtain ⟨e2, y1, y2⟩ := s_clear (N := N) (M := hm_up M (z + 11) (bAr e1)) (A := z + 12) 200 N 0 g2 (by omega) (by omega) (fun j hj => absurd hj (Nat.not_lt_zero _))
  rw [up_self h12'] at y1
  have q2 : qfr z M (hm_up (hm_up M (z + 11) (bAr e1)) (z + 12) (bAr e2)) := ⟨rfl, fun b n1 n2 => (up_n n2).trans (up_n n1)⟩
  obtain ⟨M', f1, f2, w1, w2, w3, w4, w5, w6, w7⟩ := s_count (N := N) hN oA oB A.2.2.2.length N 0 0 0 (hm_up (hm_up M (z + 11) (bAr e1)) (z + 12) (bAr e2)) (flF B.2.2.2) e1 e2 (by omega) (by omega) (hA.f q2.d) (hB.f q2.d) ((q2.2 _ (by omega) (by omega)).trans h10) ((up_n (by omega)).trans up_s) up_s (by unfold flF; exact List.length_replicate) (fun j b hb => by
    have hj := (List.getElem?_eq_some_iff.mp hb).1
    unfold flF at hb hj
    rw [List.length_replicate] at hj
    rw [List.getElem?_replicate, if_pos hj] at hb
    cases hb
    exact y2 j (by omega)) (fun j _ hj => x2 j hj) (Nat.zero_le _) (fun j y x hj => absurd hj (Nat.not_lt_zero _)) (Nat.le_refl _)
  rw [List.drop_zero] at w1 w6 w7
  refine ⟨M', f1, f2, ?_, w2, w3, q2.tr w4, fun j b hb => by have := w6 j b hb; rw [Nat.zero_add] at this; exact this, w7⟩
  rw [e_Pairing_countAlone]
  refine (r_getR (r := some (z + 11)) h10 rfl).trans (r_callE.trans ?_)
  rw [e_Pairing_clear, show (f_Pairing_clear_2 N (some (z + 11)) N 0).1 M = _ from x1, Option.bind_some]
  dsimp only
  refine (r_getR (r := some (z + 12)) ((up_n (by omega)).trans h10) rfl).trans (r_callE.trans ?_)
  rw [e_Pairing_clear, show (f_Pairing_clear_2 N (some (z + 12)) N 0).1 _ = _ from y1, Option.bind_some]
  dsimp only
  rw [show (f_Pairing_countAlone_22 N (z + 10) (some a) (some a') N 0 0 0).1 _ = _ from w1]
  have hL := alone_len (la := A.2.2.2) (lb := B.2.2.2)
  have e : nI A.2.2.2.length + nI B.2.2.2.length - 2 * nI (0 + (prL B.2.2.2 A.2.2.2 (flF B.2.2.2)).1.count true) = nI (alone A.2.2.2 B.2.2.2).length := by
    rw [Nat.zero_add, show (2 : Int32) * nI ((prL B.2.2.2 A.2.2.2 (flF B.2.2.2)).1.count true) = nI (2 * (prL B.2.2.2 A.2.2.2 (flF B.2.2.2)).1.count true) from nI_mul, nI_add, ← hL, ← nI_add, Int32.add_sub_cancel]
  rw [e]
theorem CI.q (h : CI z M f n pk ch pr) (g : qfr z M M') (h11 : ∃ b, M'.1 (z + 11) = some (.inl (5, 200, .inl b))) (h12 : ∃ b, M'.1 (z + 12) = some (.inl (5, 200, .inl b))) : CI z M' f n pk ch pr := by
  obtain ⟨tf, h1, h2, h3, h4, h5, h6, h7⟩ := h
  have e' : ∀ b, b ≠ z + 11 → b ≠ z + 12 → M'.1 b = M.1 b := g.2
  exact ⟨tf, (e' _ (by omega) (by omega)).trans h1, h2.fr (e' _ (by omega) (by omega)) (e' _ (by omega) (by omega)), h3.fr (by rw [g.1]; exact Nat.le_refl _) (e' _ (by omega) (by omega)) (e' _ (by omega) (by omega)) (e' _ (by omega) (by omega)) (e' _ (by omega) (by omega)), h4.fr g.d (e' _ (by omega) (by omega)), h5.fr (e' _ (by omega) (by omega)) (e' _ (by omega) (by omega)), ⟨(e' _ (by omega) (by omega)).trans h6.1, h11, h12⟩, h7.fr (e' _ (by omega) (by omega))⟩
/-- folded, no two alike -/
theorem dst_nd : ∀ (acc fs : List (List Int32)), (∀ w, w ∈ acc → wfN w) → (∀ w, w ∈ fs → wfN w) → (acc.map fold).Nodup → ((dst acc fs).map fold).Nodup
  | acc, [], _, _, h => h
  | acc, x :: t, ha, hf, h => by
    have hx := hf x List.mem_cons_self
    have ht : ∀ g, g ∈ t → wfN g := fun g hg => hf g (List.mem_cons_of_mem _ hg)
    unfold dst
    split
    · exact dst_nd acc t ha ht h
    · rename_i c
      refine dst_nd (acc ++ [x]) t (fun g hg => ?_) ht ?_
      · rcases List.mem_append.mp hg with y | y
        · exact ha g y
        · rw [List.mem_singleton.mp y]; exact hx
      · rw [List.map_append]
        refine List.nodup_append.mpr ⟨h, List.nodup_cons.mpr ⟨by simp, List.nodup_nil⟩, fun p hp q hq e => ?_⟩
        rw [List.map_singleton, List.mem_singleton] at hq
        obtain ⟨g, hg, eg⟩ := List.mem_map.mp hp
        exact c ((hasF_iff hx ha).mpr ⟨g, hg, by rw [eg, e, hq]⟩)
theorem nd_le {α : Type} [DecidableEq α] : ∀ (l1 l2 : List α), l1.Nodup → (∀ x, x ∈ l1 → x ∈ l2) → l1.length ≤ l2.length
  | [], l2, _, _ => Nat.zero_le _
  | a :: l1, l2, hn, hs => by
    have hn' := List.nodup_cons.mp hn
    have ha := hs a List.mem_cons_self
    have := nd_le l1 (l2.erase a) hn'.2 (fun x hx => (List.mem_erase_of_ne (fun e => hn'.1 (by rw [← e]; exact hx))).mpr (hs x (List.mem_cons_of_mem _ hx)))
    rw [List.length_erase_of_mem ha] at this
    have hp : 0 < l2.length := List.length_pos_of_mem ha
    rw [List.length_cons]; omega
theorem hasA_ds {fa fb : List (List Int32)} (ha : ∀ w, w ∈ fa → wfN w) (hb : ∀ w, w ∈ fb → wfN w) : ((dsF fa).length = (dsF fb).length ∧ (∀ w, w ∈ dsF fa → hasF w fb = true)) ↔ (hasA fa fb = true ∧ hasA fb fa = true) := by
  have da : ∀ w, w ∈ dsF fa → wfN w := fun w hw => ha w (dsF_mem hw)
  have db : ∀ w, w ∈ dsF fb → wfN w := fun w hw => hb w (dsF_mem hw)
  have na := dst_nd [] fa (fun w hw => by cases hw) ha List.nodup_nil
  have nb := dst_nd [] fb (fun w hw => by cases hw) hb List.nodup_nil
  have sub : ∀ (f1 f2 : List (List Int32)), (∀ w, w ∈ f1 → wfN w) → (∀ w, w ∈ f2 → wfN w) → (∀ w, w ∈ dsF f1 → hasF w f2 = true) → ∀ x, x ∈ (dsF f1).map fold → x ∈ (dsF f2).map fold := by
    intro f1 f2 h1 h2 h x hx
    obtain ⟨w, hw, e⟩ := List.mem_map.mp hx
    obtain ⟨g, hg, eg⟩ := (hasF_iff (h1 w (dsF_mem hw)) h2).mp (h w hw)
    obtain ⟨g', hg', eg'⟩ := dst_has [] f2 g (fun w hw => by cases hw) h2 hg
    exact List.mem_map.mpr ⟨g', hg', by rw [eg', eg, e]⟩
  have all : ∀ (f1 f2 : List (List Int32)), (∀ w, w ∈ f1 → wfN w) → (∀ w, w ∈ f2 → wfN w) → (∀ x, x ∈ (dsF f1).map fold → x ∈ (dsF f2).map fold) → hasA f1 f2 = true := by
    intro f1 f2 h1 h2 h
    unfold hasA
    rw [List.all_eq_true]
    intro w hw
    obtain ⟨g, hg, eg⟩ := dst_has [] f1 w (fun w hw => by cases hw) h1 hw
    obtain ⟨g', hg', eg'⟩ := List.mem_map.mp (h (fold g) (List.mem_map.mpr ⟨g, hg, rfl⟩))
    exact (hasF_iff (h1 w hw) h2).mpr ⟨g', dsF_mem hg', by rw [eg', eg]⟩
  constructor
  · rintro ⟨h1, h2⟩
    have s1 := sub fa fb ha hb h2
    refine ⟨all fa fb ha hb s1, all fb fa hb ha (fun x hx => ?_)⟩
    refine Classical.byContradiction (fun c => ?_)
    have := nd_le (x :: (dsF fa).map fold) ((dsF fb).map fold) (List.nodup_cons.mpr ⟨c, na⟩) (fun y hy => by
      rcases List.mem_cons.mp hy with e | e
      · rw [e]; exact hx
      · exact s1 y e)
    rw [List.length_cons, List.length_map, List.length_map] at this
    omega
  · rintro ⟨h1, h2⟩
    unfold hasA at h1 h2
    rw [List.all_eq_true] at h1 h2
    have p1 : ∀ w, w ∈ dsF fa → hasF w fb = true := fun w hw => h1 w (dsF_mem hw)
    have p2 : ∀ w, w ∈ dsF fb → hasF w fa = true := fun w hw => h2 w (dsF_mem hw)
    have l1 := nd_le _ _ na (sub fa fb ha hb p1)
    have l2 := nd_le _ _ nb (sub fb fa hb ha p2)
    rw [List.length_map, List.length_map] at l1 l2
    refine ⟨?_, p1⟩
    have l1' : (dsF fa).length ≤ (dsF fb).length := l1
    have l2' : (dsF fb).length ≤ (dsF fa).length := l2
    omega
end CSAME
