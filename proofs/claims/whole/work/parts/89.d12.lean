/-! LAYER 2: what the rows in NORMAL FORM are like -/
section NORM
variable {w : Nat} {st : aP}
theorem swG_v {G : Nat → aR} {i j : Nat} : swG G i j = G (if j = i + 1 then i else if j = i then i + 1 else j) := by
  unfold swG
  by_cases c1 : j = i + 1
  · rw [if_pos c1, c1, ua_s]
  · rw [if_neg c1, ua_n c1]
    by_cases c2 : j = i
    · rw [if_pos c2, c2, ua_s]
    · rw [if_neg c2, ua_n c2]
theorem insG_all {Q : aR → Prop} : ∀ (t : Nat) (G : Nat → aR), (∀ i, i ≤ t → Q (G i)) → ∀ i, i ≤ t → Q (insG t G i)
  | 0, G, h => h
  | t + 1, G, h => by
    unfold insG
    split
    · intro i hi
      by_cases e : i = t + 1
      · rw [e]
        have : ∀ (t : Nat) (G : Nat → aR) (j : Nat), t < j → insG t G j = G j := by
          intro t
          induction t with
          | zero => intro G j _; rfl
          | succ t ih =>
            intro G j hj
            unfold insG
            split
            · rw [ih _ _ (by omega), swG_v, if_neg (by omega), if_neg (by omega)]
            · rfl
        rw [this _ _ _ (Nat.lt_succ_self t), swG_v, if_pos rfl]
        exact h t (by omega)
      · refine insG_all t _ (fun j hj => ?_) i (by omega)
        rw [swG_v]
        split
        · exact h _ (by omega)
        · split
          · exact h _ (by omega)
          · exact h _ (by omega)
    · exact h
theorem insG_o : ∀ (t : Nat) (G : Nat → aR) (j : Nat), t < j → insG t G j = G j
  | 0, G, j, _ => rfl
  | t + 1, G, j, hj => by
    unfold insG
    split
    · rw [insG_o t _ _ (by omega), swG_v, if_neg (by omega), if_neg (by omega)]
    · rfl
theorem insG_w {Q : aR → Prop} {t : Nat} {G : Nat → aR} (ht : t < w) (h : ∀ i, i < w → Q (G i)) : ∀ i, i < w → Q (insG t G i) := by
  intro i hi
  by_cases e : i ≤ t
  · exact insG_all t G (fun j hj => h j (by omega)) i e
  · rw [insG_o _ _ _ (by omega)]; exact h i hi
theorem srtG_w {Q : aR → Prop} : ∀ (d k : Nat) (G : Nat → aR), d + k ≤ w → (∀ i, i < w → Q (G i)) → ∀ i, i < w → Q (srtG d k G i)
  | 0, k, G, _, h => h
  | d + 1, k, G, hd, h => srtG_w d (k + 1) (insG k G) (by omega) (insG_w (by omega) h)
def srd (k : Nat) (G : Nat → aR) : Prop := ∀ i j, i < j → j < k → oz (G i) (G j) ≤ 0
theorem insG_s : ∀ (t : Nat) (G : Nat → aR), (∀ i, i ≤ t → wfA (G i)) → srd t G → srd (t + 1) (insG t G)
  | 0, G, _, _ => fun i j h1 h2 => by omega
  | t + 1, G, hw, hs => by
    unfold insG
    have oN : oz (G t) (G (t + 1)) = - oz (G (t + 1)) (G t) := oz_n
    by_cases c : 0 < ordR (G t) (G (t + 1))
    · rw [if_pos c]
      have c' := (ord_gt (hw t (by omega)) (hw (t + 1) (by omega))).mp c
      have hw' : ∀ i, i ≤ t → wfA (swG G t i) := fun i hi => by
        rw [swG_v]
        split
        · exact hw _ (by omega)
        · split <;> exact hw _ (by omega)
      have h1 := insG_s t (swG G t) hw' (fun i j hi hj => by
        rw [swG_v, swG_v, if_neg (by omega), if_neg (by omega), if_neg (by omega), if_neg (by omega)]
        exact hs i j hi (by omega))
      have h2 := insG_all (Q := fun y => oz y (G t) ≤ 0) t (swG G t) (fun i hi => by
        rw [swG_v, if_neg (by omega)]
        split
        · omega
        · exact hs i t (by omega) (by omega))
      intro i j hi hj
      by_cases e : j = t + 1
      · rw [e, insG_o _ _ (t + 1) (by omega), swG_v, if_pos rfl]
        exact h2 i (by omega)
      · exact h1 i j hi (by omega)
    · rw [if_neg c]
      have c' : ¬ 0 < oz (G t) (G (t + 1)) := fun z => c ((ord_gt (hw t (by omega)) (hw (t + 1) (by omega))).mpr z)
      intro i j hi hj
      by_cases e : j = t + 1
      · rw [e]
        by_cases e2 : i = t
        · rw [e2]; omega
        · exact oz_t (hs i t (by omega) (by omega)) (by omega)
      · exact hs i j hi (by omega)
theorem srtG_s : ∀ (d k : Nat) (G : Nat → aR), (∀ i, i < d + k → wfA (G i)) → srd k G → srd (d + k) (srtG d k G)
  | 0, k, G, _, hs => by rw [Nat.zero_add]; exact hs
  | d + 1, k, G, hw, hs => by
    have := srtG_s d (k + 1) (insG k G) (insG_w (Q := wfA) (w := d + (k + 1)) (by omega) (fun i hi => hw i (by omega))) (insG_s k G (fun i hi => hw i (by omega)) hs)
    rw [show d + 1 + k = d + (k + 1) by omega]
    exact this
theorem jnS_all {G : Nat → aR} (hG : ∀ i, i < w → wfA (G i)) : ∀ (d k : Nat) (o : List aR), d + k = w → (∀ x, x ∈ o → wfA x) → ∀ x, x ∈ jnS d k o G → wfA x
  | 0, k, o, _, h => h
  | d + 1, k, [], hd, h => jnS_all hG d (k + 1) [G k] (by omega) (fun x hx => by rw [List.mem_singleton.mp hx]; exact hG k (by omega))
  | d + 1, k, a :: o, hd, h => by
    rw [show jnS (d + 1) k (a :: o) G = @ite _ (joR a (G k)) (Classical.propDecidable _) (jnS d (k + 1) (jnR a (G k) :: o) G) (jnS d (k + 1) (G k :: a :: o) G) from rfl]
    by_cases c : joR a (G k)
    · rw [if_pos c]
      refine jnS_all hG d (k + 1) _ (by omega) (fun x hx => ?_)
      rcases List.mem_cons.mp hx with e | e
      · rw [e]; exact wfA_jn (h a List.mem_cons_self) (hG k (by omega)) c
      · exact h x (List.mem_cons_of_mem _ e)
    · rw [if_neg c]
      refine jnS_all hG d (k + 1) _ (by omega) (fun x hx => ?_)
      rcases List.mem_cons.mp hx with e | e
      · rw [e]; exact hG k (by omega)
      · exact h x e
theorem jnS_s {G : Nat → aR} (hs : srd w G) : ∀ (d k : Nat) (o : List aR), d + k = w → List.Pairwise (fun a b => oz b a ≤ 0) o → (∀ a, a ∈ o → ∀ i, k ≤ i → i < w → oz a (G i) ≤ 0) → List.Pairwise (fun a b => oz b a ≤ 0) (jnS d k o G)
  | 0, k, o, _, h, _ => h
  | d + 1, k, [], hd, h, h2 => jnS_s hs d (k + 1) [G k] (by omega) (List.pairwise_singleton _ _) (fun a ha i hi hi2 => by rw [List.mem_singleton.mp ha]; exact hs k i (by omega) hi2)
  | d + 1, k, a :: o, hd, h, h2 => by
    rw [show jnS (d + 1) k (a :: o) G = @ite _ (joR a (G k)) (Classical.propDecidable _) (jnS d (k + 1) (jnR a (G k) :: o) G) (jnS d (k + 1) (G k :: a :: o) G) from rfl]
    have h' := List.pairwise_cons.mp h
    by_cases c : joR a (G k)
    · rw [if_pos c]
      refine jnS_s hs d (k + 1) _ (by omega) (List.pairwise_cons.mpr ⟨fun b hb => ?_, h'.2⟩) (fun b hb i hi hi2 => ?_)
      · exact h'.1 b hb
      · rcases List.mem_cons.mp hb with e | e
        · rw [e]; exact h2 a List.mem_cons_self i (by omega) hi2
        · exact h2 b (List.mem_cons_of_mem _ e) i (by omega) hi2
    · rw [if_neg c]
      refine jnS_s hs d (k + 1) _ (by omega) (List.pairwise_cons.mpr ⟨fun b hb => ?_, h⟩) (fun b hb i hi hi2 => ?_)
      · exact h2 b hb k (Nat.le_refl _) (by omega)
      · rcases List.mem_cons.mp hb with e | e
        · rw [e]; exact hs k i (by omega) hi2
        · exact h2 b e i (by omega) hi2
theorem gOf_wf {f : Nat → Int32} {n : Nat} (hX : XS f n st) : ∀ i, i < st.1.length → wfA (gOf st i) := by
  intro i hi
  have e : gOf st i = st.1[i].1 := by
    unfold gOf
    rw [List.getD_eq_getElem?_getD, List.getElem?_eq_getElem hi]; rfl
  rw [e]
  exact (hX.1 _ (List.getElem_mem hi)).1
theorem mkR_wf {f : Nat → Int32} {n : Nat} (hX : XS f n st) : ∀ x, x ∈ mkR st → wfA x := by
  intro x hx
  unfold mkR at hx
  rw [List.mem_reverse] at hx
  by_cases c : st.1.length = 0
  · rw [c] at hx; cases hx
  · exact jnS_all (srtG_w (Q := wfA) (w := st.1.length) (st.1.length - 1) 1 (gOf st) (by omega) (gOf_wf hX)) st.1.length 0 [] (by omega) (fun x hx => by cases hx) x hx
theorem mkR_s {f : Nat → Int32} {n : Nat} (hX : XS f n st) : List.Pairwise (fun x y => oz x y ≤ 0) (mkR st) := by
  unfold mkR
  rw [List.pairwise_reverse]
  by_cases c : st.1.length = 0
  · rw [c]; exact List.Pairwise.nil
  · have h1 := srtG_s (st.1.length - 1) 1 (gOf st) (fun i hi => gOf_wf hX i (by omega)) (fun i j hi hj => by omega)
    rw [show st.1.length - 1 + 1 = st.1.length by omega] at h1
    exact jnS_s h1 st.1.length 0 [] (by omega) List.Pairwise.nil (fun a ha => by cases ha)
theorem mkR_len : (mkR st).length ≤ st.1.length := by
  unfold mkR
  rw [List.length_reverse]
  have := jnS_len (g := srtG (st.1.length - 1) 1 (gOf st)) st.1.length 0 []
  have e : ([] : List aR).length = 0 := rfl
  omega
theorem wfP_mk {f : Nat → Int32} {n : Nat} (h8 : fit8 f) (hn : n ≤ 2000) {nm : List Int32} {v : Nat} (h : pTx f n = .inr (nm, v, st)) : wfP (mkP nm v st) := by
  obtain ⟨hX, h1, h2, h3, h4⟩ := pTx_inv h8 hn h
  refine ⟨h2, fun w hw => (hX.2.1 w hw).1, ?_, ?_, mkR_wf hX, h4⟩
  · show st.2.1.length ≤ 181; omega
  · show (mkR st).length ≤ 200
    exact Nat.le_trans mkR_len hX.2.2
end NORM
