/-! LAYER 2: how long what is printed may be: the rows of a text -/
/-- a text row adds no more than its signs, ten a row and one a feature -/
def PhB (st st' : aP) (s q : Nat) : Prop := Phi st' + s + 10 * st.1.length + st.2.1.length ≤ Phi st + q + 10 * st'.1.length + st'.2.1.length ∧ Qs st'.2.2 st'.2.1 st'.1
section PHB
variable {f : Nat → Int32} {n k : Nat} {st st' : aP}
theorem we_gap {q : Nat} (hq : q ≤ n) (h : sp f n (we f n q) < n) (hc : cL (f (sp f n (we f n q))) ∨ cD (f (sp f n (we f n q))) ∨ cB (f (sp f n (we f n q)))) : we f n q + 1 ≤ sp f n (we f n q) := by
  have hsg := sp_ge (f := f) (n := n) (k := we f n q)
  by_cases c : sp f n (we f n q) = we f n q
  · exfalso
    rw [c] at hc h
    have hle := we_le (f := f) hq
    have hge : q ≤ we f n q := wen_ge _ _
    exact wen_end (f := f) (n - q) q (by show we f n q < q + (n - q); omega) hc
  · omega
theorem wl_k {i : Nat} (h : i < 12) : 3 ≤ (sB.getD (ktx i) []).length ∧ (sB.getD (ktx i) []).length ≤ 8 := by
  have : ∀ i, i < 12 → 3 ≤ (sB.getD (ktx i) []).length ∧ (sB.getD (ktx i) []).length ≤ 8 := by decide +kernel
  exact this i h
theorem rg_B (h8 : fit8 f) {q0 kd q H s : Nat} (hQ : Qs st.2.2 st.2.1 st.1) (hk : k ≤ n) (hkd : kd < 7) (hH : ∀ (s : Int32) (nm : List Int32) (lo hi : Int64), gcH (kd, s, nm, [], lo, hi, false) = H) (hs : s + H ≤ sp f n k + 3) (h : pRg f n q0 kd st k = .inr (q, st')) : PhB st st' s (q + 1) := by
  obtain ⟨p1, x, e1, x8, xs⟩ := rg_Phi h8 hk (Or.inl hkd) hH h
  have hl1 : st'.1.length = st.1.length + 1 := by rw [e1, List.length_append]; rfl
  have h2 : st'.2 = st.2 := by rw [e1]
  refine ⟨by rw [hl1, h2]; omega, ?_⟩
  rw [e1]
  refine Qs_ad hQ ⟨fun z => ?_, fun z => ?_⟩ <;> omega
theorem any_B (h8 : fit8 f) {q0 q s : Nat} (hQ : Qs st.2.2 st.2.1 st.1) (hk : k ≤ n) (hs : s + 3 ≤ k) (h : pAny f n q0 st k = .inr (q, st')) : PhB st st' s (q + 1) := by
  unfold pAny at h
  cases hr : pAn f n q0 201 true st k with
  | inl w => rw [hr] at h; cases h
  | inr x =>
    obtain ⟨q2, st1⟩ := x
    rw [hr] at h
    cases h
    obtain ⟨⟨m, m1, m2⟩, m3, m4⟩ := an_Phi h8 (S := st.2.2 + 1) (F := st.2.1) 201 true st k q st1 hk hr (by omega) (Qs_mono hQ (by omega) (fun _ h => h))
    have e1 : st1.2.1 = st.2.1 := by rw [m3]
    have e2 : st1.2.2 = st.2.2 := by rw [m3]
    refine ⟨?_, ?_⟩
    · have ep : Phi (st1.1, st1.2.1, st1.2.2 + 1) = Phi st1 + 3 := by unfold Phi; dsimp only; omega
      rw [ep]
      dsimp only
      rw [e1]
      omega
    · dsimp only
      rw [e1, e2]
      exact m4
theorem nm_B {q0 kd H q s u : Nat} {ot : List Int32} (hQ : Qs st.2.2 st.2.1 st.1) (hkd : 8 < kd ∧ kd < 14) (hH : ∀ (s : Int32) (nm : List Int32) (lo hi : Int64), gcH (kd, s, nm, ot, lo, hi, false) = H) (ho : kd = 9 → ot ∈ st.2.1) (hH2 : H ≤ 11) (hs : s + H ≤ k + 11) (h : pNm f n q0 kd ot u st k = .inr (q, st')) : PhB st st' s (q + 1) := by
  obtain ⟨⟨m, m1, m2⟩, m3, m4⟩ := nm_Phi hkd hH ho u st k q st' h hQ
  refine ⟨?_, by rw [m3]; exact m4⟩
  have e1 : (m + 1) * H = m * H + H := by rw [Nat.add_mul, Nat.one_mul]
  have e2 : m * H ≤ m * 11 := Nat.mul_le_mul_left _ hH2
  rw [m3]
  omega
theorem ft_B {q0 q s : Nat} (hQ : Qs st.2.2 st.2.1 st.1) (hs : s ≤ n) (hk : k = we f n s) (hw : k = s + 7) (h : pFt f n q0 st k = .inr (q, st')) : PhB st st' s (q + 1) := by
  unfold pFt at h
  cases hr : nmR f n k with
  | inl w => rw [hr] at h; cases h
  | inr be =>
    obtain ⟨b, e⟩ := be
    obtain ⟨g0, _, g1, g2, g3, _⟩ := nmR_in hr
    have gg := nmR_gap hs hk hr
    rw [hr] at h
    dsimp only at h
    have s1 := sp_ge (f := f) (n := n) (k := e)
    have s2 := sp_ge (f := f) (n := n) (k := sp f n e + 1)
    have eP : Phi (st.1, st.2.1 ++ [wd f b e], st.2.2) = Phi st + 11 + (e - b) := by
      unfold Phi
      dsimp only
      rw [fS_app, fS_c, wd_len]
      have : fS [] = 0 := rfl
      omega
    have hQ1 : Qs st.2.2 (st.2.1 ++ [wd f b e]) st.1 := Qs_mono hQ (Nat.le_refl _) (fun w hw => List.mem_append_left _ hw)
    have hl : (st.2.1 ++ [wd f b e]).length = st.2.1.length + 1 := by rw [List.length_append]; rfl
    split at h
    · split at h
      · cases h
        refine ⟨?_, hQ1⟩
        rw [eP]
        dsimp only
        rw [hl]
        omega
      · obtain ⟨⟨m, m1, m2⟩, m3, m4⟩ := nm_Phi (H := 2) ⟨by decide, by decide⟩ (fun _ _ _ _ => rfl) (fun _ => List.mem_append_right _ (List.mem_singleton.mpr rfl)) 201 _ _ q st' h hQ1
        refine ⟨?_, by rw [m3]; exact m4⟩
        rw [eP] at m2
        dsimp only at m1
        rw [m3]
        dsimp only
        rw [hl]
        omega
    · cases h
theorem row_B {x : aR × Nat} {s q : Nat} (hQ : Qs st.2.2 st.2.1 st.1) (hx : x.1.1 ≠ 8 ∧ x.1.1 ≠ 9) (hg : gcR x.1 + s ≤ q + 11) (e : st' = (st.1 ++ [x], st.2)) : PhB st st' s (q + 1) := by
  rw [e]
  refine ⟨?_, ?_⟩
  · rw [Phi_ad]
    dsimp only
    rw [List.length_append]
    show _ ≤ Phi st + (q + 1) + 10 * (st.1.length + 1) + st.2.1.length
    omega
  · exact Qs_ad hQ ⟨fun z => absurd z hx.1, fun z => absurd z hx.2⟩
theorem pv_B (h8 : fit8 f) {q0 q s : Nat} (hQ : Qs st.2.2 st.2.1 st.1) (hk : k = s + 7) (h : pPv f n q0 st k = .inr (q, st')) : PhB st st' s (q + 1) := by
  unfold pPv at h
  cases hr : nmR f n k with
  | inl w => rw [hr] at h; cases h
  | inr be =>
    obtain ⟨b, e⟩ := be
    obtain ⟨g0, _, g1, g2, g3, _⟩ := nmR_in hr
    rw [hr] at h
    dsimp only at h
    have s0 := sp_ge (f := f) (n := n) (k := k)
    have s1 := sp_ge (f := f) (n := n) (k := e)
    cases hv : verR f n e with
    | inl w => rw [hv] at h; cases h
    | inr qx =>
      obtain ⟨q2, x⟩ := qx
      rw [hv] at h
      dsimp only at h
      obtain ⟨l1, _⟩ := verR_len h8 hv
      obtain ⟨_, hx⟩ := verR_lt h8 g3 hv
      obtain ⟨e1, e2⟩ := adR_e h
      have p : (10 : Nat) ^ 18 = 1000000000000000000 := by decide
      refine row_B hQ ⟨show 7 ≠ 8 by decide, show 7 ≠ 9 by decide⟩ ?_ e2
      show gcR (7, -1, wd f b e, [], lN x, lN (x + 1), false) + s ≤ _
      unfold gcR
      rw [if_neg (show ¬ (7 < 7 ∨ 7 = 8) by decide), gcH_k (show 5 ≤ 7 by decide) (show 7 ≠ 8 by decide) (show 7 ≠ 9 by decide)]
      have hrs : rsS (7, -1, wd f b e, [], lN x, lN (x + 1), false) = [32] ++ verS x := by
        unfold rsS
        rw [if_neg (show ¬ (7 < 7 ∨ 7 = 8) by decide), if_pos rfl]
        show [32] ++ verS (lnN (lN x)) = _
        rw [lnN_l (by omega)]
      rw [hrs, List.length_append]
      show 3 + 7 + (wd f b e).length + (1 + (verS x).length) + s ≤ _
      rw [wd_len]
      omega
theorem sc_B {q0 q s : Nat} (hQ : Qs st.2.2 st.2.1 st.1) (hk : k = s + 6) (h : pSc f n q0 st k = .inr (q, st')) : PhB st st' s (q + 1) := by
  unfold pSc at h
  cases hr : nmR f n k with
  | inl w => rw [hr] at h; cases h
  | inr be =>
    obtain ⟨b, e⟩ := be
    obtain ⟨g0, _, g1, g2, g3, _⟩ := nmR_in hr
    rw [hr] at h
    dsimp only at h
    have s0 := sp_ge (f := f) (n := n) (k := k)
    have s1 := sp_ge (f := f) (n := n) (k := e)
    cases hv : nmR f n e with
    | inl w => rw [hv] at h; cases h
    | inr qx =>
      obtain ⟨b2, ee2⟩ := qx
      rw [hv] at h
      dsimp only at h
      obtain ⟨k0, _, k1, k2, k3, _⟩ := nmR_in hv
      obtain ⟨e1, e2⟩ := adR_e h
      refine row_B hQ ⟨show 14 ≠ 8 by decide, show 14 ≠ 9 by decide⟩ ?_ e2
      show gcR (14, -1, wd f b e, wd f b2 ee2, -1, -1, false) + s ≤ _
      unfold gcR
      rw [if_neg (show ¬ (14 < 7 ∨ 14 = 8) by decide), gcH_k (show 5 ≤ 14 by decide) (show 14 ≠ 8 by decide) (show 14 ≠ 9 by decide)]
      have hrs : rsS (14, -1, wd f b e, wd f b2 ee2, -1, -1, false) = [32] ++ wd f b2 ee2 := by
        unfold rsS
        rw [if_neg (show ¬ (14 < 7 ∨ 14 = 8) by decide), if_neg (show ¬ 14 = 7 by decide), if_pos rfl]
      rw [hrs, List.length_append]
      show 3 + 6 + (wd f b e).length + (1 + (wd f b2 ee2).length) + s ≤ _
      rw [wd_len, wd_len]
      omega
theorem fi_B (h8 : fit8 f) {q0 q s : Nat} (hQ : Qs st.2.2 st.2.1 st.1) (hk : k = s + 4) (h : pFi f n q0 st k = .inr (q, st')) : PhB st st' s (q + 1) := by
  unfold pFi at h
  cases hr : nmR f n k with
  | inl w => rw [hr] at h; cases h
  | inr be =>
    obtain ⟨b, e⟩ := be
    obtain ⟨g0, _, g1, g2, g3, _⟩ := nmR_in hr
    rw [hr] at h
    dsimp only at h
    have s0 := sp_ge (f := f) (n := n) (k := k)
    have s1 := sp_ge (f := f) (n := n) (k := e)
    split at h
    · rename_i o1
      have b1 := nv_b h8 (m := n - sp f n e) (k := sp f n e)
      have g1 := den_ge (f := f) (n - sp f n e) (sp f n e)
      generalize nv f (sp f n e) (den f (n - sp f n e) (sp f n e) - sp f n e) = a at *
      generalize den f (n - sp f n e) (sp f n e) = q1 at *
      generalize sp f n e = k0 at *
      obtain ⟨e1, e2⟩ := adR_e h
      have o2 : 1 ≤ q1 - k0 ∧ q1 - k0 ≤ 6 := by
        unfold nuOk at o1
        omega
      have ha : a < 1000000 := by
        have := pw o2.1 o2.2
        omega
      have hl := numS_d o2.1 o2.2 b1
      refine row_B hQ ⟨show 15 ≠ 8 by decide, show 15 ≠ 9 by decide⟩ ?_ e2
      show gcR (15, -1, wd f b e, [], lN a, -1, false) + s ≤ _
      unfold gcR
      rw [if_neg (show ¬ (15 < 7 ∨ 15 = 8) by decide), gcH_k (show 5 ≤ 15 by decide) (show 15 ≠ 8 by decide) (show 15 ≠ 9 by decide)]
      have hrs : rsS (15, -1, wd f b e, [], lN a, -1, false) = [32] ++ numS a := by
        unfold rsS
        rw [if_neg (show ¬ (15 < 7 ∨ 15 = 8) by decide), if_neg (show ¬ 15 = 7 by decide), if_neg (show ¬ 15 = 14 by decide), if_pos rfl]
        show [32] ++ numS (lnN (lN a)) = _
        rw [lnN_l (by omega)]
      rw [hrs, List.length_append]
      show 3 + 4 + (wd f b e).length + (1 + (numS a).length) + s ≤ _
      rw [wd_len]
      omega
    · cases h
theorem nd_B (h8 : fit8 f) {q0 q s : Nat} (hQ : Qs st.2.2 st.2.1 st.1) (hs : s ≤ n) (hk : k = we f n s) (hw : k = s + 4) (h : pNd f n q0 st k = .inr (q, st')) : PhB st st' s (q + 1) := by
  unfold pNd at h
  have hkn : k ≤ n := by rw [hk]; exact we_le hs
  split at h
  · rename_i c
    obtain ⟨q1, q2⟩ := cL_in c
    have gp : k + 1 ≤ sp f n k := by rw [hk] at q1 q2 ⊢; exact we_gap hs q1 (Or.inl q2)
    have hle := fsI_ge (P := fun i => isTx f (sp f n k) (we f n (sp f n k)) (ntx i)) 5 0
    have hpp := fsI_P (P := fun i => isTx f (sp f n k) (we f n (sp f n k)) (ntx i)) 5 0
    generalize fsI (fun i => isTx f (sp f n k) (we f n (sp f n k)) (ntx i)) 5 0 = i at *
    split at h
    · cases h
    · have hi : i < 5 := by omega
      have hw2 := (hpp hi).1
      have g2 := we_gt (f := f) q1 q2
      have g3 := sp_ge (f := f) (n := n) (k := we f n (sp f n k))
      refine rg_B (H := 8 + (sB.getD (ntx i) []).length) h8 hQ (we_le (Nat.le_of_lt q1)) (by omega) (fun s' nm' lo' hi' => gcH_n (a := (i, s', nm', [], lo', hi', false)) hi) ?_ h
      show s + (8 + (sB.getD (ntx i) []).length) ≤ _
      omega
  · cases h
theorem bd_B (h8 : fit8 f) {q0 q s i : Nat} (hQ : Qs st.2.2 st.2.1 st.1) (hs : s ≤ n) (hk : k = we f n s) (hi : i < 12) (hw : isTx f s k (ktx i)) (hsk : s < k) (h : pBd f n q0 st k i = .inr (q, st')) : PhB st st' s (q + 1) := by
  have hkn : k ≤ n := by rw [hk]; exact we_le hs
  have hl := hw.1
  have s0 := sp_ge (f := f) (n := n) (k := k)
  unfold pBd at h
  split at h
  · rename_i c
    rw [c] at hl
    have : k - s = 4 := hl
    exact nd_B h8 hQ hs hk (by omega) h
  · split at h
    · rename_i c0 c
      have hkt : ktx i = i := by unfold ktx; rw [if_neg c0]
      rw [hkt] at hl
      refine rg_B (H := 3 + (sB.getD (i + 4 - 4) []).length) h8 hQ hkn (by omega) (fun s' nm' lo' hi' => gcH_k (a := (i + 4, s', nm', [], lo', hi', false)) (show 5 ≤ i + 4 by omega) (show i + 4 ≠ 8 by omega) (show i + 4 ≠ 9 by omega)) ?_ h
      show s + (3 + (sB.getD (i + 4 - 4) []).length) ≤ _
      rw [Nat.add_sub_cancel]
      omega
    · split at h
      · rename_i c
        rw [c] at hl
        have : k - s = 7 := hl
        exact pv_B h8 hQ (by omega) h
      · split at h
        · rename_i c
          rw [c] at hl
          have : k - s = 3 := hl
          exact any_B h8 hQ hkn (by omega) h
        · split at h
          · rename_i c
            rw [c] at hl
            have : k - s = 7 := hl
            exact ft_B hQ hs hk (by omega) h
          · split at h
            · rename_i c
              rw [c] at hl
              have : k - s = 6 := hl
              exact sc_B hQ (by omega) h
            · split at h
              · rename_i c
                rw [c] at hl
                have : k - s = 4 := hl
                exact fi_B h8 hQ (by omega) h
              · rename_i c0 _ _ _ _ _ _
                have hkt : ktx i = i := by unfold ktx; rw [if_neg c0]
                have hb := (wl_k hi).2
                rw [hkt] at hl hb
                refine nm_B (H := 3 + (sB.getD (i + 4 - 4) []).length) hQ (by omega) (fun s' nm' lo' hi' => gcH_k (a := (i + 4, s', nm', [], lo', hi', false)) (show 5 ≤ i + 4 by omega) (show i + 4 ≠ 8 by omega) (show i + 4 ≠ 9 by omega)) (fun z => absurd z (by omega)) ?_ ?_ h
                · show 3 + (sB.getD (i + 4 - 4) []).length ≤ 11
                  rw [Nat.add_sub_cancel]
                  omega
                · show s + (3 + (sB.getD (i + 4 - 4) []).length) ≤ _
                  rw [Nat.add_sub_cancel]
                  omega
theorem row_Phi (h8 : fit8 f) {q : Nat} (hQ : Qs st.2.2 st.2.1 st.1) (hk : k ≤ n) (h : pRow f n st k = .inr (q, st')) : PhB st st' k q := by
  have hsl := sp_le (f := f) hk
  have hsg := sp_ge (f := f) (n := n) (k := k)
  rw [pRow_s] at h
  split at h
  · rename_i c1
    obtain ⟨q1, q2⟩ := cL_in c1
    have hle := fsI_ge (P := fun i => isTx f (sp f n k) (we f n (sp f n k)) (ktx i)) 12 0
    have hpp := fsI_P (P := fun i => isTx f (sp f n k) (we f n (sp f n k)) (ktx i)) 12 0
    generalize fsI (fun i => isTx f (sp f n k) (we f n (sp f n k)) (ktx i)) 12 0 = i at *
    have hwg := we_gt (f := f) q1 q2
    split at h
    · cases h
    · cases hb : pBd f n (sp f n k) st (we f n (sp f n k)) i with
      | inl w => rw [hb] at h; cases h
      | inr x =>
        obtain ⟨q3, st3⟩ := x
        rw [hb] at h
        unfold semi at h
        dsimp only at h
        split at h
        · cases h
          have hs3 := sp_ge (f := f) (n := n) (k := q3)
          obtain ⟨b1, b2⟩ := bd_B h8 hQ hsl rfl (by omega) (hpp (by omega)) hwg hb
          exact ⟨by omega, b2⟩
        · cases h
  · cases h
theorem rows_Phi (h8 : fit8 f) (hn : n ≤ 2000) : ∀ (u k : Nat) (st st' : aP), k ≤ n → XS f n st → st.2.2 ≤ k → 11 * st.2.1.length ≤ k → Qs st.2.2 st.2.1 st.1 → pRows f n u st k = .inr st' → PhB st st' k n ∧ st'.2.2 ≤ n
  | 0, k, st, st', _, _, _, _, _, h => by cases h
  | u + 1, k, st, st', hk, hX, hs, hF, hQ, h => by
    rw [show pRows f n (u + 1) st k = if n ≤ sp f n k then .inr st else match pRow f n st (sp f n k) with
      | .inl w => .inl w
      | .inr (q, st') => pRows f n u st' q from rfl] at h
    have hsl := sp_le (f := f) hk
    have hsg := sp_ge (f := f) (n := n) (k := k)
    split at h
    · cases h; exact ⟨⟨by omega, hQ⟩, by omega⟩
    · cases hr : pRow f n st (sp f n k) with
      | inl w => rw [hr] at h; cases h
      | inr x =>
        obtain ⟨q, st1⟩ := x
        rw [hr] at h
        obtain ⟨i1, i2, i3, i4, i5⟩ := pRow_inv h8 hn hsl hX (by omega) (by omega) hr
        obtain ⟨b1, b2⟩ := row_Phi h8 hQ hsl hr
        obtain ⟨⟨d1, d2⟩, d3⟩ := rows_Phi h8 hn u q st1 st' i5 i1 i2 i3 b2 h
        exact ⟨⟨by omega, d2⟩, d3⟩
theorem verR_c {q x : Nat} (h : verR f n k = .inr (q, x)) : sp f n k < n ∧ cD (f (sp f n k)) := by
  unfold verR at h
  split at h
  · rename_i o1
    unfold nuOk at o1
    have g2 := den_le (f := f) (n - sp f n k) (sp f n k)
    refine ⟨by omega, ?_⟩
    exact den_cD (n - sp f n k) (sp f n k) (sp f n k) (Nat.le_refl _) (by omega)
  · cases h
theorem hd_len (h8 : fit8 f) {q x : Nat} {nm : List Int32} (h : pHd f n = .inr (q, nm, x)) : 10 + nm.length + (verS x).length ≤ q ∧ q ≤ n := by
  unfold pHd at h
  have h0 := sp_le (f := f) (Nat.zero_le n)
  split at h
  · rename_i c1
    obtain ⟨q1, q2⟩ := cL_in c1
    have hwg := we_gt (f := f) q1 q2
    split at h
    · rename_i ht
      have h7 : we f n (sp f n 0) - sp f n 0 = 7 := ht.1
      cases hr : nmR f n (we f n (sp f n 0)) with
      | inl w => rw [hr] at h; cases h
      | inr be =>
        obtain ⟨b, e⟩ := be
        rw [hr] at h
        dsimp only at h
        obtain ⟨g0, ge, g1, g2, g3, g4, _⟩ := nmR_in hr
        have gg := nmR_gap h0 rfl hr
        cases hv : verR f n e with
        | inl w => rw [hv] at h; cases h
        | inr qx =>
          obtain ⟨q2', x'⟩ := qx
          rw [hv] at h
          dsimp only at h
          have hvl := verR_len h8 hv
          obtain ⟨v1, v2⟩ := verR_c hv
          have g5 : e + 1 ≤ sp f n e := by rw [ge] at v1 v2 ⊢; exact we_gap (g0 ▸ Nat.le_of_lt g1) v1 (Or.inr (Or.inl v2))
          have hs3 := sp_ge (f := f) (n := n) (k := q2')
          split at h
          · rename_i c3
            have := sgn_0 (by decide) c3
            cases h
            rw [wd_len]
            exact ⟨by omega, by omega⟩
          · cases h
    · cases h
  · cases h
end PHB
