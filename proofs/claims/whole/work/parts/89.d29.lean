/-! LAYER 2: how long what is printed may be: the text that was read -/
def Phi (st : aP) : Nat := gsum (st.1.map Prod.fst) + 3 * st.2.2 + fS st.2.1
def Qr (S : Nat) (F : List (List Int32)) (a : aR) : Prop := (a.1 = 8 → ∃ j : Nat, j < S ∧ a.2.1 = nI j) ∧ (a.1 = 9 → a.2.2.2.1 ∈ F)
def Qs (S : Nat) (F : List (List Int32)) (l : List (aR × Nat)) : Prop := ∀ x, x ∈ l → Qr S F x.1
section PHI
variable {f : Nat → Int32} {n k : Nat} {st st' : aP}
theorem gsum_app {a b : List aR} : gsum (a ++ b) = gsum a + gsum b := by unfold gsum; rw [List.map_append, List.sum_append]
theorem adR_e {q0 kd b q q' : Nat} {nm ot : List Int32} {lo hi : Int64} (h : adR st q0 kd b nm ot lo hi q = .inr (q', st')) : q' = q ∧ st' = (st.1 ++ [((kd, if kd = 8 then nI st.2.2 else -1, nm, ot, lo, hi, false), b)], st.2) := by
  unfold adR at h
  split at h
  · cases h
  · cases h; exact ⟨rfl, rfl⟩
theorem Phi_ad {x : aR × Nat} : Phi (st.1 ++ [x], st.2) = Phi st + gcR x.1 := by
  unfold Phi
  rw [List.map_append, gsum_app]
  show gsum (st.1.map Prod.fst) + gsum [x.1] + 3 * st.2.2 + fS st.2.1 = _
  rw [gsum_c]
  have : gsum [] = 0 := rfl
  omega
theorem Qs_ad {S : Nat} {F : List (List Int32)} {l : List (aR × Nat)} {x : aR × Nat} (h : Qs S F l) (hx : Qr S F x.1) : Qs S F (l ++ [x]) := fun y hy => by
  rcases List.mem_append.mp hy with e | e
  · exact h y e
  · rw [List.mem_singleton.mp e]; exact hx
theorem Qs_mono {S S' : Nat} {F F' : List (List Int32)} {l : List (aR × Nat)} (h : Qs S F l) (h1 : S ≤ S') (h2 : ∀ w, w ∈ F → w ∈ F') : Qs S' F' l := fun y hy => by
  obtain ⟨a, b⟩ := h y hy
  refine ⟨fun e => ?_, fun e => h2 _ (b e)⟩
  obtain ⟨j, hj, ej⟩ := a e
  exact ⟨j, by omega, ej⟩
theorem gcH_k {a : aR} (h5 : 5 ≤ a.1) (h8 : a.1 ≠ 8) (h9 : a.1 ≠ 9) : gcH a = 3 + (sB.getD (a.1 - 4) []).length := by
  unfold gcH cBg
  rw [if_neg h8, if_neg h9, if_neg (by omega), if_neg (by omega), if_neg h9, List.length_append, List.length_append]
  have : ktx (a.1 - 4) = a.1 - 4 := by unfold ktx; rw [if_neg (by omega)]
  rw [this]
  show 2 + (_ + (1 + 0)) = _
  omega
theorem gcH_n {a : aR} (h5 : a.1 < 5) : gcH a = 8 + (sB.getD (ntx a.1) []).length := by
  unfold gcH cBg
  rw [if_neg (by omega), if_neg (by omega), if_pos h5, if_pos h5, if_neg (by omega), List.length_append, List.length_append, List.length_append, List.length_append]
  have : (sB.getD (ktx 0) []).length = 4 := by decide +kernel
  rw [this]
  show 2 + (4 + (1 + (_ + 1 + 0))) = _
  omega
/-- NAME RANGE -/
theorem rg_Phi (h8 : fit8 f) {q0 kd q H : Nat} (hk : k ≤ n) (hkd : kd < 7 ∨ kd = 8) (hH : ∀ (s : Int32) (nm : List Int32) (lo hi : Int64), gcH (kd, s, nm, [], lo, hi, false) = H) (h : pRg f n q0 kd st k = .inr (q, st')) : Phi st' + sp f n k ≤ Phi st + H + 8 + q ∧ ∃ x, st' = (st.1 ++ [x], st.2) ∧ x.1.1 = kd ∧ x.1.2.1 = if kd = 8 then nI st.2.2 else -1 := by
  unfold pRg at h
  cases hr : nmR f n k with
  | inl w => rw [hr] at h; cases h
  | inr be =>
    obtain ⟨b, e⟩ := be
    obtain ⟨g0, _, g1, g2, g3, _⟩ := nmR_in hr
    rw [hr] at h
    dsimp only at h
    cases hr2 : rgR f n e with
    | inl w => rw [hr2] at h; cases h
    | inr x =>
      obtain ⟨q2, lo, hi⟩ := x
      rw [hr2] at h
      dsimp only at h
      obtain ⟨e1, e2⟩ := adR_e h
      obtain ⟨r1, r2⟩ := rgR_RC h8 g3 hr2
      have r3 := rgR_ok h8 g3 hr2
      have p : (10 : Nat) ^ 18 = 1000000000000000000 := by decide
      have hse := sp_ge (f := f) (n := n) (k := e)
      rw [e2, Phi_ad]
      refine ⟨?_, _, rfl, rfl, rfl⟩
      show _ + gcR (kd, (if kd = 8 then nI st.2.2 else -1), wd f b e, [], lN lo, lN hi, false) + _ ≤ _
      unfold gcR
      rw [hH, if_pos hkd, lnN_l (by omega), lnN_l (by omega), wd_len]
      omega
theorem an_Phi (h8 : fit8 f) {q0 : Nat} {S : Nat} {F : List (List Int32)} : ∀ (u : Nat) (t : Bool) (st : aP) (k q : Nat) (st' : aP), k ≤ n → pAn f n q0 u t st k = .inr (q, st') → st.2.2 < S → Qs S F st.1 → (∃ m, st'.1.length = st.1.length + m + 1 ∧ Phi st' + k + m ≤ Phi st + 11 * (m + 1) + q) ∧ st'.2 = st.2 ∧ Qs S F st'.1
  | 0, t, st, k, q, st', _, h, _, _ => by cases h
  | u + 1, t, st, k, q, st', hk, h, hS, hQ => by
    rw [show pAn f n q0 (u + 1) t st k = match pRg f n q0 8 st k with
        | .inl w => .inl w
        | .inr (q, st') => if sgn f n (sp f n q) = 124 then pAn f n q0 u false st' (sp f n q + 1) else if t = true then .inl (sp f n q) else .inr (sp f n q, st') from rfl] at h
    cases hr : pRg f n q0 8 st k with
    | inl w => rw [hr] at h; cases h
    | inr x =>
      obtain ⟨q2, st1⟩ := x
      rw [hr] at h
      dsimp only at h
      obtain ⟨p1, x, e1, x8, xs⟩ := rg_Phi h8 hk (Or.inr rfl) (H := 3) (fun _ _ _ _ => rfl) hr
      have hsk := sp_ge (f := f) (n := n) (k := k)
      have hs2 := sp_ge (f := f) (n := n) (k := q2)
      have hl1 : st1.1.length = st.1.length + 1 := by rw [e1, List.length_append]; rfl
      have h2 : st1.2 = st.2 := by rw [e1]
      have hQ1 : Qs S F st1.1 := by
        rw [e1]
        refine Qs_ad hQ ⟨fun _ => ⟨st.2.2, hS, by rw [xs]; rfl⟩, fun z => ?_⟩
        rw [x8] at z; exact absurd z (by decide)
      split at h
      · rename_i c
        have hc := sgn_0 (by decide) c
        obtain ⟨⟨m, m1, m2⟩, m3, m4⟩ := an_Phi h8 u false st1 _ q st' (by omega) h (by rw [h2]; exact hS) hQ1
        exact ⟨⟨m + 1, by omega, by omega⟩, m3.trans h2, m4⟩
      · split at h
        · cases h
        · cases h
          exact ⟨⟨0, by omega, by omega⟩, h2, hQ1⟩
theorem nm_Phi {q0 kd H : Nat} {ot : List Int32} {S : Nat} {F : List (List Int32)} (hkd : 8 < kd ∧ kd < 14) (hH : ∀ (s : Int32) (nm : List Int32) (lo hi : Int64), gcH (kd, s, nm, ot, lo, hi, false) = H) (ho : kd = 9 → ot ∈ F) : ∀ (u : Nat) (st : aP) (k q : Nat) (st' : aP), pNm f n q0 kd ot u st k = .inr (q, st') → Qs S F st.1 → (∃ m, st'.1.length = st.1.length + m + 1 ∧ Phi st' + k + m ≤ Phi st + (m + 1) * H + q) ∧ st'.2 = st.2 ∧ Qs S F st'.1
  | 0, st, k, q, st', h, _ => by cases h
  | u + 1, st, k, q, st', h, hQ => by
    rw [show pNm f n q0 kd ot (u + 1) st k = match nmR f n k with
      | .inl w => .inl w
      | .inr (b, e) => match adR st q0 kd b (wd f b e) ot (-1) (-1) e with
        | .inl w => .inl w
        | .inr (q, st') => if sgn f n (sp f n q) = 44 then pNm f n q0 kd ot u st' (sp f n q + 1) else .inr (sp f n q, st') from rfl] at h
    cases hr : nmR f n k with
    | inl w => rw [hr] at h; cases h
    | inr be =>
      obtain ⟨b, e⟩ := be
      obtain ⟨g0, _, g1, g2, g3, _⟩ := nmR_in hr
      rw [hr] at h
      dsimp only at h
      cases hr2 : adR st q0 kd b (wd f b e) ot (-1) (-1) e with
      | inl w => rw [hr2] at h; cases h
      | inr x =>
        obtain ⟨q2, st1⟩ := x
        rw [hr2] at h
        dsimp only at h
        obtain ⟨e1, e2⟩ := adR_e hr2
        have hsk := sp_ge (f := f) (n := n) (k := k)
        have hs2 := sp_ge (f := f) (n := n) (k := q2)
        have hl1 : st1.1.length = st.1.length + 1 := by rw [e2, List.length_append]; rfl
        have h2 : st1.2 = st.2 := by rw [e2]
        have hP : Phi st1 + b = Phi st + H + e := by
          rw [e2, Phi_ad]
          show _ + gcR (kd, (if kd = 8 then nI st.2.2 else -1), wd f b e, ot, -1, -1, false) + _ = _
          generalize (if kd = 8 then nI st.2.2 else -1) = sv
          unfold gcR
          have er : rsS (kd, sv, wd f b e, ot, -1, -1, false) = [] := by
            unfold rsS
            rw [if_neg (by show ¬ (kd < 7 ∨ kd = 8); omega), if_neg (by show ¬ kd = 7; omega), if_neg (by show ¬ kd = 14; omega), if_neg (by show ¬ kd = 15; omega)]
          rw [hH, if_neg (show ¬ (kd < 7 ∨ kd = 8) by omega), er, wd_len]
          show Phi st + (H + (e - b) + 0) + b = _
          omega
        have hQ1 : Qs S F st1.1 := by
          rw [e2]
          refine Qs_ad hQ ⟨fun z => ?_, fun z => ho z⟩
          have z' : kd = 8 := z
          omega
        split at h
        · obtain ⟨⟨m, m1, m2⟩, m3, m4⟩ := nm_Phi hkd hH ho u st1 _ q st' h hQ1
          refine ⟨⟨m + 1, by omega, ?_⟩, m3.trans h2, m4⟩
          rw [show (m + 1 + 1) * H = (m + 1) * H + H by rw [Nat.add_mul, Nat.one_mul]]
          omega
        · cases h
          refine ⟨⟨0, by omega, ?_⟩, h2, hQ1⟩
          rw [Nat.zero_add, Nat.one_mul]
          omega
end PHI
