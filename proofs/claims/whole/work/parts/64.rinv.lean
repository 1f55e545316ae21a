/-! LAYER 2: what the reference holds between calls; read -/
/-- a package: NAME, VERSION, features, rows -/
abbrev aPk : Type := List Int32 × Nat × List (List Int32) × List aR
def RPk (s : rS) (q : Nat) (P : aPk) : Prop := s.2.2.1 5 q = nI P.1.length ∧ nmI (s.2.2.1 8) (20 * q) P.1 ∧ s.2.2.2 9 q = lN P.2.1 ∧ PF s q P.2.2.1 ∧ s.2.2.1 6 q = nI P.2.2.2.length ∧ P.2.2.2.length ≤ 200 ∧ (∀ i x, P.2.2.2[i]? = some x → RR s (200 * q + i) x ∧ wfR x) ∧ wfN P.1
def RInv (s : rS) (f : Nat → Int32) (n : Nat) (pk : List aPk) (ch : List (Nat × Nat)) (pr : List Int32) : Prop := tS s f n ∧ s.1 11 = nI pk.length ∧ pk.length ≤ 40 ∧ cS s ∧ (∀ q P, pk[q]? = some P → RPk s q P) ∧ (s.1 39 = nI ch.length ∧ ch.length ≤ 400 ∧ ∀ i c, ch[i]? = some c → s.2.2.1 25 i = nI c.1 ∧ s.2.2.1 26 i = nI c.2) ∧ (s.1 43 = nI pr.length ∧ pr.length ≤ 60000 ∧ ∀ i c, pr[i]? = some c → s.2.2.1 28 i = c)
def gOf (st : aP) : Nat → aR := fun i => (st.1.getD i ((0, 0, [], [], 0, 0, false), 0)).1
noncomputable def mkR (st : aP) : List aR := (jnS st.1.length 0 [] (srtG (st.1.length - 1) 1 (gOf st))).reverse
noncomputable def mkP (nm : List Int32) (v : Nat) (st : aP) : aPk := (nm, v, st.2.1, mkR st)
section RINV
variable {N : Nat} {M : hM} {m p : Nat} {s s' s'' : rS} {f : Nat → Int32} {n k : Nat} {st : aP} {pk : List aPk} {ch : List (Nat × Nat)} {pr : List Int32}
theorem pRow_qle {q : Nat} {st' : aP} (hk : k ≤ n) (h : pRow f n st k = .inr (q, st')) : q ≤ n := by
  rw [pRow_s] at h
  split at h
  · split at h
    · cases h
    · cases hb : pBd f n (sp f n k) st (we f n (sp f n k)) (fsI (fun i => isTx f (sp f n k) (we f n (sp f n k)) (ktx i)) 12 0) with
      | inl w' => rw [hb] at h; cases h
      | inr x =>
        obtain ⟨q2, st2⟩ := x
        rw [hb] at h
        unfold semi at h
        dsimp only at h
        split at h
        · rename_i c; cases h; have := sgn_0 (by decide) c; omega
        · cases h
  · cases h
theorem pRows_inv (h8 : fit8 f) (hn : n ≤ 2000) : ∀ (u k : Nat) (st st' : aP), k ≤ n → XS f n st → st.2.2 ≤ k → 11 * st.2.1.length ≤ k → pRows f n u st k = .inr st' → XS f n st' ∧ 11 * st'.2.1.length ≤ n
  | 0, k, st, st', _, _, _, _, h => by cases h
  | u + 1, k, st, st', hk, hX, hs, hF, h => by
    rw [show pRows f n (u + 1) st k = if n ≤ sp f n k then .inr st else match pRow f n st (sp f n k) with
      | .inl w => .inl w
      | .inr (q, st') => pRows f n u st' q from rfl] at h
    have hsl := sp_le (f := f) hk
    have hsg := sp_ge (f := f) (n := n) (k := k)
    split at h
    · cases h; exact ⟨hX, by omega⟩
    · cases hr : pRow f n st (sp f n k) with
      | inl w => rw [hr] at h; cases h
      | inr x =>
        obtain ⟨q, st1⟩ := x
        rw [hr] at h
        obtain ⟨i1, i2, i3, i4, i5⟩ := pRow_inv h8 hn hsl hX (by omega) (by omega) hr
        exact pRows_inv h8 hn u q st1 st' i5 i1 i2 i3 h
theorem pTx_inv (h8 : fit8 f) (hn : n ≤ 2000) {nm : List Int32} {v : Nat} (h : pTx f n = .inr (nm, v, st)) : XS f n st ∧ 11 * st.2.1.length ≤ n ∧ wfN nm ∧ nm ≠ [] ∧ v < 10 ^ 18 := by
  unfold pTx at h
  cases hh : pHd f n with
  | inl w => rw [hh] at h; cases h
  | inr x =>
    obtain ⟨q, nm', v'⟩ := x
    rw [hh] at h
    dsimp only at h
    have hd : wfN nm' ∧ nm' ≠ [] ∧ v' < 10 ^ 18 ∧ q ≤ n := by
      unfold pHd at hh
      have h0 := sp_le (f := f) (Nat.zero_le n)
      split at hh
      · rename_i c1
        obtain ⟨q1, q2⟩ := cL_in c1
        have hwe := we_le (f := f) (Nat.le_of_lt q1)
        split at hh
        · cases hr : nmR f n (we f n (sp f n 0)) with
          | inl w => rw [hr] at hh; cases hh
          | inr be =>
            obtain ⟨b, e⟩ := be
            rw [hr] at hh
            dsimp only at hh
            obtain ⟨_, _, g1, g2, g3, g4, _⟩ := nmR_in hr
            cases hv : verR f n e with
            | inl w => rw [hv] at hh; cases hh
            | inr qx =>
              obtain ⟨q2, x⟩ := qx
              rw [hv] at hh
              dsimp only at hh
              split at hh
              · rename_i c3
                cases hh
                have := sgn_0 (by decide) c3
                have hw := nmR_wf h8 hr
                exact ⟨hw.1, hw.2.1, (verR_lt h8 g3 hv).2, by omega⟩
              · cases hh
        · cases hh
      · cases hh
    cases hr : pRows f n (n + 1) ([], [], 0) q with
    | inl w => rw [hr] at h; cases h
    | inr st1 =>
      rw [hr] at h
      dsimp only at h
      cases hdf : dfS (dfl st1) st1.2.1 with
      | some w => rw [hdf] at h; cases h
      | none =>
        rw [hdf] at h
        cases h
        obtain ⟨a, b⟩ := pRows_inv h8 hn (n + 1) q ([], [], 0) st hd.2.2.2 ⟨fun x hx => (by cases hx), fun x hx => (by cases hx), by decide⟩ (Nat.zero_le _) (Nat.zero_le _) hr
        exact ⟨a, b, hd.1, hd.2.1, hd.2.2.1⟩
theorem jnS_len {g : Nat → aR} : ∀ (d k : Nat) (o : List aR), (jnS d k o g).length ≤ o.length + d
  | 0, k, o => Nat.le_refl _
  | d + 1, k, [] => by
    show (jnS d (k + 1) [g k] g).length ≤ 0 + (d + 1)
    have := jnS_len (g := g) d (k + 1) [g k]
    have e : ([g k] : List aR).length = 1 := rfl
    omega
  | d + 1, k, a :: o => by
    rw [show jnS (d + 1) k (a :: o) g = @ite _ (joR a (g k)) (Classical.propDecidable _) (jnS d (k + 1) (jnR a (g k) :: o) g) (jnS d (k + 1) (g k :: a :: o) g) from rfl]
    by_cases c : joR a (g k)
    · rw [if_pos c]
      have := jnS_len (g := g) d (k + 1) (jnR a (g k) :: o)
      have e : (jnR a (g k) :: o).length = (a :: o).length := rfl
      omega
    · rw [if_neg c]
      have := jnS_len (g := g) d (k + 1) (g k :: a :: o)
      have e : (g k :: a :: o).length = (a :: o).length + 1 := rfl
      omega
theorem OutR_get : ∀ (o : List aR) (i : Nat) (x : aR), OutR s p o → o.reverse[i]? = some x → RR s (200 * p + i) x ∧ wfR x
  | [], i, x, _, h => (nil_get h).elim
  | a :: o, i, x, h, hx => by
    rw [List.reverse_cons] at hx
    rcases app_get hx with c | ⟨c1, c2⟩
    · exact OutR_get o i x h.2 c
    · rw [c1, c2, List.length_reverse]; exact h.1
theorem wfA_R {a : aR} (h : wfA a) : wfR a := ⟨h.1, h.2.1, h.2.2.2.1⟩
theorem RPk.h {q : Nat} {P : aPk} (h : RPk s q P) (hq : q < p) (g : krh p s s') : RPk s' q P := by
  obtain ⟨a1, a2, a3, a4, a5, a6, a7, a8⟩ := h
  refine ⟨?_, fun j hj => ?_, ?_, ⟨?_, a4.2.1, fun i w hw => ⟨⟨?_, fun j hj => ?_, (a4.2.2 i w hw).1.2.2⟩, (a4.2.2 i w hw).2⟩⟩, ?_, a6, fun i x hx => ⟨?_, (a7 i x hx).2⟩, a8⟩
  · rw [g.2.1 5 q ⟨trivial, fun _ => hq, fun z => absurd z (by decide)⟩]; exact a1
  · have := a8.1
    rw [g.2.1 8 _ ⟨trivial, fun z => absurd z (by decide), fun _ => by omega⟩]; exact a2 j hj
  · rw [g.2.2 9 q ⟨trivial, fun _ => hq⟩]; exact a3
  · rw [g.2.1 7 q ⟨hq, fun z => absurd z (by decide), fun z => absurd z (by decide)⟩]; exact a4.1
  · have hi : i < P.2.2.1.length := (List.getElem?_eq_some_iff.mp hw).1
    have := a4.2.1
    rw [g.2.1 11 _ ⟨show 250 * q + i < 250 * p by omega, fun z => absurd z (by decide), fun z => absurd z (by decide)⟩]; exact (a4.2.2 i w hw).1.1
  · have hi : i < P.2.2.1.length := (List.getElem?_eq_some_iff.mp hw).1
    have := a4.2.1
    have := (a4.2.2 i w hw).1.2.2
    rw [g.2.1 10 _ ⟨show 20 * (250 * q + i) + j < 5000 * p by omega, fun z => absurd z (by decide), fun z => absurd z (by decide)⟩]; exact (a4.2.2 i w hw).1.2.1 j hj
  · rw [g.2.1 6 q ⟨hq, fun z => absurd z (by decide), fun z => absurd z (by decide)⟩]; exact a5
  · have hi : i < P.2.2.2.length := (List.getElem?_eq_some_iff.mp hx).1
    obtain ⟨⟨⟨b1, b2, b3, b4, b5, b6, b7, b8, b9⟩, l1, l2⟩, _⟩ := a7 i x hx
    have hr : 200 * q + i < 200 * p := by omega
    refine ⟨⟨?_, ?_, ?_, fun j hj => ?_, ?_, fun j hj => ?_, ?_, ?_, ?_⟩, l1, l2⟩
    · rw [g.2.1 12 _ ⟨hr, fun z => absurd z (by decide), fun z => absurd z (by decide)⟩]; exact b1
    · rw [g.2.1 13 _ ⟨hr, fun z => absurd z (by decide), fun z => absurd z (by decide)⟩]; exact b2
    · rw [g.2.1 14 _ ⟨hr, fun z => absurd z (by decide), fun z => absurd z (by decide)⟩]; exact b3
    · rw [g.2.1 16 _ ⟨show 20 * (200 * q + i) + j < 4000 * p by omega, fun z => absurd z (by decide), fun z => absurd z (by decide)⟩]; exact b4 j hj
    · rw [g.2.1 15 _ ⟨hr, fun z => absurd z (by decide), fun z => absurd z (by decide)⟩]; exact b5
    · rw [g.2.1 17 _ ⟨show 20 * (200 * q + i) + j < 4000 * p by omega, fun z => absurd z (by decide), fun z => absurd z (by decide)⟩]; exact b6 j hj
    · rw [g.2.2 18 _ ⟨hr, fun z => absurd z (by decide)⟩]; exact b7
    · rw [g.2.2 19 _ ⟨hr, fun z => absurd z (by decide)⟩]; exact b8
    · rw [g.2.1 20 _ ⟨hr, fun z => absurd z (by decide), fun z => absurd z (by decide)⟩]; exact b9
theorem cS.h (h : cS s) (g : krh p s s') : cS s' := by
  refine ⟨fun i hi => ⟨?_, ?_⟩, fun i hi => ?_⟩
  · rw [g.2.2 3 i ⟨trivial, fun z => absurd z (by decide)⟩]; exact (h.1 i hi).1
  · rw [g.2.1 4 i ⟨trivial, fun z => absurd z (by decide), fun z => absurd z (by decide)⟩]; exact (h.1 i hi).2
  · rw [g.2.2 2 i ⟨trivial, fun z => absurd z (by decide)⟩]; exact h.2 i hi
/-- reading leaves what was there -/
theorem RInv.h {n' : Nat} (h : RInv s f n pk ch pr) (g : krh pk.length s s') (hn' : n' ≤ 2000) : RInv (va_up s'.1 2 (nI n'), s'.2) f n' pk ch pr := by
  obtain ⟨a1, a2, a3, a4, a5, ⟨a6, a7, a8⟩, b6, b7, b8⟩ := h
  refine ⟨⟨rfl, hn', a1.2.2.1, ?_⟩, g.1.2.1.trans a2, a3, (show cS s' from a4.h g), fun q P hP => (show RPk s' q P from (a5 q P hP).h (List.getElem?_eq_some_iff.mp hP).1 g), ⟨g.1.2.2.1.trans a6, a7, fun i c hc => ?_⟩, g.1.2.2.2.trans b6, b7, fun i c hc => ?_⟩
  · show s'.2.2.1 1 = tx f
    rw [← a1.2.2.2]; funext i; exact g.2.1 1 i ⟨trivial, fun z => absurd z (by decide), fun z => absurd z (by decide)⟩
  · show s'.2.2.1 25 i = _ ∧ s'.2.2.1 26 i = _
    rw [g.2.1 25 i ⟨trivial, fun z => absurd z (by decide), fun z => absurd z (by decide)⟩, g.2.1 26 i ⟨trivial, fun z => absurd z (by decide), fun z => absurd z (by decide)⟩]
    exact a8 i c hc
  · show s'.2.2.1 28 i = _
    rw [g.2.1 28 i ⟨trivial, fun z => absurd z (by decide), fun z => absurd z (by decide)⟩]
    exact b8 i c hc
theorem kj.h (g : kj p s s') : krh p s s' := by
  refine ⟨by rw [g.1]; exact ⟨rfl, rfl, rfl, rfl⟩, fun j i c => ?_, fun j i c => ?_⟩
  · refine g.2.1 j i (fun e => ?_) (fun e => ?_) (fun e => ?_) (fun r h1 h2 => lm_t h1 c.1)
    · subst e; exact c.1
    · subst e; exact c.1
    · obtain ⟨e1, e2⟩ := e; subst e1; have : i < p := c.1; omega
  · exact g.2.2 j i (fun r h1 h2 => lmL_t h1 c.1)
theorem pRows_le : ∀ (u k : Nat) (st : aP) (w : Nat), k ≤ n → pRows f n u st k = .inl w → w ≤ n
  | 0, k, st, w, _, h => by cases h; omega
  | u + 1, k, st, w, hk, h => by
    rw [show pRows f n (u + 1) st k = if n ≤ sp f n k then .inr st else match pRow f n st (sp f n k) with
      | .inl w => .inl w
      | .inr (q, st') => pRows f n u st' q from rfl] at h
    have hsl := sp_le (f := f) hk
    split at h
    · cases h
    · cases hr : pRow f n st (sp f n k) with
      | inl w' => rw [hr] at h; cases h; exact pRow_le hsl hr
      | inr x =>
        obtain ⟨q, st1⟩ := x
        rw [hr] at h
        have hq : q ≤ n := pRow_qle hsl hr
        exact pRows_le u q st1 w hq h
theorem pTx_le {w : Nat} (h8 : fit8 f) (hn : n ≤ 2000) (h : pTx f n = .inl w) : w ≤ 2000 := by
  unfold pTx at h
  have h0 := sp_le (f := f) (Nat.zero_le n)
  cases hh : pHd f n with
  | inl w' =>
    rw [hh] at h
    cases h
    unfold pHd at hh
    split at hh
    · rename_i c1
      obtain ⟨q1, q2⟩ := cL_in c1
      have hwe := we_le (f := f) (Nat.le_of_lt q1)
      split at hh
      · cases hr : nmR f n (we f n (sp f n 0)) with
        | inl w2 => rw [hr] at hh; cases hh; have := nmR_le hwe hr; omega
        | inr be =>
          obtain ⟨b, e⟩ := be
          rw [hr] at hh
          dsimp only at hh
          obtain ⟨_, _, g1, g2, g3, g4, _⟩ := nmR_in hr
          cases hv : verR f n e with
          | inl w2 => rw [hv] at hh; cases hh; have := verR_le g3 hv; omega
          | inr qx =>
            obtain ⟨q2, x⟩ := qx
            rw [hv] at hh
            dsimp only at hh
            split at hh
            · cases hh
            · cases hh; have := sp_le (f := f) (verR_q g3 hv); omega
      · cases hh; omega
    · cases hh; omega
  | inr x =>
    obtain ⟨q, nm', v'⟩ := x
    rw [hh] at h
    dsimp only at h
    have hq : q ≤ n := by
      unfold pHd at hh
      split at hh
      · split at hh
        · cases hr : nmR f n (we f n (sp f n 0)) with
          | inl w => rw [hr] at hh; cases hh
          | inr be =>
            obtain ⟨b, e⟩ := be
            rw [hr] at hh
            dsimp only at hh
            cases hv : verR f n e with
            | inl w => rw [hv] at hh; cases hh
            | inr qx =>
              obtain ⟨q2, x⟩ := qx
              rw [hv] at hh
              dsimp only at hh
              split at hh
              · rename_i c3
                cases hh
                have := sgn_0 (by decide) c3
                omega
              · cases hh
        · cases hh
      · cases hh
    cases hr : pRows f n (n + 1) ([], [], 0) q with
    | inl w' => rw [hr] at h; cases h; have := pRows_le _ _ _ _ hq hr; omega
    | inr st1 =>
      rw [hr] at h
      dsimp only at h
      obtain ⟨iX, _⟩ := pRows_inv h8 hn (n + 1) q ([], [], 0) st1 hq ⟨fun x hx => (by cases hx), fun x hx => (by cases hx), by decide⟩ (Nat.zero_le _) (Nat.zero_le _) hr
      unfold dfS at h
      cases hf : (dfl st1).find? (fun x => !hasF x.1.2.2.1 st1.2.1) with
      | none => rw [hf] at h; cases h
      | some x =>
        rw [hf] at h
        cases h
        have hm := List.mem_of_find?_eq_some hf
        have := (iX.1 x (List.mem_filter.mp hm).1).2.2.2
        show x.2 ≤ 2000
        omega
theorem m_read (hN : 3000 ≤ N) (h : RInv s f n pk ch pr) : match pTx f n with
    | .inl w => ∃ s', (f_MD_read N m).1 (ov M m s) = some (wr w, ov M m s') ∧ RInv s' f 0 pk ch pr
    | .inr (nm, v, st) => if pk.length = 40 then ∃ s', (f_MD_read N m).1 (ov M m s) = some (-10000, ov M m s') ∧ RInv s' f 0 pk ch pr
      else ∃ s', (f_MD_read N m).1 (ov M m s) = some (nI pk.length, ov M m s') ∧ RInv s' f 0 (pk ++ [mkP nm v st]) ch pr := by
  have hI := h
  obtain ⟨a1, a2, a3, a4, a5, a6, a7⟩ := h
  have hS : tS (va_up s.1 0 0, s.2) f n := a1
  have hA := m_readAll (N := N) (M := M) (m := m) (s := (va_up s.1 0 0, s.2)) (p := pk.length) hN hS a2 a3 a4
  have k0 : krh pk.length s (va_up s.1 0 0, s.2) := (kr_I (by omega)).h
  have go : (f_MD_read N m).1 (ov M m s) = ((f_MD_readAll N m).1 (ov M m (va_up s.1 0 0, s.2))).bind (fun Z => (b_put m 1 2 (.int 0) (b_is m 1 (b_call (f_MD_isWrong N m) (fun v5 => (if v5 = 0 then b_getI m 1 11 (fun v9 => (if v9 = 40 then b_ret (-10000 : Int32) else b_is m 1 (b_call (f_MD_settle N m) (fun _ => b_getI m 1 11 (fun v14 => b_put m 1 11 (.int (v14 + 1)) (b_getI m 1 11 (fun v15 => b_ret (v15 - 1)))))))) else b_getI m 1 7 (fun v16 => b_ret v16)))))).1 Z.2) := by
    rw [e_MD_read]
    refine mP_0.trans ((mI_is.trans r_callE).trans ?_)
    rfl
  rw [go]
  cases hp : pTx f n with
  | inl w =>
    rw [hp] at hA
    obtain ⟨s1, r1, r2, r3⟩ := hA
    refine ⟨(va_up s1.1 2 (nI 0), s1.2), ?_, hI.h (k0.tr r2) (by omega)⟩
    have hw : ¬ va_up s1.1 2 0 7 = 0 := by
      show ¬ s1.1 7 = 0
      rw [r3]
      exact wr_ne (pTx_le a1.2.2.1 a1.2.1 hp)
    have hw2 : va_up s1.1 2 0 7 = wr w := r3
    rw [r1, Option.bind_some]
    simp only [mP_2, mI_is, r_callE, m_isWrong, hw, not_false_eq_true, Option.bind_some, bI, if_true, show ¬ (1 : Int32) = 0 by decide, if_false, mI_7, r_ret]
    rw [hw2]
    rfl
  | inr x =>
    obtain ⟨nm, v, st⟩ := x
    rw [hp] at hA
    obtain ⟨s1, r1, r2, r3, r4, r5, r6, r7⟩ := hA
    dsimp only
    obtain ⟨x1, x2, x3, x4, x5⟩ := pTx_inv a1.2.2.1 a1.2.1 hp
    have hI1 := hI.h (n' := 0) (k0.tr r2) (by omega)
    have h7 : va_up s1.1 2 0 7 = 0 := r3
    have h11 : va_up s1.1 2 0 11 = nI pk.length := r2.1.2.1.trans a2
    by_cases c : pk.length = 40
    · rw [if_pos c]
      refine ⟨(va_up s1.1 2 (nI 0), s1.2), ?_, hI1⟩
      have c' : nI pk.length = 40 := by rw [c]; rfl
      rw [r1, Option.bind_some]
      simp only [mP_2, mI_is, r_callE, m_isWrong, h7, not_true_eq_false, Option.bind_some, bI, if_false, if_true, mI_11, h11, c', r_ret]
      rfl
    · rw [if_neg c]
      have c' : ¬ nI pk.length = 40 := fun z => c ((nI_eq (b := 40) (by omega) (by omega)).mp z)
      have hM : MRg (va_up s1.1 2 0, s1.2) pk.length st.1.length (gOf st) := by
        intro i hi
        have hg : st.1[i]? = some st.1[i] := List.getElem?_eq_getElem hi
        have e : gOf st i = (st.1[i]).1 := by
          unfold gOf; rw [List.getD_eq_getElem?_getD, hg]; rfl
        rw [e]
        exact ⟨r4.1.2.2.2.2.2.1 i _ hg, wfA_R (x1.1 _ (List.getElem_mem hi)).1⟩
      obtain ⟨s2, t1, t2, t3, t4⟩ := m_settle (N := N) (M := M) (m := m) (s := (va_up s1.1 2 0, s1.2)) (p := pk.length) (w := st.1.length) (g := gOf st) (by omega) a3 x1.2.2 r4.1.2.2.1 h11 hM
      have g11 : s2.1 11 = nI pk.length := by rw [t4.1]; exact h11
      have hI2 := hI1.h (n' := 0) t4.h (by omega)
      have s2n : va_up s2.1 2 (nI 0) = s2.1 := ua_self (by rw [t4.1]; rfl)
      rw [s2n] at hI2
      refine ⟨(va_up s2.1 11 (nI (pk.length + 1)), s2.2), ?_, ?_⟩
      · rw [r1, Option.bind_some]
        simp only [mP_2, mI_is, r_callE, m_isWrong, h7, not_true_eq_false, Option.bind_some, bI, if_false, if_true, mI_11, h11, c', t1, g11, mP_11, nI_1, ua_s, r_ret]
        rw [nI_pred]
      · obtain ⟨b1, b2, b3, b4, b5, b6, b7⟩ := hI2
        refine ⟨b1, by rw [List.length_append]; rfl, by rw [List.length_append]; show pk.length + 1 ≤ 40; omega, b4, fun q P hP => ?_, b6, b7⟩
        rcases app_get hP with d | ⟨d1, d2⟩
        · exact b5 q P d
        · rw [d1, d2]
          have hlen := jnS_len (g := srtG (st.1.length - 1) 1 (gOf st)) st.1.length 0 []
          have hlen' : (jnS st.1.length 0 [] (srtG (st.1.length - 1) 1 (gOf st))).length ≤ 200 := by
            have := x1.2.2
            have e : ([] : List aR).length = 0 := rfl
            omega
          have kA : ∀ j i, j ≠ 23 → j ≠ 24 → j ≠ 6 → (j < 12 ∨ 20 < j) → s2.2.2.1 j i = s1.2.2.1 j i := fun j i h1 h2 h3 h4 => t4.2.1 j i h1 h2 (fun z => h3 z.1) (fun r _ _ => by unfold tch; omega)
          refine ⟨(kA 5 _ (by omega) (by omega) (by omega) (by omega)).trans r5, fun j hj => (kA 8 _ (by omega) (by omega) (by omega) (by omega)).trans (r6 j hj), (t4.2.2 9 _ (fun r _ _ => by unfold tchL; omega)).trans r7, ⟨(kA 7 _ (by omega) (by omega) (by omega) (by omega)).trans r4.1.2.2.2.2.2.2.1, ?_, fun i w hw => ⟨⟨?_, fun j hj => ?_, ?_⟩, (x1.2.1 w (List.mem_of_getElem? hw)).1⟩⟩, ?_, ?_, fun i x hx => (show RR s2 (200 * pk.length + i) x ∧ wfR x from OutR_get _ i x t2 hx), x3⟩
          · show st.2.1.length < 250
            have := a1.2.1; omega
          · exact (kA 11 _ (by omega) (by omega) (by omega) (by omega)).trans (r4.1.2.2.2.2.2.2.2.1 i w hw).1
          · exact (kA 10 _ (by omega) (by omega) (by omega) (by omega)).trans ((r4.1.2.2.2.2.2.2.2.1 i w hw).2.1 j hj)
          · exact (r4.1.2.2.2.2.2.2.2.1 i w hw).2.2
          · show s2.2.2.1 6 pk.length = nI (mkR st).length
            unfold mkR
            rw [List.length_reverse]; exact t3
          · show (mkR st).length ≤ 200
            unfold mkR
            rw [List.length_reverse]; exact hlen'
end RINV
