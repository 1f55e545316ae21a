/-! LAYER 2: rows joined, in the reference -/
/-- as kt, and package p's count of rows is set -/
def kj (p : Nat) (s s' : rS) : Prop := s'.1 = s.1 ∧ (∀ j i, j ≠ 23 → j ≠ 24 → ¬ (j = 6 ∧ i = p) → (∀ r, 200 * p ≤ r → r < 200 * p + 200 → ¬ tch r j i) → s'.2.2.1 j i = s.2.2.1 j i) ∧ (∀ j i, (∀ r, 200 * p ≤ r → r < 200 * p + 200 → ¬ tchL r j i) → s'.2.2.2 j i = s.2.2.2 j i)
section JN3
variable {N : Nat} {M : hM} {m p : Nat} {s s' s'' : rS}
theorem kt.j (h : kt p s s') : kj p s s' := ⟨h.1, fun j i a b _ c => h.2.1 j i a b c, h.2.2⟩
theorem kj.tr (h : kj p s s') (g : kj p s' s'') : kj p s s'' := ⟨g.1.trans h.1, fun j i a b d c => (g.2.1 j i a b d c).trans (h.2.1 j i a b d c), fun j i c => (g.2.2 j i c).trans (h.2.2 j i c)⟩
theorem wf_jn {a b : aR} (h : wfR a) : wfR (jnR a b) := h
theorem OutR.k2 {r1 r2 : Nat} (h1 : ∀ j i, ¬ tch r1 j i → ¬ tch r2 j i → s'.2.2.1 j i = s.2.2.1 j i) (h2 : ∀ j i, ¬ tchL r1 j i → ¬ tchL r2 j i → s'.2.2.2 j i = s.2.2.2 j i) : ∀ (o : List aR), (200 * p + o.length ≤ r1) → (200 * p + o.length ≤ r2) → OutR s p o → OutR s' p o
  | [], _, _, _ => trivial
  | a :: o, l1, l2, h => by
    have l1' : 200 * p + (o.length + 1) ≤ r1 := l1
    have l2' : 200 * p + (o.length + 1) ≤ r2 := l2
    exact ⟨⟨RR_keep2 h.1.1 h1 h2 (by omega) (by omega), h.1.2⟩, OutR.k2 h1 h2 o (by omega) (by omega) h.2⟩
theorem OutR.ks (g : ks s s') : ∀ (o : List aR), OutR s p o → OutR s' p o
  | [], _ => trivial
  | a :: o, h => ⟨⟨h.1.1.k g, h.1.2⟩, OutR.ks g o h.2⟩
theorem OutR.a6 {A : Nat → Int32} : ∀ (o : List aR), OutR s p o → OutR (s.1, s.2.1, va_up s.2.2.1 6 A, s.2.2.2) p o
  | [], _ => trivial
  | a :: o, h => ⟨h.1, OutR.a6 o h.2⟩
theorem RR_jn {r : Nat} {x y : aR} {s2 : rS} (hx : RR s r x) (e1 : s2.2.2.1 = (jM s r (x.2.2.2.2.2.2 || !(x.2.2.1 == y.2.2.1))).2.2.1) (e18 : s2.2.2.2 18 r = (jnR x y).2.2.2.2.1) (e19 : s2.2.2.2 19 r = (jnR x y).2.2.2.2.2.1) : RR s2 r (jnR x y) := by
  obtain ⟨⟨a1, a2, a3, a4, a5, a6, a7, a8, a9⟩, b1, b2⟩ := hx
  refine ⟨⟨?_, ?_, ?_, ?_, ?_, ?_, e18, e19, ?_⟩, b1, b2⟩
  · rw [e1]; exact a1
  · rw [e1]; exact a2
  · rw [e1]; exact a3
  · rw [e1]; exact a4
  · rw [e1]; exact a5
  · rw [e1]; exact a6
  · rw [e1]
    show va_up (s.2.2.1 20) r (bZ (x.2.2.2.2.2.2 || !(x.2.2.1 == y.2.2.1))) r = _
    rw [ua_s]; rfl
theorem jM_t {r : Nat} {b : Bool} {s2 : rS} (e1 : s2.2.2.1 = (jM s r b).2.2.1) : ∀ j i, ¬ tch r j i → s2.2.2.1 j i = s.2.2.1 j i := by
  intro j i h
  rw [e1]
  show va_up s.2.2.1 20 (va_up (s.2.2.1 20) r (bZ b)) j i = _
  by_cases c : j = 20
  · subst c; rw [ua_s]; exact ua_n (fun e => h (Or.inl ⟨by omega, e⟩))
  · rw [ua_n c]
theorem m_jn {w : Nat} {g : Nat → aR} (hN : 2001 ≤ N) (hp : p ≤ 40) (hw : w ≤ 200) : ∀ (d fu k : Nat) (s : rS) (o : List aR), d + k = w → d < fu → s.1 28 = nI w → s.1 11 = nI p → o.length ≤ k → OutR s p o → (∀ i, k ≤ i → i < w → RR s (200 * p + i) (g i) ∧ wfR (g i)) → (∀ i, o.length ≤ i → i < k → ∃ y, RR s (200 * p + i) y ∧ wfR y) →
    ∃ s', (f_MD_settle_59 N m fu (nI (200 * p)) (nI o.length) (nI k)).1 (ov M m s) = some ((), ov M m s') ∧ OutR s' p (jnS d k o g) ∧ s'.2.2.1 6 p = nI (jnS d k o g).length ∧ kj p s s' := by
  intro d
  induction d with
  | zero =>
    intro fu k s o h1 h2 h28 h11 hk hO hR hS
    obtain ⟨fu, rfl⟩ : ∃ g, fu = g + 1 := ⟨fu - 1, by omega⟩
    have ip : ¬ (nI p < 0 ∨ 41 ≤ (nI p).toNatClampNeg) := nI_in (by omega) (by decide)
    have cp := nI_clamp (n := p) (by omega)
    refine ⟨(s.1, s.2.1, va_up s.2.2.1 6 (va_up (s.2.2.1 6) p (nI o.length)), s.2.2.2), ?_, OutR.a6 o hO, ua_s, rfl, fun j i a b c _ => ?_, fun _ _ _ => rfl⟩
    · rw [e_MD_settle_59, r_let, r_let, r_let, r_let]
      simp only [mI_28, h28, show nI w ≤ nI k from nI_le (by omega) (by omega), if_true, mR_13, mI_11, h11, r_nn, mS_6 ip, cp, r_ret]
    · show va_up s.2.2.1 6 (va_up (s.2.2.1 6) p (nI o.length)) j i = _
      by_cases e : j = 6
      · subst e; rw [ua_s]; exact ua_n (fun e => c ⟨rfl, e⟩)
      · rw [ua_n e]
  | succ d ih =>
    intro fu k s o h1 h2 h28 h11 hk hO hR hS
    obtain ⟨fu, rfl⟩ : ∃ g, fu = g + 1 := ⟨fu - 1, by omega⟩
    have hgk := hR k (Nat.le_refl _) (by omega)
    rw [e_MD_settle_59, r_let, r_let, r_let, r_let]
    simp only [mI_28, h28, show ¬ nI w ≤ nI k from nI_ge (by omega) (by omega), if_false]
    -- a new row behind those kept
    have new : ∀ (s0 : rS) (x4 : Int32), x4 + 1 = nI (200 * p + o.length) → ks s s0 → ∃ s', (b_let (fun (x1 : Int32) (x2 : Int32) (x3 : Int32) => f_MD_settle_59 N m fu x1 (x2 + 1) (x3 + 1)) (fun J265 => (if (x4 + 1) = nI (200 * p) + nI k then J265 (nI (200 * p)) (nI o.length) (nI k) else b_is m 1 (b_call (f_MD_exchange N m (x4 + 1) (nI (200 * p) + nI k)) (fun _ => J265 (nI (200 * p)) (nI o.length) (nI k)))))).1 (ov M m s0) = some ((), ov M m s') ∧ OutR s' p (jnS d (k + 1) (g k :: o) g) ∧ s'.2.2.1 6 p = nI (jnS d (k + 1) (g k :: o) g).length ∧ kj p s s' := by
      intro s0 x4 e4 g0
      rw [r_let, e4, nI_add]
      have hO0 := OutR.ks g0 o hO
      by_cases c : o.length = k
      · rw [r_if_t (show nI (200 * p + o.length) = nI (200 * p + k) by rw [c])]
        dsimp only
        rw [nI_1, nI_1]
        obtain ⟨s', a, b, c', e⟩ := ih fu (k + 1) s0 (g k :: o) (by omega) (by omega) (by rw [g0.1]; exact h28) (by rw [g0.1]; exact h11) (by show o.length + 1 ≤ k + 1; omega) ⟨⟨by rw [c]; exact hgk.1.k g0, hgk.2⟩, hO0⟩ (fun i x y => ⟨(hR i (by omega) y).1.k g0, (hR i (by omega) y).2⟩) (fun i x y => absurd x (by show ¬ o.length + 1 ≤ i; omega))
        exact ⟨s', a, b, c', g0.t.j.tr e⟩
      · rw [r_if_f (show ¬ nI (200 * p + o.length) = nI (200 * p + k) from fun z => c (by have := (nI_eq (by omega) (by omega)).mp z; omega))]
        obtain ⟨y, hy, wy⟩ := hS o.length (Nat.le_refl _) (by omega)
        obtain ⟨s1, u1, u2, u3, u4, u5, u6, u7⟩ := m_exchange (N := N) (M := M) (m := m) (s := s0) hN (show 200 * p + o.length < 8200 by omega) (show 200 * p + k < 8200 by omega) (by omega) (hy.k g0) (hgk.1.k g0) wy hgk.2
        rw [mI_is, r_callE, u1, Option.bind_some]
        dsimp only
        rw [nI_1, nI_1]
        have kx := kt_x (p := p) u2 (by omega) (by omega) u6 u7
        obtain ⟨s', a, b, c', e⟩ := ih fu (k + 1) s1 (g k :: o) (by omega) (by omega) (by rw [u2, g0.1]; exact h28) (by rw [u2, g0.1]; exact h11) (by show o.length + 1 ≤ k + 1; omega) ⟨⟨u4, hgk.2⟩, OutR.k2 u6 u7 o (by omega) (by omega) hO0⟩ (fun i x z => ⟨RR_keep2 ((hR i (by omega) z).1.k g0) u6 u7 (by omega) (by omega), (hR i (by omega) z).2⟩) (fun i x z => by
          have x' : o.length + 1 ≤ i := x
          by_cases e : i = k
          · subst e; exact ⟨y, u5, wy⟩
          · obtain ⟨y', hy', wy'⟩ := hS i (by omega) (by omega)
            exact ⟨y', RR_keep2 (hy'.k g0) u6 u7 (by omega) (by omega), wy'⟩)
        exact ⟨s', a, b, c', (g0.t.j.tr kx.j).tr e⟩
    rcases o with _ | ⟨a, o⟩
    · rw [r_if_t (show nI ([] : List aR).length ≤ 0 from nI_le (a := 0) (b := 0) (by omega) (by omega))]
      refine new s (nI (200 * p) + nI 0 - 1) ?_ ks.rf
      rw [nI_add, Int32.sub_add_cancel]; rfl
    · have hlen : (a :: o).length = o.length + 1 := rfl
      rw [hlen] at hk hS new ⊢
      rw [r_if_f (show ¬ nI (o.length + 1) ≤ 0 from nI_ge (a := 0) (by omega) (by omega))]
      have e4 : nI (200 * p) + nI (o.length + 1) - 1 = nI (200 * p + o.length) := by rw [nI_add]; exact nI_pred (200 * p + o.length)
      obtain ⟨s1, r1, r2⟩ := m_joins (N := N) (M := M) (m := m) hN (show 200 * p + o.length < 8200 by omega) (show 200 * p + k < 8200 by omega) hO.1.1 hgk.1 hO.1.2 hgk.2
      simp only [e4, nI_add (200 * p) k, mI_is, r_callE, r1, Option.bind_some]
      rw [show jnS (d + 1) k (a :: o) g = @ite _ (joR a (g k)) (Classical.propDecidable _) (jnS d (k + 1) (jnR a (g k) :: o) g) (jnS d (k + 1) (g k :: a :: o) g) from rfl]
      by_cases c : joR a (g k)
      · rw [@bI_t (joR a (g k)) (Classical.propDecidable _) c, if_pos c, r_if_f (show ¬ (1 : Int32) = 0 by decide)]
        have hx1 := hO.1.1.k r2
        have hy1 := hgk.1.k r2
        have E1 := m_jE1 (N := N) (M := M) (m := m) (s := s1) (J := fun (x1 : Int32) (x2 : Int32) (x3 : Int32) => f_MD_settle_59 N m fu x1 x2 (x3 + 1)) (x1 := nI (200 * p)) (x2 := nI (o.length + 1)) (x3 := nI k) hN (show 200 * p + o.length < 8200 by omega) (show 200 * p + k < 8200 by omega) hx1 hy1
        obtain ⟨s2, t1, t2, t3, t4, t5, t6⟩ := m_jT (N := N) (M := M) (m := m) (s := jM s1 (200 * p + o.length) (a.2.2.2.2.2.2 || !(a.2.2.1 == (g k).2.2.1))) (J := fun (x1 : Int32) (x2 : Int32) (x3 : Int32) => f_MD_settle_59 N m fu x1 x2 (x3 + 1)) (x1 := nI (200 * p)) (x2 := nI (o.length + 1)) (x3 := nI k) (x := a) (y := g k) (show 200 * p + o.length < 8200 by omega) (show 200 * p + k < 8200 by omega) hx1.1.1 hO.1.2.1 hx1.1.2.2.2.2.2.2.1 hx1.1.2.2.2.2.2.2.2.1 hy1.1.2.2.2.2.2.2.1 hy1.1.2.2.2.2.2.2.2.1 (by omega)
        have T := jM_t (s2 := s2) t3
        have T2 : ∀ j i, ¬ tch (200 * p + o.length) j i → ¬ tch (200 * p + o.length) j i → s2.2.2.1 j i = s1.2.2.1 j i := fun j i h _ => T j i h
        have L2 : ∀ j i, ¬ tchL (200 * p + o.length) j i → ¬ tchL (200 * p + o.length) j i → s2.2.2.2 j i = s1.2.2.2 j i := fun j i h _ => t6 j i h
        have kx := kt_x (p := p) (s := s1) (s' := s2) (r := 200 * p + o.length) (r' := 200 * p + o.length) t2 (by omega) (by omega) T2 L2
        obtain ⟨s', x1, x2, x3, x4⟩ := ih fu (k + 1) s2 (jnR a (g k) :: o) (by omega) (by omega) (by rw [t2]; show s1.1 28 = _; rw [r2.1]; exact h28) (by rw [t2]; show s1.1 11 = _; rw [r2.1]; exact h11) (by show o.length + 1 ≤ k + 1; omega) ⟨⟨RR_jn hx1 t3 t4 t5, wf_jn hO.1.2⟩, OutR.k2 T2 L2 o (by omega) (by omega) (OutR.ks r2 o hO.2)⟩ (fun i x z => ⟨RR_keep2 ((hR i (by omega) z).1.k r2) T2 L2 (by omega) (by omega), (hR i (by omega) z).2⟩) (fun i x z => by
          have x' : o.length + 1 ≤ i := x
          by_cases e : i = k
          · subst e; exact ⟨g i, RR_keep2 hy1 T2 L2 (by omega) (by omega), hgk.2⟩
          · obtain ⟨y', hy', wy'⟩ := hS i (by omega) (by omega)
            exact ⟨y', RR_keep2 (hy'.k r2) T2 L2 (by omega) (by omega), wy'⟩)
        refine ⟨s', ?_, x2, x3, (r2.t.j.tr kx.j).tr x4⟩
        refine Eq.trans ?_ (E1.trans (t1.trans ?_))
        · rfl
        · rw [nI_1]
          exact x1
      · rw [@bI_f (joR a (g k)) (Classical.propDecidable _) c, if_neg c, r_if_t rfl]
        have := new s1 (nI (200 * p + o.length)) (nI_1 _) r2
        rw [nI_add (200 * p) k] at this
        exact this
theorem m_settle {w : Nat} {g : Nat → aR} (hN : 2001 ≤ N) (hp : p ≤ 40) (hw : w ≤ 200) (h28 : s.1 28 = nI w) (h11 : s.1 11 = nI p) (hM : MRg s p w g) : ∃ s', (f_MD_settle N m).1 (ov M m s) = some ((), ov M m s') ∧ OutR s' p (jnS w 0 [] (srtG (w - 1) 1 g)) ∧ s'.2.2.1 6 p = nI (jnS w 0 [] (srtG (w - 1) 1 g)).length ∧ kj p s s' := by
  rw [e_MD_settle]
  simp only [mI_is, r_callE, e_MD_base, mI_11, h11, r_ret, Option.bind_some, show (200 : Int32) * nI p = nI (200 * p) from nI_mul]
  obtain ⟨s1, a1, a2, a3, a4⟩ := m_sort (N := N) (M := M) (m := m) hN hp hw (w - 1) N 1 s g (by omega) (by omega) h28 (by omega) hM
  obtain ⟨s2, b1, b2, b3, b4⟩ := m_jn (N := N) (M := M) (m := m) (g := srtG (w - 1) 1 g) hN hp hw w N 0 s1 [] (by omega) (by omega) (by rw [a3.1]; exact h28) (by rw [a3.1]; exact h11) (Nat.le_refl _) trivial (fun i _ h => a2 i h) (fun i _ h => absurd h (by omega))
  exact ⟨s2, a1.trans b1, b2, b3, a3.j.tr b4⟩
end JN3
