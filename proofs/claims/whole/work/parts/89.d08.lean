/-! LAYER 2: the class joins the rows -/
/-- the rows kept so far, the last one first -/
def OutC (D L : Nat) (M : hM) (g : Nat → Option Nat) : List aR → Prop
  | [] => True
  | a :: o => (∃ b, g o.length = some b ∧ L ≤ b ∧ rwA D M b a 0 ∧ wfA a) ∧ OutC D L M g o
def jfr (z L : Nat) (M M' : hM) : Prop := M'.2 = M.2 ∧ (∀ b, b < L → b ≠ z + 1 → b ≠ z + 4 → M'.1 b = M.1 b) ∧ (∀ c w, nmA (z + 43) M c w → nmA (z + 43) M' c w)
section CJN
variable {N z L : Nat} {M M' M'' : hM} {w : Nat} {g : Nat → Option Nat} {G : Nat → aR}
theorem jfr.rf : jfr z L M M := ⟨rfl, fun _ _ _ _ => rfl, fun _ _ h => h⟩
theorem jfr.tr (h : jfr z L M M') (k : jfr z L M' M'') : jfr z L M M'' := ⟨k.1.trans h.1, fun b a c d => (k.2.1 b a c d).trans (h.2.1 b a c d), fun c w a => k.2.2 c w (h.2.2 c w a)⟩
theorem jfr_4 {e : va_E} : jfr z L M (hm_up M (z + 4) e) := ⟨rfl, fun b _ _ h => up_n h, fun c w h => h.f ⟨Nat.le_refl _, fun b hb _ => up_n (by omega)⟩⟩
theorem jfr_1 {e : va_E} : jfr z L M (hm_up M (z + 1) e) := ⟨rfl, fun b _ h _ => up_n h, fun c w h => h.f ⟨Nat.le_refl _, fun b hb _ => up_n (by omega)⟩⟩
theorem jfr_r {e : va_E} {b : Nat} {fs : List Value} (hb : L ≤ b) (h : M.1 b = some (.inr (7, fs))) : jfr z L M (hm_up M b e) := ⟨rfl, fun c h _ _ => up_n (by omega), fun c w k => nmA_ne h k⟩
theorem OutC.up {b D : Nat} {fs : List Value} {e : va_E} (h : M.1 b = some (.inr (7, fs))) : ∀ (o : List aR), (∀ i, i < o.length → g i ≠ some b) → OutC D L M g o → OutC D L (hm_up M b e) g o
  | [], _, _ => trivial
  | a :: o, hn, ⟨⟨c, c1, c2, c3, c4⟩, ho⟩ => ⟨⟨c, c1, c2, rwA_ne h c3 (fun z => hn o.length (Nat.lt_succ_self _) (by rw [c1, z])), c4⟩, OutC.up h o (fun i hi => hn i (Nat.lt_succ_of_lt hi)) ho⟩
theorem OutC.f {D : Nat} (k : dfr D M M') : ∀ (o : List aR), OutC D L M g o → OutC D L M' g o
  | [], _ => trivial
  | a :: o, ⟨⟨c, c1, c2, c3, c4⟩, ho⟩ => ⟨⟨c, c1, c2, c3.f k, c4⟩, OutC.f k o ho⟩
theorem OutC.gg {D : Nat} {g' : Nat → Option Nat} : ∀ (o : List aR), (∀ i, i < o.length → g' i = g i) → OutC D L M g o → OutC D L M g' o
  | [], _, _ => trivial
  | a :: o, hn, ⟨⟨c, c1, c2⟩, ho⟩ => ⟨⟨c, by rw [hn _ (Nat.lt_succ_self _)]; exact c1, c2⟩, OutC.gg o (fun i hi => hn i (Nat.lt_succ_of_lt hi)) ho⟩
theorem OutC_get {D : Nat} : ∀ (o : List aR) (i : Nat) (x : aR), OutC D L M g o → o.reverse[i]? = some x → ∃ b, g i = some b ∧ L ≤ b ∧ rwA D M b x 0 ∧ wfA x
  | [], i, x, _, h => by rw [List.reverse_nil, List.getElem?_nil] at h; cases h
  | a :: o, i, x, ⟨h1, h2⟩, h => by
    rw [List.reverse_cons] at h
    rcases app_get h with d | ⟨d1, d2⟩
    · exact OutC_get o i x h2 d
    · rw [List.length_reverse] at d1
      rw [d1, d2]; exact h1
def act (o w k i : Nat) : Prop := i < o ∨ (k ≤ i ∧ i < w)
theorem c_join {fc trp stv : Int32} {nm : Option Nat} {ver : Int64} (hN : 2001 ≤ N) (hw : w ≤ 200) (hzL : z + 43 ≤ L) : ∀ (d fu k : Nat) (M : hM) (g : Nat → Option Nat) (o : List aR), d + k = w → d < fu → o.length ≤ k → M.1 (z + 1) = some (rdC z (nI w) fc nm ver trp stv) → M.1 (z + 4) = some (rAr g) → OutC (z + 43) L M g o → (∀ i, k ≤ i → i < w → ∃ b, g i = some b ∧ L ≤ b ∧ rwA (z + 43) M b (G i) 0 ∧ wfA (G i)) → (∀ i j b, act o.length w k i → act o.length w k j → g i = some b → g j = some b → i = j) →
    ∃ M' g', (f_Reader_joinRows_4 N (z + 1) fu (nI o.length) (nI k)).1 M = some ((), M') ∧ M'.1 (z + 1) = some (rdC z (nI (jnS d k o G).length) fc nm ver trp stv) ∧ M'.1 (z + 4) = some (rAr g') ∧ OutC (z + 43) L M' g' (jnS d k o G) ∧ (∀ i j b, i < (jnS d k o G).length → j < (jnS d k o G).length → g' i = some b → g' j = some b → i = j) ∧ jfr z L M M' := by
  intro d
  induction d with
  | zero =>
    intro fu k M g o h1 h2 h3 hR hA hO hG hI
    obtain ⟨fu, rfl⟩ : ∃ g, fu = g + 1 := ⟨fu - 1, by omega⟩
    refine ⟨hm_up M (z + 1) (rdC z (nI o.length) fc nm ver trp stv), g, ?_, up_s, (up_n (by omega)).trans hA, OutC.f (M := M) (M' := hm_up M (z + 1) (rdC z (nI o.length) fc nm ver trp stv)) ⟨Nat.le_refl _, fun b hb _ => up_n (by omega)⟩ o hO, fun i j b hi hj => hI i j b (Or.inl hi) (Or.inl hj), jfr_1⟩
    rw [e_Reader_joinRows_4, r_let, r_let]
    refine (r_getI hR rfl).trans ?_
    rw [r_if_t (show nI w ≤ nI k from nI_le (by omega) (by omega))]
    exact (r_put hR (Nat.le_of_ble_eq_true rfl)).trans rfl
  | succ d ih =>
    intro fu k M g o h1 h2 h3 hR hA hO hG hI
    obtain ⟨fu, rfl⟩ : ∃ g, fu = g + 1 := ⟨fu - 1, by omega⟩
    obtain ⟨b, e1, e2, e3, e4⟩ := hG k (Nat.le_refl _) (by omega)
    obtain ⟨fs, hc⟩ := e3.cell
    have i0 : ¬ (nI k < 0 ∨ 200 ≤ (nI k).toNatClampNeg) := nI_in (by omega) (by decide)
    have c0 := nI_clamp (n := k) (by omega)
    have hA' : M.1 (z + 4) = some (.inl (1, 200, .inr (.inr (.inr (.inr g))))) := hA
    -- the row is kept
    have keep : ∃ M' g', (b_getR (z + 1) 6 1 (fun r1 => b_getR (z + 1) 6 1 (fun r2 => b_nn r2 (fun a3 => b_aldR a3 1 (nI k) (fun r4 => b_nn r1 (fun a5 => b_astR a5 1 7 (nI o.length) r4 (f_Reader_joinRows_4 N (z + 1) fu (nI o.length + 1) (nI k + 1)))))))).1 M = some ((), M') ∧ M'.1 (z + 1) = some (rdC z (nI (jnS d (k + 1) (G k :: o) G).length) fc nm ver trp stv) ∧ M'.1 (z + 4) = some (rAr g') ∧ OutC (z + 43) L M' g' (jnS d (k + 1) (G k :: o) G) ∧ (∀ i j b, i < (jnS d (k + 1) (G k :: o) G).length → j < (jnS d (k + 1) (G k :: o) G).length → g' i = some b → g' j = some b → i = j) ∧ jfr z L M M' := by
      have i1 : ¬ (nI o.length < 0 ∨ 200 ≤ (nI o.length).toNatClampNeg) := nI_in (by omega) (by decide)
      have c1 := nI_clamp (n := o.length) (by omega)
      have fr : dfr (z + 43) M (hm_up M (z + 4) (rAr (va_up g o.length (some b)))) := ⟨Nat.le_refl _, fun b hb _ => up_n (by omega)⟩
      have hl : (G k :: o).length = o.length + 1 := rfl
      obtain ⟨M', g', x1, x2, x3, x4, x5, x6⟩ := ih fu (k + 1) (hm_up M (z + 4) (rAr (va_up g o.length (some b)))) (va_up g o.length (some b)) (G k :: o) (by omega) (by omega) (by rw [hl]; omega) ((up_n (by omega)).trans hR) up_s ⟨⟨b, ua_s, e2, e3.f fr, e4⟩, OutC.f fr o (OutC.gg o (fun i hi => ua_n (by omega)) hO)⟩ (fun i hi hi2 => by
        obtain ⟨c, y1, y2, y3, y4⟩ := hG i (by omega) hi2
        exact ⟨c, by rw [ua_n (by omega)]; exact y1, y2, y3.f fr, y4⟩) (fun i j c hi hj gi gj => by
        rw [hl] at hi hj
        unfold act at hi hj
        by_cases ci : i = o.length
        · by_cases cj : j = o.length
          · omega
          · rw [ci, ua_s] at gi
            rw [ua_n cj] at gj
            have := hI k j c (by unfold act; omega) (by unfold act; omega) (by rw [e1]; exact gi) gj
            omega
        · rw [ua_n ci] at gi
          by_cases cj : j = o.length
          · rw [cj, ua_s] at gj
            have := hI i k c (by unfold act; omega) (by unfold act; omega) gi (by rw [e1]; exact gj)
            omega
          · rw [ua_n cj] at gj
            exact hI i j c (by unfold act; omega) (by unfold act; omega) gi gj)
      refine ⟨M', g', ?_, x2, x3, x4, x5, jfr_4.tr x6⟩
      refine (r_getR (r := some (z + 4)) hR rfl).trans ((r_getR (r := some (z + 4)) hR rfl).trans (r_nn.trans ((r_aldR hA' i0).trans ?_)))
      rw [c0, e1, r_nn]
      refine (r_astR hA' i1 hc).trans ?_
      rw [c1, nI_1, nI_1]
      exact x1
    rw [e_Reader_joinRows_4, r_let, r_let]
    rcases o with _ | ⟨a, o⟩
    · obtain ⟨M', g', x1, x2⟩ := keep
      refine ⟨M', g', ?_, x2⟩
      refine (r_getI hR rfl).trans ?_
      rw [r_if_f (show ¬ nI w ≤ nI k from nI_ge (by omega) (by omega)), r_if_t (show nI ([] : List aR).length ≤ 0 by decide)]
      exact x1
    · have hl : (a :: o).length = o.length + 1 := rfl
      obtain ⟨⟨ba, f1, f2, f3, f4⟩, hO'⟩ := hO
      obtain ⟨fs', hc'⟩ := f3.cell
      have i1 : ¬ (nI o.length < 0 ∨ 200 ≤ (nI o.length).toNatClampNeg) := nI_in (by omega) (by decide)
      have c1 := nI_clamp (n := o.length) (by omega)
      have hne : b ≠ ba := fun z => by
        have := hI k o.length b (by unfold act; omega) (by unfold act; omega) e1 (by rw [z]; exact f1)
        omega
      have hj := s_Rjoins (N := N) hN f4 e4 f3 e3
      have pre : ∀ {X : Option (Unit × hM)} {K : Int32 → hX Unit}, (K (@bI (joR a (G k)) (Classical.propDecidable _))).1 M = X → (b_getR (z + 1) 6 1 (fun r7 => b_nn r7 (fun a8 => b_aldR a8 1 (nI (a :: o).length - 1) (fun r9 => b_getR (z + 1) 6 1 (fun r10 => b_nn r10 (fun a11 => b_aldR a11 1 (nI k) (fun r12 => b_nn r9 (fun a13 => b_is a13 7 (b_call (f_Row_joins N a13 r12) K))))))))).1 M = X := by
        intro X K h
        refine (r_getR (r := some (z + 4)) hR rfl).trans (r_nn.trans ?_)
        rw [hl, nI_pred]
        refine (r_aldR hA' i1).trans ?_
        rw [c1, f1]
        refine (r_getR (r := some (z + 4)) hR rfl).trans (r_nn.trans ((r_aldR hA' i0).trans ?_))
        rw [c0, e1, r_nn]
        refine (r_is hc').trans (r_callE.trans ?_)
        rw [hj, Option.bind_some]
        exact h
      rw [show jnS (d + 1) k (a :: o) G = @ite _ (joR a (G k)) (Classical.propDecidable _) (jnS d (k + 1) (jnR a (G k) :: o) G) (jnS d (k + 1) (G k :: a :: o) G) from rfl]
      by_cases c : joR a (G k)
      · rw [if_pos c]
        obtain ⟨e, y1, y2⟩ := s_Rjoin (N := N) hN f4 e4 c hne f3 e3
        obtain ⟨M', g', x1, x2, x3, x4, x5, x6⟩ := ih fu (k + 1) (hm_up M ba e) g (jnR a (G k) :: o) (by omega) (by omega) (by show o.length + 1 ≤ _; omega) ((up_n (by omega)).trans hR) ((up_n (by omega)).trans hA) ⟨⟨ba, f1, f2, y2, wfA_jn f4 e4 c⟩, OutC.up hc' o (fun i hi z => by
          have := hI i o.length ba (by unfold act; omega) (by unfold act; omega) z f1
          omega) hO'⟩ (fun i hi hi2 => by
          obtain ⟨c, y1, y2, y3, y4⟩ := hG i (by omega) hi2
          exact ⟨c, y1, y2, rwA_ne hc' y3 (fun z => by
            have := hI i o.length ba (by unfold act; omega) (by unfold act; omega) (by rw [← z]; exact y1) f1
            omega), y4⟩) (fun i j c hi hj gi gj => by
          have hl2 : (jnR a (G k) :: o).length = o.length + 1 := rfl
          rw [hl2] at hi hj
          unfold act at hi hj
          exact hI i j c (by unfold act; omega) (by unfold act; omega) gi gj)
        refine ⟨M', g', ?_, x2, x3, x4, x5, (jfr_r f2 hc').tr x6⟩
        refine (r_getI hR rfl).trans ?_
        rw [r_if_f (show ¬ nI w ≤ nI k from nI_ge (by omega) (by omega)), r_if_f (show ¬ nI (a :: o).length ≤ 0 from nI_ge (a := 0) (by omega) (by omega))]
        refine pre ?_
        rw [@bI_t (joR a (G k)) (Classical.propDecidable _) c, r_if_f (show ¬ (1 : Int32) = 0 by decide)]
        refine (r_getR (r := some (z + 4)) hR rfl).trans (r_nn.trans ?_)
        rw [hl, nI_pred]
        refine (r_aldR hA' i1).trans ?_
        rw [c1, f1]
        refine (r_getR (r := some (z + 4)) hR rfl).trans (r_nn.trans ((r_aldR hA' i0).trans ?_))
        rw [c0, e1, r_nn]
        refine (r_is hc').trans (r_callE.trans ?_)
        rw [y1, Option.bind_some]
        dsimp only
        rw [nI_1]
        exact x1
      · rw [if_neg c]
        obtain ⟨M', g', x1, x2⟩ := keep
        refine ⟨M', g', ?_, x2⟩
        refine (r_getI hR rfl).trans ?_
        rw [r_if_f (show ¬ nI w ≤ nI k from nI_ge (by omega) (by omega)), r_if_f (show ¬ nI (a :: o).length ≤ 0 from nI_ge (a := 0) (by omega) (by omega))]
        refine pre ?_
        rw [@bI_f (joR a (G k)) (Classical.propDecidable _) c, r_if_t rfl]
        exact x1
end CJN
