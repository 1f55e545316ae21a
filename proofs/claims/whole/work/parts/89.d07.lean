/-! LAYER 2: the class sorts and joins the rows -/
def rAr (g : Nat → Option Nat) : va_E := .inl (1, 200, .inr (.inr (.inr (.inr g))))
def RG (D L : Nat) (M : hM) (V : Nat → Option Nat) (G : Nat → aR) (w : Nat) : Prop := (∀ i, i < w → ∃ b, V i = some b ∧ L ≤ b ∧ rwA D M b (G i) 0 ∧ wfA (G i)) ∧ ∀ i j b, i < w → j < w → V i = some b → V j = some b → i = j
section CSRT
variable {N z L : Nat} {M M' M'' : hM} {w : Nat}
theorem RG.sw {V : Nat → Option Nat} {G : Nat → aR} {D i : Nat} (h : RG D L M V G w) (hi : i + 1 < w) : RG D L M (va_up (va_up V i (V (i + 1))) (i + 1) (V i)) (swG G i) w := by
  have vv : ∀ j, (va_up (va_up V i (V (i + 1))) (i + 1) (V i)) j = V (if j = i + 1 then i else if j = i then i + 1 else j) := by
    intro j
    by_cases c1 : j = i + 1
    · rw [if_pos c1, c1, ua_s]
    · rw [if_neg c1, ua_n c1]
      by_cases c2 : j = i
      · rw [if_pos c2, c2, ua_s]
      · rw [if_neg c2, ua_n c2]
  have gg : ∀ j, swG G i j = G (if j = i + 1 then i else if j = i then i + 1 else j) := by
    intro j
    unfold swG
    by_cases c1 : j = i + 1
    · rw [if_pos c1, c1, ua_s]
    · rw [if_neg c1, ua_n c1]
      by_cases c2 : j = i
      · rw [if_pos c2, c2, ua_s]
      · rw [if_neg c2, ua_n c2]
  have lt : ∀ j, j < w → (if j = i + 1 then i else if j = i then i + 1 else j) < w := by
    intro j hj
    split
    · omega
    · split <;> omega
  refine ⟨fun j hj => ?_, fun j k b hj hk h1 h2 => ?_⟩
  · rw [vv, gg]; exact h.1 _ (lt j hj)
  · rw [vv] at h1 h2
    have := h.2 _ _ b (lt j hj) (lt k hk) h1 h2
    repeat' split at this
    all_goals omega
theorem A4 {g : Nat → Option Nat} : (hm_up M (z + 4) (rAr g)).1 (z + 4) = some (.inl (1, 200, .inr (.inr (.inr (.inr g))))) := up_s
theorem up4 {g : Nat → Option Nat} : dfr (z + 43) M (hm_up M (z + 4) (rAr g)) := ⟨Nat.le_refl _, fun b hb _ => up_n (by omega)⟩
theorem c_ins {rc fc trp stv x1 : Int32} {nm : Option Nat} {ver : Int64} {b : Nat} {K2 : Int32 → hX Unit} (hN : 2001 ≤ N) (hw : w ≤ 200) (hR : M.1 (z + 1) = some (rdC z rc fc nm ver trp stv)) : ∀ (t fu : Nat) (g : Nat → Option Nat) (G : Nat → aR), t < w → t < fu → RG (z + 43) L M (va_up g t (some b)) G w →
    ∃ V', (f_Reader_sortRows_19 N (z + 1) K2 fu x1 (some b) (nI t)).1 (hm_up M (z + 4) (rAr g)) = (K2 (x1 + 1)).1 (hm_up M (z + 4) (rAr V')) ∧ RG (z + 43) L M V' (insG t G) w := by
  intro t
  induction t with
  | zero =>
    intro fu g G h1 h2 hG
    obtain ⟨fu, rfl⟩ : ∃ g, fu = g + 1 := ⟨fu - 1, by omega⟩
    obtain ⟨b', e1, _, e2, _⟩ := hG.1 0 h1
    rw [ua_s] at e1; cases e1
    obtain ⟨fs, hc⟩ := e2.cell
    have i1 : ¬ (nI 0 < 0 ∨ 200 ≤ (nI 0).toNatClampNeg) := nI_in (by omega) (by decide)
    have c1 := nI_clamp (n := 0) (by omega)
    have hb := e2.1.1
    refine ⟨va_up g 0 (some b), ?_, hG⟩
    rw [e_Reader_sortRows_19, r_let, r_if_t (show nI 0 ≤ 0 by decide)]
    refine (r_getR (r := some (z + 4)) ((up_n (by omega)).trans hR) rfl).trans (r_nn.trans ((r_astR A4 i1 ((up_n (by omega)).trans hc)).trans ?_))
    rw [c1, up_up]; rfl
  | succ t ih =>
    intro fu g G h1 h2 hG
    obtain ⟨fu, rfl⟩ : ∃ g, fu = g + 1 := ⟨fu - 1, by omega⟩
    obtain ⟨b', e1, _, e2, e3⟩ := hG.1 (t + 1) h1
    rw [ua_s] at e1; cases e1
    obtain ⟨a, f1, _, f2, f3⟩ := hG.1 t (by omega)
    rw [ua_n (by omega)] at f1
    obtain ⟨fs, hc⟩ := e2.cell
    obtain ⟨fs', hc'⟩ := f2.cell
    have i1 : ¬ (nI (t + 1) < 0 ∨ 200 ≤ (nI (t + 1)).toNatClampNeg) := nI_in (by omega) (by decide)
    have c1 := nI_clamp (n := t + 1) (by omega)
    have i0 : ¬ (nI t < 0 ∨ 200 ≤ (nI t).toNatClampNeg) := nI_in (by omega) (by decide)
    have c0 := nI_clamp (n := t) (by omega)
    have hb := e2.1.1
    have hb' := f2.1.1
    have R1 : ∀ g, (hm_up M (z + 4) (rAr g)).1 (z + 1) = some (rdC z rc fc nm ver trp stv) := fun g => (up_n (by omega)).trans hR
    have ho := s_Roworder (N := N) (M := hm_up M (z + 4) (rAr g)) hN f3 e3 (f2.f up4) (e2.f up4)
    rw [e_Reader_sortRows_19, r_let, r_if_f (show ¬ nI (t + 1) ≤ 0 from nI_ge (a := 0) (by omega) (by omega))]
    have E : (b_getR (z + 1) 6 1 (fun r3 => b_nn r3 (fun a4 => b_aldR a4 1 (nI (t + 1) - 1) (fun r5 => b_nn r5 (fun a6 => b_is a6 7 (b_call (f_Row_order N a6 (some b)) (fun v7 => (if v7 ≤ 0 then (fun (x1 : Int32) (x2 : Option Nat) (x3 : Int32) => b_getR (z + 1) 6 1 (fun r1 => b_nn r1 (fun a2 => b_astR a2 1 7 x3 x2 (K2 (x1 + 1))))) x1 (some b) (nI (t + 1)) else b_getR (z + 1) 6 1 (fun r11 => b_getR (z + 1) 6 1 (fun r12 => b_nn r12 (fun a13 => b_aldR a13 1 (nI (t + 1) - 1) (fun r14 => b_nn r11 (fun a15 => b_astR a15 1 7 (nI (t + 1)) r14 (f_Reader_sortRows_19 N (z + 1) K2 fu x1 (some b) (nI (t + 1) + (-1)))))))))))))))).1 (hm_up M (z + 4) (rAr g)) = if 0 < ordR (G t) (G (t + 1)) then (f_Reader_sortRows_19 N (z + 1) K2 fu x1 (some b) (nI t)).1 (hm_up M (z + 4) (rAr (va_up g (t + 1) (some a)))) else (K2 (x1 + 1)).1 (hm_up M (z + 4) (rAr (va_up g (t + 1) (some b)))) := by
      refine (r_getR (r := some (z + 4)) (R1 g) rfl).trans (r_nn.trans ?_)
      rw [nI_pred]
      refine (r_aldR A4 i0).trans ?_
      rw [c0, f1, r_nn]
      refine (r_is ((up_n (by omega)).trans hc')).trans (r_callE.trans ?_)
      rw [ho, Option.bind_some]
      dsimp only
      by_cases c : 0 < ordR (G t) (G (t + 1))
      · rw [r_if_f (fun z => absurd c (Int32.not_lt.mpr z)), if_pos c]
        refine (r_getR (r := some (z + 4)) (R1 g) rfl).trans ((r_getR (r := some (z + 4)) (R1 g) rfl).trans (r_nn.trans ((r_aldR A4 i0).trans ?_)))
        rw [c0, f1, r_nn]
        refine (r_astR A4 i1 ((up_n (by omega)).trans hc')).trans ?_
        rw [c1, up_up, nI_m1]; rfl
      · rw [r_if_t (Int32.not_lt.mp c), if_neg c]
        refine (r_getR (r := some (z + 4)) (R1 g) rfl).trans (r_nn.trans ((r_astR A4 i1 ((up_n (by omega)).trans hc)).trans ?_))
        rw [c1, up_up]; rfl
    rw [E]
    rw [show insG (t + 1) G = if 0 < ordR (G t) (G (t + 1)) then insG t (swG G t) else G from rfl]
    by_cases c : 0 < ordR (G t) (G (t + 1))
    · rw [if_pos c, if_pos c]
      have hV : va_up (va_up g (t + 1) (some a)) t (some b) = va_up (va_up (va_up g (t + 1) (some b)) t ((va_up g (t + 1) (some b)) (t + 1))) (t + 1) ((va_up g (t + 1) (some b)) t) := by
        rw [ua_s, ua_n (by omega), f1]
        funext j
        by_cases j1 : j = t + 1
        · rw [j1, ua_n (by omega), ua_s, ua_s]
        · by_cases j2 : j = t
          · rw [j2, ua_s, ua_n (by omega), ua_s]
          · rw [ua_n j2, ua_n j1, ua_n j1, ua_n j2, ua_n j1]
      exact ih fu _ (swG G t) (by omega) (by omega) (by rw [hV]; exact hG.sw (by omega))
    · rw [if_neg c, if_neg c]
      exact ⟨_, rfl, hG⟩
theorem c_sort {fc trp stv : Int32} {nm : Option Nat} {ver : Int64} (hN : 2001 ≤ N) (hw : w ≤ 200) (hR : M.1 (z + 1) = some (rdC z (nI w) fc nm ver trp stv)) : ∀ (d fu k : Nat) (g : Nat → Option Nat) (G : Nat → aR), w - k = d → d < fu → k ≤ 201 → RG (z + 43) L M g G w →
    ∃ V', (f_Reader_sortRows_2 N (z + 1) fu (nI k)).1 (hm_up M (z + 4) (rAr g)) = some ((), hm_up M (z + 4) (rAr V')) ∧ RG (z + 43) L M V' (srtG d k G) w := by
  intro d
  induction d with
  | zero =>
    intro fu k g G h1 h2 h3 hG
    obtain ⟨fu, rfl⟩ : ∃ g, fu = g + 1 := ⟨fu - 1, by omega⟩
    refine ⟨g, ?_, hG⟩
    rw [e_Reader_sortRows_2]
    refine (r_getI ((up_n (by omega)).trans hR) rfl).trans ?_
    rw [r_if_t (show nI w ≤ nI k from nI_le (by omega) (by omega))]; rfl
  | succ d ih =>
    intro fu k g G h1 h2 h3 hG
    obtain ⟨fu, rfl⟩ : ∃ g, fu = g + 1 := ⟨fu - 1, by omega⟩
    have hk : k < w := by omega
    obtain ⟨b, e1, _, e2, e3⟩ := hG.1 k hk
    have i0 : ¬ (nI k < 0 ∨ 200 ≤ (nI k).toNatClampNeg) := nI_in (by omega) (by decide)
    have c0 := nI_clamp (n := k) (by omega)
    obtain ⟨V1, x1, x2⟩ := c_ins (N := N) (L := L) (x1 := nI k) (b := b) (K2 := f_Reader_sortRows_2 N (z + 1) fu) hN hw hR k N g G hk (by omega) (by rw [ua_self e1]; exact hG)
    obtain ⟨V2, y1, y2⟩ := ih fu (k + 1) V1 (insG k G) (by omega) (by omega) (by omega) x2
    refine ⟨V2, ?_, y2⟩
    rw [e_Reader_sortRows_2]
    refine (r_getI ((up_n (by omega)).trans hR) rfl).trans ?_
    rw [r_if_f (show ¬ nI w ≤ nI k from nI_ge (by omega) (by omega))]
    refine (r_getR (r := some (z + 4)) ((up_n (by omega)).trans hR) rfl).trans (r_nn.trans ((r_aldR A4 i0).trans ?_))
    rw [c0, e1, x1, nI_1]
    exact y1
end CSRT
