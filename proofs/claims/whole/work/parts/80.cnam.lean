/-! LAYER 2: the class's names -/
/-- a name object at b, all of it from D on -/
def nmA (D : Nat) (M : hM) (b : Nat) (w : List Int32) : Prop := ∃ p1 p2, (D ≤ b ∧ b < M.2.1) ∧ (D ≤ p1 ∧ p1 < M.2.1) ∧ (D ≤ p2 ∧ p2 < M.2.1) ∧ M.1 b = some (.inr (2, [.ref p1, .ref p2, .int (nI (fold w).length)])) ∧ M.1 p1 = some (.inl (0, w.length, .inl (fun j => w.getD j 0))) ∧ M.1 p2 = some (.inl (0, w.length, .inl (fun j => (fold w).getD j 0)))
/-- what lies from D on stays -/
def dfr (D : Nat) (M M' : hM) : Prop := M.2.1 ≤ M'.2.1 ∧ ∀ b, D ≤ b → b < M.2.1 → M'.1 b = M.1 b
section CNAM
variable {N D : Nat} {M M' M'' : hM}
theorem dfr.rf : dfr D M M := ⟨Nat.le_refl _, fun _ _ _ => rfl⟩
theorem dfr.tr (h : dfr D M M') (g : dfr D M' M'') : dfr D M M'' := ⟨Nat.le_trans h.1 g.1, fun b x y => (g.2 b x (Nat.lt_of_lt_of_le y h.1)).trans (h.2 b x y)⟩
theorem nmA.f {b : Nat} {w : List Int32} (h : nmA D M b w) (g : dfr D M M') : nmA D M' b w := by
  obtain ⟨p1, p2, a, c, e, h1, h2, h3⟩ := h
  have := g.1
  exact ⟨p1, p2, ⟨a.1, by omega⟩, ⟨c.1, by omega⟩, ⟨e.1, by omega⟩, (g.2 b a.1 a.2).trans h1, (g.2 p1 c.1 c.2).trans h2, (g.2 p2 e.1 e.2).trans h3⟩
theorem upd_va {f : Nat → Int32} {k : Nat} {x : Int32} : upd f k x = va_up f k x := rfl
theorem nar_ch {c : Int32} (h : sml c) : vp_nar .char c = c := by
  obtain ⟨j, hj, e⟩ := h
  rw [e]
  have : ∀ b : Fin 128, vp_nar .char (nI b.val) = nI b.val := by decide +kernel
  exact this ⟨j, hj⟩
theorem lw_sml {c : Int32} (h : sml c) : sml (lw c) := by
  obtain ⟨j, hj, e⟩ := h
  have : ∀ b : Fin 128, ∃ j : Fin 128, lw (nI b.val) = nI j.val := by decide +kernel
  obtain ⟨k, hk⟩ := this ⟨j, hj⟩
  rw [e]; exact ⟨k.val, k.isLt, hk⟩
theorem lw_45 {c : Int32} (h : sml c) (hb : ¬ cB c) : ¬ lw c = 45 := by
  obtain ⟨j, hj, e⟩ := h
  rw [e] at hb ⊢
  have : ∀ b : Fin 128, ¬ cB (nI b.val) → ¬ lw (nI b.val) = 45 := by decide +kernel
  exact this ⟨j, hj⟩ hb
theorem s_small {c : Int32} (h : sml c) : (f_Name_smallLetter N c).1 M = some (lw c, M) := by
  rw [e_Name_smallLetter, r_let, r_let]
  have h1 := lw_sml h
  unfold lw at *
  by_cases c1 : c < 65
  · rw [r_if_t c1, if_neg (fun z => absurd (Int32.lt_of_lt_of_le c1 z.1) Int32.lt_irrefl)]
    exact b_retN_ok (nar_ch h)
  · rw [r_if_f c1]
    by_cases c2 : 90 < c
    · rw [r_if_t c2, if_neg (fun z => absurd (Int32.lt_of_lt_of_le c2 z.2) Int32.lt_irrefl)]
      exact b_retN_ok (nar_ch h)
    · rw [r_if_f c2]
      have hc : 65 ≤ c ∧ c ≤ 90 := ⟨Int32.not_lt.mp c1, Int32.not_lt.mp c2⟩
      rw [if_pos hc] at h1 ⊢
      have e : (((((c - 65) + 97) : Int32).toUInt32 % 65536).toInt32) = c + 32 := by
        obtain ⟨j, hj, e⟩ := h
        rw [e] at hc ⊢
        have : ∀ b : Fin 128, (65 ≤ nI b.val ∧ nI b.val ≤ 90) → ((((nI b.val - 65) + 97) : Int32).toUInt32 % 65536).toInt32 = nI b.val + 32 := by decide +kernel
        exact this ⟨j, hj⟩ hc
      rw [e]
      exact b_retN_ok (nar_ch h1)
theorem up3 {a b : Nat} {x x' y y' : va_E} (h1 : a ≠ b) : hm_up (hm_up (hm_up (hm_up M a x) b y) a x') b y' = hm_up (hm_up M a x') b y' := by
  rw [up_comm (M := hm_up M a x) (Ne.symm h1), up_up, up_up]
theorem s_nam_loop {h0 pw pf p0 b L : Nat} {f : Nat → Int32} {w : List Int32} (hw : wfN w) (hL : L = w.length) (hb : b + L ≤ 2000) (hf : ∀ j, j < L → f (b + j) = w.getD j 0) (d1 : h0 ≠ pw) (d2 : h0 ≠ pf) (d3 : pw ≠ pf) (d4 : p0 ≠ h0) (d5 : p0 ≠ pw) (d6 : p0 ≠ pf) {p2 : Int32} : ∀ (d fu i c : Nat) (W G : Nat → Int32) (bb : Bool) (M : hM), d + i = L → d < fu → c ≤ i → (bb = true ↔ (c ≠ 0 ∧ G (c - 1) = 45)) → M.1 h0 = some (.inr (2, [.ref pw, .ref pf, .int 0])) → M.1 pw = some (.inl (0, L, .inl W)) → M.1 pf = some (.inl (0, L, .inl G)) → M.1 p0 = some (.inl (0, 2000, .inl f)) →
    (f_Name_init_50 N h0 (some p0) (nI b) p2 fu (nI L) (nI c) (nI i)).1 M = some ((), hm_up (hm_up (hm_up M pw (.inl (0, L, .inl (cpA W i d (fun j => w.getD (i + j) 0))))) pf (.inl (0, L, .inl (cpA G c (fd bb (w.drop i)).length (fun j => (fd bb (w.drop i)).getD j 0))))) h0 (.inr (2, [.ref pw, .ref pf, .int (nI (c + (fd bb (w.drop i)).length))]))) := by
  have hl := hw.1
  intro d
  induction d with
  | zero =>
    intro fu i c W G bb M h1 h2 h3 hbb m1 m2 m3 m4
    obtain ⟨fu, rfl⟩ : ∃ g, fu = g + 1 := ⟨fu - 1, by omega⟩
    have e0 : fd bb (w.drop i) = [] := by rw [List.drop_eq_nil_of_le (by omega)]; unfold fd; rfl
    rw [e0, cpA_nil, cpA_0, up_self m2, up_self m3, e_Name_init_50, r_let, r_if_t (show nI L ≤ nI i from nI_le (by omega) (by omega))]
    refine (r_put m1 (Nat.le_of_ble_eq_true rfl)).trans ?_
    rfl
  | succ d ih =>
    intro fu i c W G bb M h1 h2 h3 hbb m1 m2 m3 m4
    obtain ⟨fu, rfl⟩ : ∃ g, fu = g + 1 := ⟨fu - 1, by omega⟩
    have hi : i < w.length := by omega
    have hsm := wfN_sml hw _ (mem_getD hi)
    have i1 : ¬ (nI (b + i) < 0 ∨ 2000 ≤ (nI (b + i)).toNatClampNeg) := nI_in (by omega) (by decide)
    have c1 := nI_clamp (n := b + i) (by omega)
    have i2 : ¬ (nI i < 0 ∨ L ≤ (nI i).toNatClampNeg) := nI_in (by omega) (by omega)
    have c2 := nI_clamp (n := i) (by omega)
    have i3 : ¬ (nI c < 0 ∨ L ≤ (nI c).toNatClampNeg) := nI_in (by omega) (by omega)
    have c3 := nI_clamp (n := c) (by omega)
    rw [e_Name_init_50, r_let, r_if_f (show ¬ nI L ≤ nI i from nI_ge (by omega) (by omega)), r_nn, nI_add]
    refine (r_ald m4 i1).trans ?_
    rw [c1, hf i (by omega)]
    refine (r_getR (r := some pw) m1 rfl).trans (r_nn.trans ((r_ast m2 i2).trans ?_))
    rw [c2, nar_ch hsm, upd_va, r_callE, s_isBar, Option.bind_some]
    have eW : cpA W i (d + 1) (fun j => w.getD (i + j) 0) = cpA (va_up W i (w.getD i 0)) (i + 1) d (fun j => w.getD (i + 1 + j) 0) := by
      funext j
      unfold cpA va_up
      by_cases e : j = i
      · rw [if_pos (by omega), if_neg (by omega), if_pos e, e, Nat.sub_self]; rfl
      · rw [if_neg e]
        by_cases e2 : i + 1 ≤ j ∧ j < i + 1 + d
        · rw [if_pos (by omega), if_pos e2]
          dsimp only
          rw [show i + (j - i) = i + 1 + (j - (i + 1)) by omega]
        · rw [if_neg (by omega), if_neg e2]
    -- the sign is put behind
    have push : ∀ (x : Int32) (bb' : Bool), sml x → (bb' = true ↔ x = 45) → (b_getR h0 2 1 (fun r1 => b_nn r1 (fun a2 => b_ast a2 0 (nI c) (vp_nar .char x) (f_Name_init_50 N h0 (some p0) (nI b) p2 fu (nI L) (nI c + 1) (nI i + 1))))).1 (hm_up M pw (.inl (0, L, .inl (va_up W i (w.getD i 0))))) = some ((), hm_up (hm_up (hm_up M pw (.inl (0, L, .inl (cpA W i (d + 1) (fun j => w.getD (i + j) 0))))) pf (.inl (0, L, .inl (cpA G c (x :: fd bb' (w.drop (i + 1))).length (fun j => (x :: fd bb' (w.drop (i + 1))).getD j 0))))) h0 (.inr (2, [.ref pw, .ref pf, .int (nI (c + (x :: fd bb' (w.drop (i + 1))).length))]))) := by
      intro x bb' hx hb'
      refine (r_getR (r := some pf) ((up_n d1).trans m1) rfl).trans (r_nn.trans ((r_ast ((up_n (Ne.symm d3)).trans m3) i3).trans ?_))
      rw [c3, nar_ch hx, upd_va, nI_1, nI_1]
      have := ih fu (i + 1) (c + 1) (va_up W i (w.getD i 0)) (va_up G c x) bb' (hm_up (hm_up M pw (.inl (0, L, .inl (va_up W i (w.getD i 0))))) pf (.inl (0, L, .inl (va_up G c x)))) (by omega) (by omega) (by omega) (by
        rw [hb', Nat.add_sub_cancel, ua_s]; exact ⟨fun z => ⟨by omega, z⟩, fun z => z.2⟩) ((up_n d2).trans ((up_n d1).trans m1)) ((up_n d3).trans up_s) up_s ((up_n d6).trans ((up_n d5).trans m4))
      rw [this, up3 d3, ← eW, cpA_cons, show c + 1 + (fd bb' (w.drop (i + 1))).length = c + (x :: fd bb' (w.drop (i + 1))).length from by show _ = c + (_ + 1); omega]
    rw [drop_cons hi]
    by_cases cb : cB (w.getD i 0)
    · rw [bI_t cb, r_if_f (show ¬ (1 : Int32) = 0 by decide)]
      dsimp only
      rw [r_let, r_let, r_if_t rfl]
      have eF : fd bb (w.getD i 0 :: w.drop (i + 1)) = if bb = true then fd true (w.drop (i + 1)) else 45 :: fd true (w.drop (i + 1)) := by
        show (if cB (w.getD i 0) then _ else _) = _
        rw [if_pos cb]
      rw [eF]
      have skip : bb = true → (f_Name_init_50 N h0 (some p0) (nI b) p2 fu (nI L) (nI c) (nI i + 1)).1 (hm_up M pw (.inl (0, L, .inl (va_up W i (w.getD i 0))))) = some ((), hm_up (hm_up (hm_up M pw (.inl (0, L, .inl (cpA W i (d + 1) (fun j => w.getD (i + j) 0))))) pf (.inl (0, L, .inl (cpA G c (fd true (w.drop (i + 1))).length (fun j => (fd true (w.drop (i + 1))).getD j 0))))) h0 (.inr (2, [.ref pw, .ref pf, .int (nI (c + (fd true (w.drop (i + 1))).length))]))) := by
        intro hb
        rw [nI_1]
        have := ih fu (i + 1) c (va_up W i (w.getD i 0)) G true (hm_up M pw (.inl (0, L, .inl (va_up W i (w.getD i 0))))) (by omega) (by omega) (by omega) (by rw [← hbb, hb]) ((up_n d1).trans m1) up_s ((up_n (Ne.symm d3)).trans m3) ((up_n d5).trans m4)
        rw [this, up_up, ← eW]
      by_cases z0 : c = 0
      · have hbf : ¬ bb = true := fun z => (hbb.mp z).1 z0
        rw [r_if_t (show nI c = 0 by rw [z0]; rfl), if_neg hbf]
        exact push 45 true (sml_nI (j := 45) (by decide)) ⟨fun _ => rfl, fun _ => rfl⟩
      · rw [r_if_f (show ¬ nI c = 0 from fun z => z0 ((nI_eq (b := 0) (by omega) (by omega)).mp z))]
        have i4 : ¬ (nI (c - 1) < 0 ∨ L ≤ (nI (c - 1)).toNatClampNeg) := nI_in (by omega) (by omega)
        have c4 := nI_clamp (n := c - 1) (by omega)
        refine (r_getR (r := some pf) ((up_n d1).trans m1) rfl).trans (r_nn.trans ?_)
        rw [show nI c - 1 = nI (c - 1) from pk_sub (b := 1) (by omega)]
        refine (r_ald ((up_n (Ne.symm d3)).trans m3) i4).trans ?_
        rw [c4]
        by_cases g : G (c - 1) = 45
        · have hbt : bb = true := hbb.mpr ⟨z0, g⟩
          rw [r_if_t g, if_pos hbt]
          exact skip hbt
        · have hbf : ¬ bb = true := fun z => g (hbb.mp z).2
          rw [r_if_f g, if_neg hbf]
          exact push 45 true (sml_nI (j := 45) (by decide)) ⟨fun _ => rfl, fun _ => rfl⟩
    · rw [bI_f cb, r_if_t rfl, r_callE, s_small hsm, Option.bind_some]
      dsimp only
      rw [r_let, r_let, r_if_f (lw_45 hsm cb)]
      have eF : fd bb (w.getD i 0 :: w.drop (i + 1)) = lw (w.getD i 0) :: fd false (w.drop (i + 1)) := by
        show (if cB (w.getD i 0) then _ else _) = _
        rw [if_neg cb]
      rw [eF]
      exact push (lw (w.getD i 0)) false (lw_sml hsm) ⟨fun z => (by cases z), fun z => absurd z (lw_45 hsm cb)⟩
end CNAM
