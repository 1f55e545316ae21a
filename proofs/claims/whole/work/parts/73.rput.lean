/-! LAYER 2: the reference prints -/
/-- what was printed so far -/
def Pst (s : rS) (L : List Int32) : Prop := s.1 43 = nI L.length ∧ ∀ i c, L[i]? = some c → s.2.2.1 28 i = c
/-- printing leaves all but the print and scratch -/
def kP (s s' : rS) : Prop := s'.2.1 = s.2.1 ∧ s'.2.2.2 = s.2.2.2 ∧ (∀ j, j ≠ 43 → s'.1 j = s.1 j) ∧ (∀ j, j ≠ 23 → j ≠ 24 → j ≠ 28 → s'.2.2.1 j = s.2.2.1 j)
/-- X prints l -/
def Emt (M : hM) (m : Nat) (s : rS) (L l : List Int32) (X : Option (Unit × hM)) : Prop := ∃ s', X = some ((), ov M m s') ∧ Pst s' (L ++ l) ∧ kP s s'
def sml (c : Int32) : Prop := ∃ j : Nat, j < 128 ∧ c = nI j
def digL (v : Nat) : Nat → List Int32
  | 0 => [nI (48 + v % 10)]
  | k + 1 => nI (48 + v / 10 ^ (k + 1) % 10) :: digL v k
/-- how many digits more than one -/
def lgd (v : Nat) : Nat → Nat → Nat
  | 0, k => k
  | d + 1, k => if v / 10 < 10 ^ k then k else lgd v d (k + 1)
/-- a NUMBER, printed -/
def numS (v : Nat) : List Int32 := digL v (lgd v 5 0)
/-- a VERSION, printed -/
def verS (v : Nat) : List Int32 := numS (v / 1000000000000) ++ ([46] ++ (numS (v / 1000000 % 1000000) ++ ([46] ++ numS (v % 1000000))))
section RPUT
variable {N : Nat} {M : hM} {m : Nat} {s s' s'' : rS} {L l l' : List Int32}
theorem kP.rf : kP s s := ⟨rfl, rfl, fun _ _ => rfl, fun _ _ _ _ => rfl⟩
theorem kP.tr (h : kP s s') (g : kP s' s'') : kP s s'' := ⟨g.1.trans h.1, g.2.1.trans h.2.1, fun j a => (g.2.2.1 j a).trans (h.2.2.1 j a), fun j a b c => (g.2.2.2 j a b c).trans (h.2.2.2 j a b c)⟩
theorem kP.ks (g : kP s s') : ks s (s.1, s'.2.1, va_up s'.2.2.1 28 (s.2.2.1 28), s'.2.2.2) := by
  refine ⟨rfl, g.1, g.2.1, fun j a b => ?_⟩
  show va_up s'.2.2.1 28 (s.2.2.1 28) j = s.2.2.1 j
  by_cases c : j = 28
  · subst c; exact ua_s
  · rw [ua_n c]; exact g.2.2.2 j a b c
theorem RR.p {r : Nat} {a : aR} (h : RR s r a) (g : kP s s') : RR s' r a := (show RR (s.1, s'.2.1, va_up s'.2.2.1 28 (s.2.2.1 28), s'.2.2.2) r a from h.k g.ks)
theorem RPk.p {q : Nat} {P : aPk} (h : RPk s q P) (g : kP s s') : RPk s' q P := (show RPk (s.1, s'.2.1, va_up s'.2.2.1 28 (s.2.2.1 28), s'.2.2.2) q P from h.k g.ks)
theorem cS.p (h : cS s) (g : kP s s') : cS s' := by unfold cS; rw [g.2.2.2 4 (by omega) (by omega) (by omega), g.2.1]; exact h
theorem ks.p (g : ks s s') : kP s s' := ⟨g.2.1, g.2.2.1, fun j _ => by rw [g.1], fun j a b _ => g.2.2.2 j a b⟩
theorem Pst.ks (h : Pst s L) (g : ks s s') : Pst s' L := ⟨by rw [g.1]; exact h.1, fun i c hc => by rw [g.2.2.2 28 (by omega) (by omega)]; exact h.2 i c hc⟩
theorem Emt.eq {X Y : Option (Unit × hM)} (e : X = Y) (h : Emt M m s L l Y) : Emt M m s L l X := by rw [e]; exact h
/-- one piece after another -/
theorem Emt.seq {A K : hX Unit} (h : Emt M m s L l (A.1 (ov M m s))) (g : ∀ s', Pst s' (L ++ l) → kP s s' → Emt M m s' (L ++ l) l' (K.1 (ov M m s'))) : Emt M m s L (l ++ l') ((b_is m 1 (b_call A (fun _ => K))).1 (ov M m s)) := by
  obtain ⟨s1, a, b, c⟩ := h
  obtain ⟨s2, d, e, f⟩ := g s1 b c
  refine ⟨s2, ?_, by rw [← List.append_assoc]; exact e, c.tr f⟩
  rw [mI_is, r_callE, a, Option.bind_some]; exact d
theorem Emt.ret (h : Pst s L) : Emt M m s L [] ((b_ret () : hX Unit).1 (ov M m s)) := ⟨s, rfl, by rw [List.append_nil]; exact h, kP.rf⟩
theorem Emt.mono {X : Option (Unit × hM)} (h : Emt M m s' L l X) (g : kP s s') : Emt M m s L l X := by
  obtain ⟨s1, a, b, c⟩ := h
  exact ⟨s1, a, b, g.tr c⟩
theorem sml_nar {c : Int32} (h : sml c) : vp_nar .byte (c.toInt8.toInt32) = c := by
  have e := sx_small h
  show sx (sx c) = c
  rw [e, e]
theorem m_put {c : Int32} (hc : sml c) (h : Pst s L) (hl : L.length < 60000) : Emt M m s L [c] ((f_MD_put N m c).1 (ov M m s)) := by
  have i1 : ¬ (nI L.length < 0 ∨ 60000 ≤ (nI L.length).toNatClampNeg) := nI_in hl (by decide)
  have c1 := nI_clamp (n := L.length) (by omega)
  refine ⟨(va_up s.1 43 (nI (L.length + 1)), s.2.1, va_up s.2.2.1 28 (va_up (s.2.2.1 28) L.length c), s.2.2.2), ?_, ⟨by rw [List.length_append]; rfl, fun i d hd => ?_⟩, rfl, rfl, fun j hj => ua_n hj, fun j _ _ hj => ua_n hj⟩
  · rw [e_MD_put]
    simp only [mR_44, mI_43, h.1, r_nn, mS_28 i1, c1, sml_nar hc, nI_1, mP_43, r_ret]
  · show va_up (s.2.2.1 28) L.length c i = d
    rcases app_get hd with e | ⟨e1, e2⟩
    · have := (List.getElem?_eq_some_iff.mp e).1
      rw [ua_n (by omega)]; exact h.2 i d e
    · rw [e1, e2, ua_s]
theorem m_putName_loop {sj b : Nat} {w : List Int32} {Z : Nat} (hZ : Z < 2 ^ 31) (hld : ∀ (i : Int32) (K : Int32 → hX Unit) (s : rS), ¬ (i < 0 ∨ Z ≤ i.toNatClampNeg) → (b_ald (m + sj) 6 i K).1 (ov M m s) = (K (s.2.2.1 sj i.toNatClampNeg)).1 (ov M m s)) (hsj : sj ≠ 23 ∧ sj ≠ 24 ∧ sj ≠ 28) (hbz : b + w.length ≤ Z) (hsm : ∀ c, c ∈ w → sml c) : ∀ (d fu i : Nat) (s : rS) (L : List Int32), d + i = w.length → d < fu → nmI (s.2.2.1 sj) b w → Pst s L → L.length + d ≤ 60000 →
    Emt M m s L (w.drop i) ((f_MD_putName_3 N m (some (m + sj)) (nI b) (nI w.length) fu (nI i)).1 (ov M m s)) := by
  intro d
  induction d with
  | zero =>
    intro fu i s L h1 h2 hn hP hL
    obtain ⟨fu, rfl⟩ : ∃ g, fu = g + 1 := ⟨fu - 1, by omega⟩
    rw [List.drop_eq_nil_of_le (by omega), e_MD_putName_3, r_if_t (show nI w.length ≤ nI i from nI_le (by omega) (by omega))]
    exact Emt.ret hP
  | succ d ih =>
    intro fu i s L h1 h2 hn hP hL
    obtain ⟨fu, rfl⟩ : ∃ g, fu = g + 1 := ⟨fu - 1, by omega⟩
    have i1 : ¬ (nI (b + i) < 0 ∨ Z ≤ (nI (b + i)).toNatClampNeg) := nI_in (by omega) hZ
    have c1 := nI_clamp (n := b + i) (by omega)
    rw [drop_cons (show i < w.length by omega), e_MD_putName_3, r_if_f (show ¬ nI w.length ≤ nI i from nI_ge (by omega) (by omega)), r_nn, nI_add, hld _ _ _ i1, c1, hn i (by omega), nI_1]
    refine Emt.seq (l := [w.getD i 0]) (l' := w.drop (i + 1)) (m_put (hsm _ (mem_getD (by omega))) hP (by omega)) (fun s' hP' g => ?_)
    refine ih fu (i + 1) s' _ (by omega) (by omega) ?_ hP' (by rw [List.length_append]; show L.length + 1 + d ≤ 60000; omega)
    rw [g.2.2.2 sj hsj.1 hsj.2.1 hsj.2.2]; exact hn
theorem wfN_sml {w : List Int32} (h : wfN w) : ∀ c, c ∈ w → sml c := fun c hc => (h.2.1 c hc).2
theorem m_putN16 {r : Nat} {a : aR} (hN : 2001 ≤ N) (h : RR s r a) (wa : wfR a) (hr : r < 8200) (hP : Pst s L) (hL : L.length + a.2.2.1.length ≤ 60000) : Emt M m s L a.2.2.1 ((f_MD_putName N m (some (m + 16)) (nI (20 * r)) (nI a.2.2.1.length)).1 (ov M m s)) := by
  have hl := h.2.1
  exact m_putName_loop (Z := 164000) (by decide) (fun i K s h => mA_16 h) (by decide) (by omega) (wfN_sml wa.2.1) a.2.2.1.length N 0 s L (by omega) (by omega) h.1.2.2.2.1 hP hL
theorem m_putN17 {r : Nat} {a : aR} (hN : 2001 ≤ N) (h : RR s r a) (wa : wfR a) (hr : r < 8200) (hP : Pst s L) (hL : L.length + a.2.2.2.1.length ≤ 60000) : Emt M m s L a.2.2.2.1 ((f_MD_putName N m (some (m + 17)) (nI (20 * r)) (nI a.2.2.2.1.length)).1 (ov M m s)) := by
  have hl := h.2.2
  exact m_putName_loop (Z := 164000) (by decide) (fun i K s h => mA_17 h) (by decide) (by omega) (wfN_sml wa.2.2) a.2.2.2.1.length N 0 s L (by omega) (by omega) h.1.2.2.2.2.2.1 hP hL
/-- the bytes of a key that aren't 0 -/
def kb1 (x : Int64) (d : Nat) : List Int32 := if ((((x >>> ((nI (8 * d)).toInt64 &&& 63)) &&& 255) : Int64).toInt32) = 0 then [] else [((((x >>> ((nI (8 * d)).toInt64 &&& 63)) &&& 255) : Int64).toInt32)]
def kbF (x : Int64) : Nat → List Int32
  | 0 => kb1 x 0
  | d + 1 => kb1 x (d + 1) ++ kbF x d
theorem kbF_dec : ∀ t : Fin 18, kbF (kC t.val) 7 = sB.getD t.val [] := by decide +kernel
theorem sB_sml : ∀ t : Fin 27, ∀ c, c ∈ sB.getD t.val [] → ∃ j : Fin 128, c = nI j.val := by decide +kernel
theorem sB_s {t : Nat} (ht : t < 27) : ∀ c, c ∈ sB.getD t [] → sml c := fun c hc => by
  obtain ⟨j, hj⟩ := sB_sml ⟨t, ht⟩ c hc
  exact ⟨j.val, j.isLt, hj⟩
theorem m_putKey_loop {x : Int64} : ∀ (d fu : Nat) (s : rS) (L : List Int32), d < 8 → d + 1 < fu → (∀ c, c ∈ kbF x d → sml c) → Pst s L → L.length + d + 1 ≤ 60000 → Emt M m s L (kbF x d) ((f_MD_putKey_9 N m x fu (nI (8 * d))).1 (ov M m s)) := by
  intro d
  induction d with
  | zero =>
    intro fu s L hd hfu hs hP hL
    obtain ⟨fu, rfl⟩ : ∃ g, fu = g + 1 := ⟨fu - 1, by omega⟩
    obtain ⟨fu, rfl⟩ : ∃ g, fu = g + 1 := ⟨fu - 1, by omega⟩
    have stop : ∀ (s : rS) (L : List Int32), Pst s L → Emt M m s L [] ((f_MD_putKey_9 N m x (fu + 1) (nI (8 * 0) + (-8))).1 (ov M m s)) := by
      intro s L h
      rw [e_MD_putKey_9, r_let, r_if_t (show nI (8 * 0) + (-8) < 0 by decide)]
      exact Emt.ret h
    have hs' : ∀ c, c ∈ kb1 x 0 → sml c := hs
    show Emt M m s L (kb1 x 0) _
    unfold kb1 at hs' ⊢
    rw [e_MD_putKey_9, r_let, r_if_f (show ¬ nI (8 * 0) < 0 by decide)]
    by_cases c : ((((x >>> ((nI (8 * 0)).toInt64 &&& 63)) &&& 255) : Int64).toInt32) = 0
    · rw [r_if_t c, if_pos c]; exact stop s L hP
    · rw [if_neg c] at hs'
      rw [r_if_f c, if_neg c]
      have := Emt.seq (l' := []) (m_put (N := N) (M := M) (m := m) (hs' _ (List.mem_singleton.mpr rfl)) hP (by omega)) (fun s' h' _ => stop s' _ h')
      rw [List.append_nil] at this
      exact this
  | succ d ih =>
    intro fu s L hd hfu hs hP hL
    obtain ⟨fu, rfl⟩ : ∃ g, fu = g + 1 := ⟨fu - 1, by omega⟩
    have e : nI (8 * (d + 1)) + (-8) = nI (8 * d) := by
      have : ∀ d : Fin 8, nI (8 * (d.val + 1)) + (-8) = nI (8 * d.val) := by decide +kernel
      exact this ⟨d, by omega⟩
    have hs1 : ∀ c, c ∈ kb1 x (d + 1) → sml c := fun c hc => hs c (List.mem_append.mpr (Or.inl hc))
    have hs2 : ∀ c, c ∈ kbF x d → sml c := fun c hc => hs c (List.mem_append.mpr (Or.inr hc))
    show Emt M m s L (kb1 x (d + 1) ++ kbF x d) _
    unfold kb1 at hs1 ⊢
    rw [e_MD_putKey_9, r_let, r_if_f (nI_pos (by omega))]
    by_cases c : ((((x >>> ((nI (8 * (d + 1))).toInt64 &&& 63)) &&& 255) : Int64).toInt32) = 0
    · rw [r_if_t c, if_pos c, List.nil_append]
      dsimp only
      rw [e]
      exact ih fu s L (by omega) (by omega) hs2 hP (by omega)
    · rw [if_neg c] at hs1
      rw [r_if_f c, if_neg c]
      dsimp only
      rw [e]
      exact Emt.seq (m_put (hs1 _ (List.mem_singleton.mpr rfl)) hP (by omega)) (fun s' h' _ => ih fu s' _ (by omega) (by omega) hs2 h' (by rw [List.length_append]; show L.length + 1 + d + 1 ≤ _; omega))
end RPUT
