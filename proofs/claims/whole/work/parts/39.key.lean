/-! LAYER 2: the reference's keys: words of at most 8 signs as one number -/
section KEYR
variable {N : Nat} {M : hM} {m : Nat} {s : rS} {f g : Nat → Int32} {n k : Nat}
def dg (c : Int32) : Nat := c.toNatClampNeg
def kx (f : Nat → Int32) (q : Nat) : Nat → Nat
  | 0 => 0
  | i + 1 => kx f q i * 256 + dg (f (q + i))
theorem kx_lt {q : Nat} : ∀ L, (∀ i, i < L → dg (f (q + i)) < 256) → kx f q L < 256 ^ L
  | 0, _ => by show 0 < 256 ^ 0; decide
  | L + 1, h => by
    have h1 := kx_lt L (fun i hi => h i (by omega))
    have h2 := h L (by omega)
    show kx f q L * 256 + dg (f (q + L)) < 256 ^ (L + 1)
    rw [Nat.pow_succ]; omega
theorem kx_inj {q p : Nat} : ∀ L L', (∀ i, i < L → 0 < dg (f (q + i)) ∧ dg (f (q + i)) < 256) → (∀ i, i < L' → 0 < dg (g (p + i)) ∧ dg (g (p + i)) < 256) → kx f q L = kx g p L' → L = L' ∧ ∀ i, i < L → dg (f (q + i)) = dg (g (p + i))
  | 0, 0, _, _, _ => ⟨rfl, fun i hi => absurd hi (by omega)⟩
  | 0, L' + 1, _, h2, h => by
    have := h2 L' (by omega)
    have h' : 0 = kx g p L' * 256 + dg (g (p + L')) := h
    omega
  | L + 1, 0, h1, _, h => by
    have := h1 L (by omega)
    have h' : kx f q L * 256 + dg (f (q + L)) = 0 := h
    omega
  | L + 1, L' + 1, h1, h2, h => by
    have a := h1 L (by omega)
    have b := h2 L' (by omega)
    have h' : kx f q L * 256 + dg (f (q + L)) = kx g p L' * 256 + dg (g (p + L')) := h
    obtain ⟨e1, e2⟩ := kx_inj L L' (fun i hi => h1 i (by omega)) (fun i hi => h2 i (by omega)) (by omega)
    subst e1
    refine ⟨rfl, fun i hi => ?_⟩
    by_cases c : i = L
    · subst c; omega
    · exact e2 i (by omega)
theorem lN_inj {a b : Nat} (ha : a < 2 ^ 64) (hb : b < 2 ^ 64) (h : lN a = lN b) : a = b := by
  have e : (lN a).toBitVec = (lN b).toBitVec := by rw [h]
  have e1 : ∀ x, (lN x).toBitVec = BitVec.ofNat 64 x := fun x => rfl
  rw [e1, e1] at e
  have e2 := congrArg BitVec.toNat e
  rw [BitVec.toNat_ofNat, BitVec.toNat_ofNat, Nat.mod_eq_of_lt ha, Nat.mod_eq_of_lt hb] at e2
  exact e2
theorem kshift {a b : Nat} (ha : a < 2 ^ 56) (hb : b < 256) : (lN a <<< ((8 : Int32).toInt64 &&& 63)) ||| (nI b).toInt64 = lN (a * 256 + b) := by
  rw [nI_l (by omega)]
  apply Int64.toBitVec_inj.mp
  rw [Int64.toBitVec_or, Int64.toBitVec_shiftLeft]
  apply BitVec.eq_of_toNat_eq
  have e1 : ∀ x, (lN x).toBitVec = BitVec.ofNat 64 x := fun x => rfl
  have e2 : (((8 : Int32).toInt64 &&& 63).toBitVec.smod 64) = BitVec.ofNat 64 8 := by decide +kernel
  rw [e1, e1, e1, e2]
  rw [BitVec.toNat_or, BitVec.shiftLeft_eq', BitVec.toNat_shiftLeft, BitVec.toNat_ofNat, BitVec.toNat_ofNat, BitVec.toNat_ofNat, BitVec.toNat_ofNat]
  rw [show 8 % 2 ^ 64 = 8 from by decide, Nat.mod_eq_of_lt (show a < 2 ^ 64 by omega), Nat.mod_eq_of_lt (show b < 2 ^ 64 by omega)]
  have h3 : a <<< 8 = a * 256 := Nat.shiftLeft_eq a 8
  rw [Nat.mod_eq_of_lt (show a <<< 8 < 2 ^ 64 by rw [h3]; omega), Nat.mod_eq_of_lt (show a * 256 + b < 2 ^ 64 by omega), ← Nat.shiftLeft_add_eq_or_of_lt (show b < 2 ^ 8 by omega), h3]
theorem wen_ch : ∀ (d k i : Nat), k ≤ i → i < wen f d k → cL (f i) ∨ cD (f i) ∨ cB (f i)
  | 0, k, i, h1, h2 => absurd h2 (by show ¬ i < k; omega)
  | d + 1, k, i, h1, h2 => by
    rw [show wen f (d + 1) k = if cL (f k) ∨ cD (f k) ∨ cB (f k) then wen f d (k + 1) else k from rfl] at h2
    by_cases c : cL (f k) ∨ cD (f k) ∨ cB (f k)
    · rw [if_pos c] at h2
      by_cases e : i = k
      · rw [e]; exact c
      · exact wen_ch d (k + 1) i (by omega) h2
    · rw [if_neg c] at h2; omega
theorem ch_dec : ∀ b : Fin 256, (cL (nI b.val) ∨ cD (nI b.val) ∨ cB (nI b.val)) → 0 < dg (nI b.val) ∧ dg (nI b.val) < 128 := by decide +kernel
theorem ch_dg (h8 : fit8 f) {i : Nat} (h : cL (f i) ∨ cD (f i) ∨ cB (f i)) : 0 < dg (f i) ∧ dg (f i) < 128 := by
  obtain ⟨b, hb, e⟩ := h8 i
  rw [e] at h ⊢
  exact ch_dec ⟨b, hb⟩ h
theorem dg_nI {b : Nat} (h : b < 256) : dg (nI b) = b := nI_clamp (by omega)
theorem dg_inj (h8 : fit8 f) {i : Nat} {c : Int32} (hc : c = nI (dg c)) (h : dg (f i) = dg c) : f i = c := by
  obtain ⟨b, hb, e⟩ := h8 i
  rw [hc, ← h, e, dg_nI hb]
theorem m_key_32 {q e : Nat} (hS : tS s f n) (h4 : s.1 4 = nI e) (he : e ≤ n) (h8 : e - q ≤ 8) (hc : ∀ j, q ≤ j → j < e → cL (f j) ∨ cD (f j) ∨ cB (f j)) : ∀ (d fu i : Nat), d + (q + i) = e → d < fu →
    (f_MD_key_32 N m fu (lN (kx f q i)) (nI (q + i))).1 (ov M m s) = some (lN (kx f q (e - q)), ov M m s) := by
  have hn := hS.2.1
  intro d
  induction d with
  | zero =>
    intro fu i hd hfu
    obtain ⟨fu, rfl⟩ : ∃ g, fu = g + 1 := ⟨fu - 1, by omega⟩
    rw [e_MD_key_32]
    have h1 : nI e ≤ nI (q + i) := nI_le (by omega) (by omega)
    simp only [mI_4, h4, h1, if_true, r_ret]
    rw [show e - q = i by omega]
  | succ d ih =>
    intro fu i hd hfu
    obtain ⟨fu, rfl⟩ : ∃ g, fu = g + 1 := ⟨fu - 1, by omega⟩
    rw [e_MD_key_32]
    have h1 : ¬ nI e ≤ nI (q + i) := nI_ge (by omega) (by omega)
    have h2 : ¬ (nI (q + i) < 0 ∨ 2000 ≤ (nI (q + i)).toNatClampNeg) := nI_in (by omega) (by decide)
    have h3 := nI_clamp (n := q + i) (by omega)
    have hch := hc (q + i) (by omega) (by omega)
    have e1 : tx f (q + i) = f (q + i) := sx_id hS.2.2.1 (hch.elim Or.inl (fun z => z.elim (fun z => Or.inr (Or.inl z)) (fun z => Or.inr (Or.inr (Or.inl z)))))
    have hdg := ch_dg hS.2.2.1 hch
    have e2 : f (q + i) = nI (dg (f (q + i))) := by
      obtain ⟨b, hb, e⟩ := hS.2.2.1 (q + i)
      rw [e, dg_nI hb]
    have hk : kx f q i < 2 ^ 56 := by
      have := kx_lt (f := f) (q := q) i (fun j hj => Nat.lt_trans (ch_dg hS.2.2.1 (hc (q + j) (by omega) (by omega))).2 (by decide))
      exact Nat.lt_of_lt_of_le this (Nat.le_trans (Nat.pow_le_pow_right (by decide) (show i ≤ 7 by omega)) (by decide))
    have e4 : (lN (kx f q i) <<< ((8 : Int32).toInt64 &&& 63)) ||| (f (q + i)).toInt64 = lN (kx f q (i + 1)) := by
      rw [e2, kshift hk (by omega)]; rfl
    simp only [mI_4, h4, h1, if_false, mR_1, r_nn, mA_1 h2, h3, hS.2.2.2, e1, e4, nI_1]
    exact ih fu (i + 1) (by omega) (by omega)
/-- a word's key -/
noncomputable def kvl (f : Nat → Int32) (n q : Nat) : Int64 := @ite _ ((q < n ∧ cL (f q)) ∧ we f n q - q ≤ 8) (Classical.propDecidable _) (lN (kx f q (we f n q - q))) 0
theorem m_key (hN : 2001 ≤ N) (h : tkW s f n k) : (f_MD_key N m).1 (ov M m s) = some (kvl f n (sp f n k), ov M m s) := by
  obtain ⟨hS, h3, h5, h4, hk⟩ := h
  have hn := hS.2.1
  rw [e_MD_key]
  unfold kvl
  by_cases c1 : sp f n k < n ∧ cL (f (sp f n k))
  · have e4 := te_L (f := f) c1.1 c1.2
    have w1 := we_gt (f := f) c1.1 c1.2
    have w2 := we_le (f := f) (Nat.le_of_lt c1.1)
    have e5 := (tw_L (f := f) (n := n) hS.2.2.1).mpr c1
    have hsub : nI (we f n (sp f n k)) - nI (sp f n k) = nI (we f n (sp f n k) - sp f n k) := pk_sub (by omega)
    simp only [mI_5, h5, e5, if_true, mI_4, h4, e4, mI_3, h3, hsub]
    by_cases c2 : we f n (sp f n k) - sp f n k ≤ 8
    · rw [r_if_t (show nI (we f n (sp f n k) - sp f n k) ≤ (8 : Int32) from nI_le (b := 8) c2 (by omega)), if_pos ⟨c1, c2⟩]
      simp only [mI_3, h3]
      exact m_key_32 (q := sp f n k) hS (h4.trans (by rw [e4])) w2 c2 (fun j a b => wen_ch _ _ j a b) (we f n (sp f n k) - sp f n k) N 0 (by omega) (by omega)
    · rw [r_if_f (show ¬ nI (we f n (sp f n k) - sp f n k) ≤ (8 : Int32) from nI_ge (a := 8) (by omega) (by omega)), if_neg (fun z => c2 z.2)]
      rfl
  · have e5 : ¬ tw f n (sp f n k) = -2 := fun z => c1 ((tw_L (f := f) (n := n) hS.2.2.1).mp z)
    rw [if_neg (fun z => c1 z.1)]
    simp only [mI_5, h5, e5, if_false, r_ret]
/-- a text's key -/
def kC (t : Nat) : Int64 := lN (kx (fun j => (sB.getD t []).getD j 0) 0 (sB.getD t []).length)
theorem kC_dec : ∀ t : Fin 18, (sB.getD t.val []).length ≤ 8 ∧ 0 < (sB.getD t.val []).length ∧ kC t.val ≠ 0 ∧ ∀ i : Fin 8, i.val < (sB.getD t.val []).length → 0 < dg ((sB.getD t.val []).getD i.val 0) ∧ dg ((sB.getD t.val []).getD i.val 0) < 256 ∧ (sB.getD t.val []).getD i.val 0 = nI (dg ((sB.getD t.val []).getD i.val 0)) := by decide +kernel
theorem key_iff {t : Nat} (ht : t < 18) (h8 : fit8 f) {q : Nat} : kvl f n q = kC t ↔ (q < n ∧ cL (f q)) ∧ isTx f q (we f n q) t := by
  obtain ⟨d1, d2, d3, d4⟩ := kC_dec ⟨t, ht⟩
  dsimp only at d1 d2 d3 d4
  unfold kvl
  have p64 : (256 : Nat) ^ 8 = 2 ^ 64 := by decide
  by_cases c1 : (q < n ∧ cL (f q)) ∧ we f n q - q ≤ 8
  · rw [if_pos c1]
    have hch : ∀ i, i < we f n q - q → 0 < dg (f (q + i)) ∧ dg (f (q + i)) < 256 := fun i hi => by
      have := ch_dg h8 (wen_ch (f := f) (n - q) q (q + i) (by omega) (by show q + i < we f n q; omega))
      omega
    have hg : ∀ i, i < (sB.getD t []).length → 0 < dg ((sB.getD t []).getD (0 + i) 0) ∧ dg ((sB.getD t []).getD (0 + i) 0) < 256 := fun i hi => by
      have := d4 ⟨i, by omega⟩ hi
      rw [Nat.zero_add]; exact ⟨this.1, this.2.1⟩
    constructor
    · intro h
      have b1 : kx f q (we f n q - q) < 2 ^ 64 := p64 ▸ Nat.lt_of_lt_of_le (kx_lt _ (fun i hi => (hch i hi).2)) (Nat.pow_le_pow_right (by decide) c1.2)
      have b2 : kx (fun j => (sB.getD t []).getD j 0) 0 (sB.getD t []).length < 2 ^ 64 := p64 ▸ Nat.lt_of_lt_of_le (kx_lt _ (fun i hi => (hg i hi).2)) (Nat.pow_le_pow_right (by decide) d1)
      obtain ⟨e1, e2⟩ := kx_inj (f := f) (g := fun j => (sB.getD t []).getD j 0) (q := q) (p := 0) _ _ hch hg (lN_inj b1 b2 h)
      refine ⟨c1.1, e1, fun i hi => ?_⟩
      have d5 := (d4 ⟨i, by omega⟩ hi).2.2
      refine dg_inj h8 d5 ?_
      have := e2 i (by omega)
      rw [Nat.zero_add] at this
      exact this
    · intro ⟨_, e1, e2⟩
      unfold kC
      rw [e1]
      congr 1
      have : ∀ L, L ≤ (sB.getD t []).length → kx f q L = kx (fun j => (sB.getD t []).getD j 0) 0 L := by
        intro L
        induction L with
        | zero => intro _; rfl
        | succ L ih =>
          intro hL
          show kx f q L * 256 + dg (f (q + L)) = kx (fun j => (sB.getD t []).getD j 0) 0 L * 256 + dg ((sB.getD t []).getD (0 + L) 0)
          rw [ih (by omega), e2 L (by omega), Nat.zero_add]
      exact this _ (Nat.le_refl _)
  · rw [if_neg c1]
    constructor
    · intro h; exact absurd h.symm d3
    · intro h; exact absurd ⟨h.1, by rw [h.2.1]; exact d1⟩ c1
end KEYR
