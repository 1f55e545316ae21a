/-! LAYER 2: type -/
/-- the byte of a long, k bits up -/
def byt (x : Int64) (k : Nat) : Nat := (x.toBitVec.toNat >>> k) % 256
/-- a sign is collected -/
def psh (F : (Nat → Int32) × Nat) (b : Nat) : (Nat → Int32) × Nat := if b = 0 ∨ 2000 ≤ F.2 then F else (va_up F.1 F.2 (nI b), F.2 + 1)
def tyB (x : Int64) (F : (Nat → Int32) × Nat) : Nat → (Nat → Int32) × Nat
  | 0 => psh F (byt x 0)
  | d + 1 => tyB x (psh F (byt x (8 * (d + 1)))) d
def tyS (F : (Nat → Int32) × Nat) (x : Int64) : (Nat → Int32) × Nat := tyB x F 7
section TYPE
variable {N : Nat} {M : hM} {m p : Nat} {s s' s'' : rS} {f : Nat → Int32} {n : Nat} {pk : List aPk} {ch : List (Nat × Nat)} {pr : List Int32}
theorem byt_lt {x : Int64} {k : Nat} : byt x k < 256 := Nat.mod_lt _ (by decide)
theorem sh_C : ∀ d : Fin 8, (nI (8 * d.val)).toInt64.toUInt64 &&& Int64.toUInt64 63 = UInt64.ofNat (8 * d.val) := by decide +kernel
theorem sh_R : ∀ d : Fin 8, (nI (8 * d.val)).toInt64 &&& 63 = Int64.ofNat (8 * d.val) := by decide +kernel
/-- the class's byte -/
theorem byt_C {x : Int64} {d : Nat} (hd : d < 8) : (((((((((x : Int64).toUInt64 >>> (((nI (8 * d)) : Int32).toInt64.toUInt64 &&& Int64.toUInt64 63)).toInt64) &&& 255) : Int64).toInt32) : Int32).toUInt32 % 65536).toInt32) = nI (byt x (8 * d)) := by
  rw [sh_C ⟨d, hd⟩]
  dsimp only
  apply Int32.toBitVec_inj.mp
  apply BitVec.eq_of_toNat_eq
  have e1 : ((255 : Int64)).toBitVec.toNat = 255 := by decide
  have e2 : (nI (byt x (8 * d))).toBitVec.toNat = byt x (8 * d) := by
    show (BitVec.ofNat 32 (byt x (8 * d))).toNat = _
    rw [BitVec.toNat_ofNat, Nat.mod_eq_of_lt (by have := byt_lt (x := x) (k := 8 * d); omega)]
  rw [e2]
  show ((((((x.toUInt64 >>> UInt64.ofNat (8 * d)).toInt64 &&& 255).toInt32).toUInt32 % 65536).toBitVec).toNat) = _
  show ((((x.toUInt64 >>> UInt64.ofNat (8 * d)).toInt64 &&& 255).toInt32).toUInt32 % 65536).toNat = _
  rw [UInt32.toNat_mod]
  show ((((x.toUInt64 >>> UInt64.ofNat (8 * d)).toInt64 &&& 255).toInt32).toBitVec).toNat % 65536 = _
  rw [Int64.toBitVec_toInt32, BitVec.signExtend_eq_setWidth_of_le _ (by decide), BitVec.toNat_setWidth, Int64.toBitVec_and, BitVec.toNat_and, e1]
  show (((x.toUInt64 >>> UInt64.ofNat (8 * d)).toNat &&& 255) % 2 ^ 32) % 65536 = _
  rw [UInt64.toNat_shiftRight]
  show ((x.toBitVec.toNat >>> ((UInt64.ofNat (8 * d)).toNat % 64) &&& 255) % 2 ^ 32) % 65536 = _
  have e3 : (UInt64.ofNat (8 * d)).toNat % 64 = 8 * d := by
    have : ∀ d : Fin 8, (UInt64.ofNat (8 * d.val)).toNat % 64 = 8 * d.val := by decide +kernel
    exact this ⟨d, hd⟩
  rw [e3, show (255 : Nat) = 2 ^ 8 - 1 from rfl, Nat.and_two_pow_sub_one_eq_mod]
  unfold byt
  have : x.toBitVec.toNat >>> (8 * d) % 2 ^ 8 < 256 := Nat.mod_lt _ (by decide)
  omega
/-- the reference's byte -/
theorem byt_R {x : Int64} {d : Nat} (hd : d < 8) : (((((x >>> (((nI (8 * d)) : Int32).toInt64 &&& 63)) : Int64).toInt32) : Int32).toInt8.toInt32) = sx (nI (byt x (8 * d))) := by
  rw [sh_R ⟨d, hd⟩]
  unfold sx
  congr 1
  apply Int8.toBitVec_inj.mp
  apply BitVec.eq_of_getLsbD_eq
  intro i hi
  rw [Int32.toBitVec_toInt8, Int32.toBitVec_toInt8, BitVec.signExtend_eq_setWidth_of_le _ (by decide), BitVec.signExtend_eq_setWidth_of_le _ (by decide), BitVec.getLsbD_setWidth, BitVec.getLsbD_setWidth, Int64.toBitVec_toInt32, BitVec.signExtend_eq_setWidth_of_le _ (by decide), BitVec.getLsbD_setWidth, Int64.toBitVec_shiftRight]
  have e0 : ((Int64.ofNat (8 * d)).toBitVec.smod 64).toNat = 8 * d := by
    have : ∀ d : Fin 8, ((Int64.ofNat (8 * d.val)).toBitVec.smod 64).toNat = 8 * d.val := by decide +kernel
    exact this ⟨d, hd⟩
  rw [BitVec.sshiftRight_eq', e0, BitVec.getLsbD_sshiftRight]
  have h1 : (nI (byt x (8 * d))).toBitVec = BitVec.ofNat 32 (byt x (8 * d)) := rfl
  rw [h1, BitVec.getLsbD_ofNat]
  have h2 : (byt x (8 * d)).testBit i = x.toBitVec.getLsbD (8 * d + i) := by
    unfold byt
    rw [show (256 : Nat) = 2 ^ 8 from rfl, Nat.testBit_mod_two_pow, Nat.testBit_shiftRight]
    rw [show decide (i < 8) = true from decide_eq_true hi, Bool.true_and]
    rfl
  rw [h2]
  have a1 : decide (i < 8) = true := decide_eq_true hi
  have a2 : decide (i < 32) = true := decide_eq_true (by omega)
  have a3 : decide (64 ≤ i) = false := decide_eq_false (by omega)
  have a4 : 8 * d + i < 64 := by omega
  rw [a1, a2, a3, if_pos a4]
  simp
theorem psh_fit {F : (Nat → Int32) × Nat} {b : Nat} (h : fit8 F.1) (hb : b < 256) (hn : F.2 ≤ 2000) : fit8 (psh F b).1 ∧ (psh F b).2 ≤ 2000 := by
  unfold psh
  by_cases c : b = 0 ∨ 2000 ≤ F.2
  · rw [if_pos c]; exact ⟨h, hn⟩
  · rw [if_neg c]
    refine ⟨fun k => ?_, by show F.2 + 1 ≤ 2000; omega⟩
    show ∃ j, j < 256 ∧ va_up F.1 F.2 (nI b) k = nI j
    unfold va_up
    split
    · exact ⟨b, hb, rfl⟩
    · exact h k
/-- the text is f, n long, whatever else -/
theorem RInv.txt {g : Nat → Int32} {n' : Nat} (h : RInv s f n pk ch pr) (h8 : fit8 g) (hn : n' ≤ 2000) : RInv (va_up s.1 2 (nI n'), s.2.1, va_up s.2.2.1 1 (tx g), s.2.2.2) g n' pk ch pr := by
  obtain ⟨a1, a2, a3, a4, a5, a6, a7⟩ := h
  exact ⟨⟨rfl, hn, h8, rfl⟩, a2, a3, a4, a5, a6, a7⟩
theorem tx_up {k b : Nat} : va_up (tx f) k (sx (nI b)) = tx (va_up f k (nI b)) := by
  funext j; unfold va_up tx; dsimp only; split <;> rfl
theorem sx0 {b : Nat} (hb : b < 256) : sx (nI b) = 0 ↔ b = 0 := by
  have : ∀ b : Fin 256, sx (nI b.val) = 0 ↔ b.val = 0 := by decide +kernel
  exact this ⟨b, hb⟩
theorem m_type_loop {x : Int64} : ∀ (d fu : Nat) (s : rS) (F : (Nat → Int32) × Nat), d < 8 → d + 1 < fu → RInv s F.1 F.2 pk ch pr → ∃ s', (f_MD_type_8 N m x fu (nI (8 * d))).1 (ov M m s) = some ((), ov M m s') ∧ RInv s' (tyB x F d).1 (tyB x F d).2 pk ch pr := by
  have stp : ∀ (d : Nat) (s : rS) (F : (Nat → Int32) × Nat) (fu : Nat), d < 8 → RInv s F.1 F.2 pk ch pr → ∃ s1, (f_MD_type_8 N m x (fu + 1) (nI (8 * d))).1 (ov M m s) = (f_MD_type_8 N m x fu (nI (8 * d) + (-8))).1 (ov M m s1) ∧ RInv s1 (psh F (byt x (8 * d))).1 (psh F (byt x (8 * d))).2 pk ch pr := by
    intro d s F fu hd h
    have hb := byt_lt (x := x) (k := 8 * d)
    have hn := h.1.2.1
    have hpf := psh_fit (b := byt x (8 * d)) h.1.2.2.1 hb hn
    rw [e_MD_type_8, r_let, r_if_f (nI_pos (by omega))]
    rw [byt_R hd]
    unfold psh at *
    by_cases c0 : byt x (8 * d) = 0
    · rw [r_if_t ((sx0 hb).mpr c0), if_pos (Or.inl c0)]
      exact ⟨s, rfl, h⟩
    · rw [r_if_f (fun z => c0 ((sx0 hb).mp z)), mI_2, h.1.1]
      by_cases c1 : 2000 ≤ F.2
      · rw [r_if_t (show (2000 : Int32) ≤ nI F.2 from nI_le (a := 2000) c1 (by omega)), if_pos (Or.inr c1)]
        exact ⟨s, rfl, h⟩
      · rw [if_neg (show ¬ (byt x (8 * d) = 0 ∨ 2000 ≤ F.2) by omega)] at hpf ⊢
        have i1 : ¬ (nI F.2 < 0 ∨ 2000 ≤ (nI F.2).toNatClampNeg) := nI_in (by omega) (by decide)
        have c2 := nI_clamp (n := F.2) (by omega)
        rw [r_if_f (show ¬ (2000 : Int32) ≤ nI F.2 from nI_ge (b := 2000) (by omega) (by omega))]
        refine ⟨_, ?_, h.txt hpf.1 hpf.2⟩
        simp only [mR_1, mI_2, h.1.1, r_nn, mS_1 i1, c2, h.1.2.2.2, nar_byte, sx_sx, tx_up, mP_2, nI_1]
  intro d
  induction d with
  | zero =>
    intro fu s F hd hfu h
    obtain ⟨fu, rfl⟩ : ∃ g, fu = g + 1 := ⟨fu - 1, by omega⟩
    obtain ⟨s1, u1, u2⟩ := stp 0 s F fu hd h
    refine ⟨s1, ?_, u2⟩
    rw [u1]
    obtain ⟨fu, rfl⟩ : ∃ g, fu = g + 1 := ⟨fu - 1, by omega⟩
    rw [e_MD_type_8, r_let, r_if_t (show nI (8 * 0) + (-8) < 0 by decide)]
    rfl
  | succ d ih =>
    intro fu s F hd hfu h
    obtain ⟨fu, rfl⟩ : ∃ g, fu = g + 1 := ⟨fu - 1, by omega⟩
    obtain ⟨s1, u1, u2⟩ := stp (d + 1) s F fu hd h
    obtain ⟨s2, v1, v2⟩ := ih fu s1 (psh F (byt x (8 * (d + 1)))) (by omega) (by omega) u2
    refine ⟨s2, ?_, v2⟩
    have e : nI (8 * (d + 1)) + (-8) = nI (8 * d) := by
      have : ∀ d : Fin 8, nI (8 * (d.val + 1)) + (-8) = nI (8 * d.val) := by decide +kernel
      exact this ⟨d, by omega⟩
    rw [u1, e]; exact v1
theorem m_type {x : Int64} (hN : 2001 ≤ N) (h : RInv s f n pk ch pr) : ∃ s', (f_MD_type N m x).1 (ov M m s) = some ((), ov M m s') ∧ RInv s' (tyS (f, n) x).1 (tyS (f, n) x).2 pk ch pr := by
  rw [e_MD_type, mP_0]
  exact m_type_loop 7 N (va_up s.1 0 0, s.2) (f, n) (by omega) (by omega) h.t
end TYPE
