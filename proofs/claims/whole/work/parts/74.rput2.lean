/-! LAYER 2: the reference prints numbers and ranges -/
def kwS (t : Nat) : List Int32 := 32 :: sB.getD t []
/-- a bound, printed -/
def bdS (a b : Int32) (v : Nat) : List Int32 := [32] ++ ([a] ++ ((if b = 0 then [] else [b]) ++ ([32] ++ verS v)))
/-- a RANGE, printed behind a blank -/
def rngS (lo hi : Nat) : List Int32 := if lo = 0 ∧ hi = 1000000000000000000 then [32, 42] else if hi = lo + 1 then bdS 61 0 lo else (if lo = 0 then [] else bdS 62 61 lo) ++ (if hi = 1000000000000000000 then [] else bdS 60 0 hi)
section RPUT2
variable {N : Nat} {M : hM} {m : Nat} {s s' s'' : rS} {L l l' : List Int32}
theorem sml_nI {j : Nat} (h : j < 128) : sml (nI j) := ⟨j, h, rfl⟩
theorem m_putKey {t : Nat} (hN : 2001 ≤ N) (ht : t < 18) (hP : Pst s L) (hL : L.length + 9 ≤ 60000) : Emt M m s L (kwS t) ((f_MD_putKey N m (kC t)).1 (ov M m s)) := by
  rw [e_MD_putKey]
  have e := kbF_dec ⟨t, ht⟩
  dsimp only at e
  refine Emt.seq (l := [32]) (l' := sB.getD t []) (m_put (sml_nI (j := 32) (by decide)) hP (by omega)) (fun s' h' _ => ?_)
  have := m_putKey_loop (N := N) (M := M) (m := m) (x := kC t) 7 N s' (L ++ [32]) (by omega) (by omega) (by rw [e]; exact sB_s (by omega)) h' (by rw [List.length_append]; show L.length + 1 + 7 + 1 ≤ _; omega)
  rw [e] at this
  exact this
theorem digL_len {v : Nat} : ∀ k, (digL v k).length = k + 1
  | 0 => rfl
  | k + 1 => by show (digL v k).length + 1 = _; rw [digL_len k]
theorem m_num21 {v : Nat} (hv : v < 2 ^ 62) : ∀ (k fu : Nat) (s : rS) (L : List Int32), k ≤ 5 → k + 1 < fu → Pst s L → L.length + k + 1 ≤ 60000 → Emt M m s L (digL v k) ((f_MD_putNumber_21 N m (lN v) fu (lN (10 ^ k))).1 (ov M m s)) := by
  have step : ∀ (k : Nat), k ≤ 5 → ¬ lg_cmp (lN (10 ^ k)) 0 ≤ 0 ∧ ¬ lN (10 ^ k) = 0 ∧ (48 + (((lN v / lN (10 ^ k)) - (lN v / lN (10 ^ k)) / 10 * 10 : Int64).toInt32)) = nI (48 + v / 10 ^ k % 10) := by
    intro k hk
    have p0 : 0 < 10 ^ k := Nat.pow_pos (by decide)
    have p1 : 10 ^ k ≤ 10 ^ 5 := Nat.pow_le_pow_right (by decide) hk
    have p2 : (10 : Nat) ^ 5 < 2 ^ 31 := by decide
    refine ⟨fun z => ?_, fun z => ?_, ?_⟩
    · have := (lN_leB (a := 10 ^ k) (b := 0) (by omega) (by omega)).mp (lg_le.mp z)
      omega
    · have := lN_inj (a := 10 ^ k) (b := 0) (by omega) (by omega) z
      omega
    · rw [pk_lDiv (by omega) p0 (by omega)]
      have e := pk_lRem (a := v / 10 ^ k) (b := 10) (by have := Nat.div_le_self v (10 ^ k); omega) (by decide) (by decide)
      rw [show (10 : Int64) = lN 10 from rfl, e, lN_i]
      exact nI_add 48 _
  intro k
  induction k with
  | zero =>
    intro fu s L hk hfu hP hL
    obtain ⟨fu, rfl⟩ : ∃ g, fu = g + 1 := ⟨fu - 1, by omega⟩
    obtain ⟨fu, rfl⟩ : ∃ g, fu = g + 1 := ⟨fu - 1, by omega⟩
    obtain ⟨a, b, c⟩ := step 0 (by omega)
    rw [e_MD_putNumber_21, r_if_f a, r_if_f b, c, show v / 10 ^ 0 % 10 = v % 10 by rw [Nat.pow_zero, Nat.div_one]]
    have := Emt.seq (l := [nI (48 + v % 10)]) (l' := []) (K := f_MD_putNumber_21 N m (lN v) (fu + 1) (lN (10 ^ 0) / 10)) (m_put (N := N) (M := M) (m := m) (sml_nI (by omega)) hP (by omega)) (fun s' h' _ => by
      rw [show lN (10 ^ 0) / 10 = 0 by decide, e_MD_putNumber_21, r_if_t (show lg_cmp 0 0 ≤ 0 by decide)]
      exact Emt.ret h')
    rw [List.append_nil] at this
    exact this
  | succ k ih =>
    intro fu s L hk hfu hP hL
    obtain ⟨fu, rfl⟩ : ∃ g, fu = g + 1 := ⟨fu - 1, by omega⟩
    obtain ⟨a, b, c⟩ := step (k + 1) hk
    rw [e_MD_putNumber_21, r_if_f a, r_if_f b, c]
    have p1 : 10 ^ (k + 1) ≤ 10 ^ 5 := Nat.pow_le_pow_right (by decide) hk
    have p2 : (10 : Nat) ^ 5 < 2 ^ 31 := by decide
    have e : lN (10 ^ (k + 1)) / 10 = lN (10 ^ k) := by
      rw [show (10 : Int64) = lN 10 from rfl, pk_lDiv (by omega) (by decide) (by decide), Nat.pow_succ, Nat.mul_div_cancel _ (by decide)]
    rw [e]
    exact Emt.seq (l := [nI (48 + v / 10 ^ (k + 1) % 10)]) (l' := digL v k) (m_put (sml_nI (by omega)) hP (by omega)) (fun s' h' _ => ih fu s' _ (by omega) (by omega) h' (by rw [List.length_append]; show L.length + 1 + k + 1 ≤ _; omega))
theorem lgd_le {v : Nat} : ∀ d k, lgd v d k ≤ k + d
  | 0, k => Nat.le_refl _
  | d + 1, k => by
    unfold lgd
    split
    · omega
    · have := lgd_le (v := v) d (k + 1); omega
theorem m_num2 {v : Nat} (hN : 2001 ≤ N) (hv : v < 1000000) : ∀ (d fu k : Nat), d + k = 5 → d < fu → (f_MD_putNumber_2 N m (lN v) fu (lN (10 ^ k))).1 (ov M m s) = (f_MD_putNumber_21 N m (lN v) N (lN (10 ^ (lgd v d k)))).1 (ov M m s) := by
  have e10 : lN v / 10 = lN (v / 10) := by rw [show (10 : Int64) = lN 10 from rfl, pk_lDiv (by omega) (by decide) (by decide)]
  have p2 : (10 : Nat) ^ 5 = 100000 := by decide
  have cmp : ∀ k, k ≤ 5 → (0 < lg_cmp (lN (10 ^ k)) (lN (v / 10)) ↔ v / 10 < 10 ^ k) := by
    intro k hk
    have p1 : 10 ^ k ≤ 10 ^ 5 := Nat.pow_le_pow_right (by decide) hk
    have := lg_le (x := lN (10 ^ k)) (y := lN (v / 10))
    have h2 := lN_leB (a := 10 ^ k) (b := v / 10) (by omega) (by omega)
    constructor
    · intro z; exact Nat.lt_of_not_le (fun y => absurd (this.mpr (h2.mpr y)) (Int32.not_le.mpr z))
    · intro z; exact Int32.not_le.mp (fun y => absurd (h2.mp (this.mp y)) (by omega))
  intro d
  induction d with
  | zero =>
    intro fu k h1 h2
    obtain ⟨fu, rfl⟩ : ∃ g, fu = g + 1 := ⟨fu - 1, by omega⟩
    have hk : k = 5 := by omega
    subst hk
    rw [e_MD_putNumber_2, e10, r_if_t ((cmp 5 (by omega)).mpr (by omega))]
    rfl
  | succ d ih =>
    intro fu k h1 h2
    obtain ⟨fu, rfl⟩ : ∃ g, fu = g + 1 := ⟨fu - 1, by omega⟩
    rw [e_MD_putNumber_2, e10]
    unfold lgd
    by_cases c : v / 10 < 10 ^ k
    · rw [r_if_t ((cmp k (by omega)).mpr c), if_pos c]
    · rw [r_if_f (fun z => c ((cmp k (by omega)).mp z)), if_neg c, show lN (10 ^ k) * 10 = lN (10 ^ (k + 1)) from by rw [show (10 : Int64) = lN 10 from rfl, lN_mul, Nat.pow_succ]]
      exact ih fu (k + 1) (by omega) (by omega)
theorem numS_len {v : Nat} : (numS v).length ≤ 6 := by
  unfold numS
  rw [digL_len]
  have := lgd_le (v := v) 5 0
  omega
theorem m_putNumber {v : Nat} (hN : 2001 ≤ N) (hv : v < 1000000) (hP : Pst s L) (hL : L.length + 6 ≤ 60000) : Emt M m s L (numS v) ((f_MD_putNumber N m (lN v)).1 (ov M m s)) := by
  have h := m_num2 (N := N) (M := M) (m := m) (s := s) hN hv 5 N 0 (by omega) (by omega)
  have hl := lgd_le (v := v) 5 0
  rw [e_MD_putNumber, show (1 : Int64) = lN (10 ^ 0) from rfl, h]
  exact m_num21 (by omega) _ N s L (by omega) (by omega) hP (by omega)
theorem verS_len {v : Nat} : (verS v).length ≤ 20 := by
  unfold verS
  rw [List.length_append, List.length_append, List.length_append, List.length_append]
  have a := numS_len (v := v / 1000000000000)
  have b := numS_len (v := v / 1000000 % 1000000)
  have c := numS_len (v := v % 1000000)
  show _ + (1 + (_ + (1 + _))) ≤ 20
  omega
theorem m_putVersion {v : Nat} (hN : 2001 ≤ N) (hv : v < 10 ^ 18) (hP : Pst s L) (hL : L.length + 20 ≤ 60000) : Emt M m s L (verS v) ((f_MD_putVersion N m (lN v)).1 (ov M m s)) := by
  have p : (10 : Nat) ^ 18 = 1000000000000000000 := by decide
  have e1 : lN v / 1000000000000 = lN (v / 1000000000000) := by rw [show (1000000000000 : Int64) = lN 1000000000000 from rfl, pk_lDiv (by omega) (by decide) (by decide)]
  have e2 : lN v / 1000000 = lN (v / 1000000) := by rw [show (1000000 : Int64) = lN 1000000 from rfl, pk_lDiv (by omega) (by decide) (by decide)]
  have e3 : lN (v / 1000000) - lN (v / 1000000) / 1000000 * 1000000 = lN (v / 1000000 % 1000000) := by rw [show (1000000 : Int64) = lN 1000000 from rfl, pk_lRem (by omega) (by decide) (by decide)]
  have e4 : lN v - lN (v / 1000000) * 1000000 = lN (v % 1000000) := by
    rw [← e2, show (1000000 : Int64) = lN 1000000 from rfl, pk_lRem (by omega) (by decide) (by decide)]
  rw [e_MD_putVersion, e1, e2, e3, e4]
  have a := numS_len (v := v / 1000000000000)
  have b := numS_len (v := v / 1000000 % 1000000)
  unfold verS
  refine Emt.seq (m_putNumber hN (by omega) hP (by omega)) (fun s1 h1 _ => ?_)
  refine Emt.seq (m_put (sml_nI (j := 46) (by decide)) h1 (by rw [List.length_append]; omega)) (fun s2 h2 _ => ?_)
  refine Emt.seq (m_putNumber hN (by omega) h2 (by rw [List.length_append, List.length_append]; show _ + 1 + 6 ≤ _; omega)) (fun s3 h3 _ => ?_)
  refine Emt.seq (m_put (sml_nI (j := 46) (by decide)) h3 (by rw [List.length_append, List.length_append, List.length_append]; show _ + 1 + _ < _; omega)) (fun s4 h4 _ => ?_)
  have := Emt.seq (l' := []) (K := b_ret ()) (m_putNumber (N := N) (M := M) (m := m) (v := v % 1000000) hN (by omega) h4 (by rw [List.length_append, List.length_append, List.length_append, List.length_append]; show _ + 1 + _ + 1 + 6 ≤ _; omega)) (fun s5 h5 _ => Emt.ret h5)
  rw [List.append_nil] at this
  exact this
theorem m_putBound {a b : Int32} {v : Nat} (hN : 2001 ≤ N) (ha : sml a) (hb : sml b) (hv : v < 10 ^ 18) (hP : Pst s L) (hL : L.length + 24 ≤ 60000) : Emt M m s L (bdS a b v) ((f_MD_putBound N m a b (lN v)).1 (ov M m s)) := by
  rw [e_MD_putBound, r_let]
  unfold bdS
  refine Emt.seq (l := [32]) (m_put (sml_nI (j := 32) (by decide)) hP (by omega)) (fun s1 h1 _ => ?_)
  refine Emt.seq (l := [a]) (m_put ha h1 (by rw [List.length_append]; show _ + 1 < _; omega)) (fun s2 h2 _ => ?_)
  have tail : ∀ (s3 : rS) (L3 : List Int32), L3.length ≤ L.length + 3 → Pst s3 L3 → Emt M m s3 L3 ([32] ++ verS v) ((b_is m 1 (b_call (f_MD_put N m 32) (fun _ => b_is m 1 (b_call (f_MD_putVersion N m (lN v)) (fun _ => b_ret ()))))).1 (ov M m s3)) := by
    intro s3 L3 h3 hP3
    refine Emt.seq (l := [32]) (m_put (sml_nI (j := 32) (by decide)) hP3 (by omega)) (fun s4 h4 _ => ?_)
    have := Emt.seq (l' := []) (K := b_ret ()) (m_putVersion (N := N) (M := M) (m := m) hN hv h4 (by rw [List.length_append]; show _ + 1 + 20 ≤ _; omega)) (fun s5 h5 _ => Emt.ret h5)
    rw [List.append_nil] at this
    exact this
  by_cases c : b = 0
  · rw [r_if_t c, if_pos c, List.nil_append]
    exact tail s2 _ (by rw [List.length_append, List.length_append]; show _ + 1 + 1 ≤ _; omega) h2
  · rw [r_if_f c, if_neg c]
    exact Emt.seq (l := [b]) (m_put hb h2 (by rw [List.length_append, List.length_append]; show _ + 1 + 1 < _; omega)) (fun s3 h3 _ => tail s3 _ (by rw [List.length_append, List.length_append, List.length_append]; show _ + 1 + 1 + 1 ≤ _; omega) h3)
end RPUT2
