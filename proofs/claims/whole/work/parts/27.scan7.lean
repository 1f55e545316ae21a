/-! LAYER 2: the class's Scan: how large a version is -/
theorem lg_lt {x y : Int64} : lg_cmp x y < 0 ↔ x < y := by
  unfold lg_cmp
  by_cases h1 : y < x
  · simp only [h1, if_true]
    exact ⟨fun z => absurd z (by decide), fun z => absurd (Int64.lt_trans z h1) (Int64.lt_irrefl)⟩
  · by_cases h2 : x = y
    · simp [h2, Int64.lt_irrefl]
    · have h3 : x < y := Int64.lt_of_le_of_ne (Int64.not_lt.mp h1) h2
      simp [h1, h2, h3]
theorem den_cD {f : Nat → Int32} : ∀ (m k i : Nat), k ≤ i → i < den f m k → cD (f i)
  | 0, k, i, h1, h2 => by rw [den] at h2; omega
  | m + 1, k, i, h1, h2 => by
    rw [den] at h2
    by_cases hc : cD (f k)
    · rw [if_pos hc] at h2
      rcases Nat.lt_or_ge k i with q | q
      · exact den_cD m (k + 1) i q h2
      · rw [show i = k by omega]; exact hc
    · rw [if_neg hc] at h2; omega
theorem nu_lt {f : Nat → Int32} (h8 : fit8 f) {m k : Nat} (hu : nuOk f k (den f m k - k)) : nv f k (den f m k - k) < 1000000 := by
  have h := nv_lt (f := f) (k := k) (den f m k - k) (fun i hi => (dv_of h8 (den_cD m k (k + i) (by omega) (by omega))).2)
  have h6 : (10 : Nat) ^ (den f m k - k) ≤ 10 ^ 6 := Nat.pow_le_pow_right (by decide) hu.2.1
  have e : (10 : Nat) ^ 6 = 1000000 := by decide
  omega
theorem vst_lt {f : Nat → Int32} (h8 : fit8 f) {n : Nat} : ∀ (r q x q' x' : Nat), q ≤ n → vst f n r q x = .inr (q', x') → q' ≤ n ∧ x' < (x + 1) * 1000000 ^ r
  | 0, q, x, q', x', hq, h => by
    rw [vst] at h
    cases h
    exact ⟨hq, by omega⟩
  | r + 1, q, x, q', x', hq, h => by
    rw [vst] at h
    by_cases h1 : sgn f n q = 46
    case neg => rw [if_neg h1] at h; cases h
    rw [if_pos h1] at h
    by_cases h2 : cD (sgn f n (q + 1))
    case neg => rw [if_neg h2] at h; cases h
    rw [if_pos h2] at h
    by_cases h3 : nuOk f (q + 1) (den f (n - (q + 1)) (q + 1) - (q + 1))
    case neg => rw [if_neg h3] at h; cases h
    rw [if_pos h3] at h
    have hq1 := cD_in h2
    have hd := den_le (f := f) (n - (q + 1)) (q + 1)
    have hu := nu_lt h8 h3
    obtain ⟨g1, g2⟩ := vst_lt h8 r _ _ q' x' (by omega) h
    refine ⟨g1, Nat.lt_of_lt_of_le g2 ?_⟩
    rw [Nat.pow_succ, Nat.mul_comm (1000000 ^ r) 1000000, ← Nat.mul_assoc]
    exact Nat.mul_le_mul_right _ (by omega)
theorem verR_lt {f : Nat → Int32} (h8 : fit8 f) {n k q x : Nat} (hk : k ≤ n) (h : verR f n k = .inr (q, x)) : q ≤ n ∧ x < 10 ^ 18 := by
  unfold verR at h
  by_cases hu : nuOk f (sp f n k) (den f (n - sp f n k) (sp f n k) - sp f n k)
  case neg => rw [if_neg hu] at h; cases h
  rw [if_pos hu] at h
  have hs := sp_le (f := f) hk
  have hd := den_le (f := f) (n - sp f n k) (sp f n k)
  have hv := nu_lt h8 hu
  obtain ⟨g1, g2⟩ := vst_lt h8 2 _ _ q x (by omega) h
  refine ⟨g1, Nat.lt_of_lt_of_le g2 ?_⟩
  have e : (1000000 : Nat) ^ 2 * 1000000 = 10 ^ 18 := by decide
  rw [← e, Nat.mul_comm]
  exact Nat.mul_le_mul_left _ (by omega)
