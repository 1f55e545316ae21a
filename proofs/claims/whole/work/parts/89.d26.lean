/-! LAYER 2: how long what is printed may be: versions and ranges -/
def RC (lo hi : Nat) : Nat := if hi = lo + 1 then 2 + (verS lo).length else if lo = 0 ∧ hi = 0 then 7 else (if lo = 0 then 0 else 3 + (verS lo).length) + (if hi = 1000000000000000000 then 0 else 2 + (verS hi).length)
section LEN
variable {f : Nat → Int32} {n k : Nat}
theorem lgd_b {v : Nat} : ∀ (d k k0 : Nat), k ≤ k0 → k0 ≤ k + d → v < 10 ^ (k0 + 1) → lgd v d k ≤ k0
  | 0, k, k0, h1, _, _ => h1
  | d + 1, k, k0, h1, h2, h3 => by
    unfold lgd
    split
    · exact h1
    · rename_i c
      by_cases e : k = k0
      · exfalso
        apply c
        rw [e, Nat.div_lt_iff_lt_mul (by decide), ← Nat.pow_succ]; exact h3
      · exact lgd_b d (k + 1) k0 (by omega) (by omega) h3
theorem numS_d {v d : Nat} (h1 : 1 ≤ d) (h2 : d ≤ 6) (h : v < 10 ^ d) : (numS v).length ≤ d := by
  unfold numS
  rw [digL_len]
  have := lgd_b (v := v) 5 0 (d - 1) (by omega) (by omega) (by rw [show d - 1 + 1 = d by omega]; exact h)
  omega
theorem numS_1 {v : Nat} : 1 ≤ (numS v).length := by
  unfold numS
  rw [digL_len]; omega
theorem verS_5 {v : Nat} : 5 ≤ (verS v).length := by
  unfold verS
  rw [List.length_append, List.length_append, List.length_append, List.length_append]
  have a := numS_1 (v := v / 1000000000000)
  have b := numS_1 (v := v / 1000000 % 1000000)
  have c := numS_1 (v := v % 1000000)
  show 5 ≤ _ + (1 + (_ + (1 + _)))
  omega
theorem verS_0 : (verS 0).length = 5 := by decide +kernel
theorem verS_l {a b c : Nat} (hb : b < 1000000) (hc : c < 1000000) : (verS ((a * 1000000 + b) * 1000000 + c)).length = (numS a).length + (numS b).length + (numS c).length + 2 := by
  unfold verS
  rw [List.length_append, List.length_append, List.length_append, List.length_append]
  have e1 : ((a * 1000000 + b) * 1000000 + c) / 1000000000000 = a := by omega
  have e2 : ((a * 1000000 + b) * 1000000 + c) / 1000000 % 1000000 = b := by omega
  have e3 : ((a * 1000000 + b) * 1000000 + c) % 1000000 = c := by omega
  rw [e1, e2, e3]
  show _ + (1 + (_ + (1 + _))) = _
  omega
theorem pw {d : Nat} (h1 : 1 ≤ d) (h2 : d ≤ 6) : 10 ≤ 10 ^ d ∧ 10 ^ d ≤ 1000000 ∧ 10 ^ (d + 1) = 10 * 10 ^ d := by
  refine ⟨?_, ?_, ?_⟩
  · have := Nat.pow_le_pow_right (n := 10) (by decide) h1; exact this
  · have := Nat.pow_le_pow_right (n := 10) (by decide) h2; exact this
  · rw [Nat.pow_succ, Nat.mul_comm]
/-- a number and one -/
theorem numS_s {v d : Nat} (h1 : 1 ≤ d) (h2 : d ≤ 6) (h : v < 10 ^ d) : (numS (v + 1)).length ≤ d + 1 := by
  by_cases c : d = 6
  · have := numS_len (v := v + 1); omega
  · have := (pw h1 h2).2.2
    have p0 := (pw h1 h2).1
    exact numS_d (by omega) (by omega) (by omega)
theorem ver_len {a b c d1 d2 d3 : Nat} (h1 : 1 ≤ d1 ∧ d1 ≤ 6) (h2 : 1 ≤ d2 ∧ d2 ≤ 6) (h3 : 1 ≤ d3 ∧ d3 ≤ 6) (ha : a < 10 ^ d1) (hb : b < 10 ^ d2) (hc : c < 10 ^ d3) : (verS ((a * 1000000 + b) * 1000000 + c)).length ≤ d1 + d2 + d3 + 2 ∧ (verS ((a * 1000000 + b) * 1000000 + c + 1)).length ≤ d1 + d2 + d3 + 3 := by
  have p1 := pw h1.1 h1.2
  have p2 := pw h2.1 h2.2
  have p3 := pw h3.1 h3.2
  have n1 := numS_d h1.1 h1.2 ha
  have n2 := numS_d h2.1 h2.2 hb
  have n3 := numS_d h3.1 h3.2 hc
  refine ⟨by rw [verS_l (by omega) (by omega)]; omega, ?_⟩
  have z0 : (numS 0).length = 1 := by decide +kernel
  by_cases c3 : c + 1 < 1000000
  · rw [Nat.add_assoc, verS_l (by omega) c3]
    have := numS_s h3.1 h3.2 hc
    omega
  · have e3 : c = 999999 := by omega
    have d36 : d3 = 6 := by
      refine Classical.byContradiction (fun z => ?_)
      have : 10 ^ d3 ≤ 10 ^ 5 := Nat.pow_le_pow_right (by decide) (by omega)
      omega
    by_cases c2 : b + 1 < 1000000
    · rw [show (a * 1000000 + b) * 1000000 + c + 1 = (a * 1000000 + (b + 1)) * 1000000 + 0 by omega, verS_l c2 (by omega)]
      have := numS_s h2.1 h2.2 hb
      omega
    · rw [show (a * 1000000 + b) * 1000000 + c + 1 = ((a + 1) * 1000000 + 0) * 1000000 + 0 by omega, verS_l (by omega) (by omega)]
      have := numS_len (v := a + 1)
      have d26 : d2 = 6 := by
        refine Classical.byContradiction (fun z => ?_)
        have : 10 ^ d2 ≤ 10 ^ 5 := Nat.pow_le_pow_right (by decide) (by omega)
        omega
      omega
theorem nv_b (h8 : fit8 f) {m k : Nat} : nv f k (den f m k - k) < 10 ^ (den f m k - k) := nv_lt (f := f) (k := k) (den f m k - k) (fun i hi => (dv_of h8 (den_cD m k (k + i) (by omega) (by omega))).2)
/-- a VERSION isn't longer when it is printed -/
theorem verR_len (h8 : fit8 f) {q x : Nat} (h : verR f n k = .inr (q, x)) : (verS x).length + sp f n k ≤ q ∧ (verS (x + 1)).length + sp f n k ≤ q + 1 := by
  unfold verR at h
  split at h
  · rename_i o1
    have b1 := nv_b h8 (m := n - sp f n k) (k := sp f n k)
    have g1 := den_ge (f := f) (n - sp f n k) (sp f n k)
    generalize nv f (sp f n k) (den f (n - sp f n k) (sp f n k) - sp f n k) = a at *
    generalize den f (n - sp f n k) (sp f n k) = q1 at *
    generalize sp f n k = k0 at *
    rw [show vst f n 2 q1 a = if sgn f n q1 = 46 then (if cD (sgn f n (q1 + 1)) then (if nuOk f (q1 + 1) (den f (n - (q1 + 1)) (q1 + 1) - (q1 + 1)) then vst f n 1 (den f (n - (q1 + 1)) (q1 + 1)) (a * 1000000 + nv f (q1 + 1) (den f (n - (q1 + 1)) (q1 + 1) - (q1 + 1))) else .inl (q1 + 1)) else .inl (sp f n (q1 + 1))) else .inl (sp f n q1) from rfl] at h
    split at h
    · split at h
      · split at h
        · rename_i o2
          have b2 := nv_b h8 (m := n - (q1 + 1)) (k := q1 + 1)
          have g2 := den_ge (f := f) (n - (q1 + 1)) (q1 + 1)
          generalize nv f (q1 + 1) (den f (n - (q1 + 1)) (q1 + 1) - (q1 + 1)) = b at *
          generalize den f (n - (q1 + 1)) (q1 + 1) = q2 at *
          rw [show vst f n 1 q2 (a * 1000000 + b) = if sgn f n q2 = 46 then (if cD (sgn f n (q2 + 1)) then (if nuOk f (q2 + 1) (den f (n - (q2 + 1)) (q2 + 1) - (q2 + 1)) then vst f n 0 (den f (n - (q2 + 1)) (q2 + 1)) ((a * 1000000 + b) * 1000000 + nv f (q2 + 1) (den f (n - (q2 + 1)) (q2 + 1) - (q2 + 1))) else .inl (q2 + 1)) else .inl (sp f n (q2 + 1))) else .inl (sp f n q2) from rfl] at h
          split at h
          · split at h
            · split at h
              · rename_i o3
                have b3 := nv_b h8 (m := n - (q2 + 1)) (k := q2 + 1)
                have g3 := den_ge (f := f) (n - (q2 + 1)) (q2 + 1)
                generalize nv f (q2 + 1) (den f (n - (q2 + 1)) (q2 + 1) - (q2 + 1)) = c at *
                generalize den f (n - (q2 + 1)) (q2 + 1) = q3 at *
                cases h
                have := ver_len ⟨o1.1, o1.2.1⟩ ⟨o2.1, o2.2.1⟩ ⟨o3.1, o3.2.1⟩ b1 b2 b3
                omega
              · cases h
            · cases h
          · cases h
        · cases h
      · cases h
    · cases h
  · cases h
theorem RC_sg {lo : Nat} : RC lo (lo + 1) = 2 + (verS lo).length := if_pos rfl
theorem RC_0 : RC 0 0 = 7 := by unfold RC; rw [if_neg (by decide), if_pos ⟨rfl, rfl⟩]
theorem RC_g {lo hi : Nat} (h1 : lo < hi) (h2 : hi ≠ lo + 1) : RC lo hi = (if lo = 0 then 0 else 3 + (verS lo).length) + (if hi = 1000000000000000000 then 0 else 2 + (verS hi).length) := by
  unfold RC; rw [if_neg h2, if_neg (by omega)]
theorem RC_e {lo hi : Nat} (h1 : lo < hi) (h2 : hi ≠ 1000000000000000000) : 7 ≤ RC lo hi := by
  have := verS_5 (v := lo)
  have := verS_5 (v := hi)
  by_cases c : hi = lo + 1
  · rw [c, RC_sg]; omega
  · rw [RC_g h1 c, if_neg h2]; omega
theorem clo_t {lo hi : Nat} (h : lo < hi) : clo lo hi = (lo, hi) := if_pos h
theorem clo_f {lo hi : Nat} (h : ¬ lo < hi) : clo lo hi = (0, 0) := if_neg h
/-- what two ranges have in common -/
theorem RC_i {lo1 hi1 lo2 hi2 : Nat} (e1 : hi1 ≤ 1000000000000000000) (e2 : hi2 ≤ 1000000000000000000) : RC (clo (max lo1 lo2) (min hi1 hi2)).1 (clo (max lo1 lo2) (min hi1 hi2)).2 ≤ RC (clo lo1 hi1).1 (clo lo1 hi1).2 + RC (clo lo2 hi2).1 (clo lo2 hi2).2 := by
  by_cases c1 : lo1 < hi1
  · by_cases c2 : lo2 < hi2
    · rw [clo_t c1, clo_t c2]
      dsimp only
      by_cases c : max lo1 lo2 < min hi1 hi2
      · rw [clo_t c]
        dsimp only
        by_cases s : min hi1 hi2 = max lo1 lo2 + 1
        · rw [s, RC_sg]
          by_cases s1 : hi1 = lo1 + 1
          · rw [s1, RC_sg, show max lo1 lo2 = lo1 by omega]; omega
          · by_cases s2 : hi2 = lo2 + 1
            · rw [s2, RC_sg, show max lo1 lo2 = lo2 by omega]; omega
            · rw [RC_g c1 s1, RC_g c2 s2]
              by_cases m : lo2 ≤ lo1
              · rw [show max lo1 lo2 = lo1 by omega]
                by_cases z : lo1 = 0
                · omega
                · rw [if_neg z]; omega
              · rw [show max lo1 lo2 = lo2 by omega, if_neg (show ¬ lo2 = 0 by omega)]; omega
        · rw [RC_g c s]
          by_cases s1 : hi1 = lo1 + 1
          · omega
          · by_cases s2 : hi2 = lo2 + 1
            · omega
            · rw [RC_g c1 s1, RC_g c2 s2]
              by_cases m : lo2 ≤ lo1
              · rw [show max lo1 lo2 = lo1 by omega]
                by_cases m2 : hi1 ≤ hi2
                · rw [show min hi1 hi2 = hi1 by omega]; omega
                · rw [show min hi1 hi2 = hi2 by omega]; omega
              · rw [show max lo1 lo2 = lo2 by omega]
                by_cases m2 : hi1 ≤ hi2
                · rw [show min hi1 hi2 = hi1 by omega]; omega
                · rw [show min hi1 hi2 = hi2 by omega]; omega
      · rw [clo_f c]
        dsimp only
        rw [RC_0]
        by_cases h1 : hi1 = 1000000000000000000
        · by_cases h2 : hi2 = 1000000000000000000
          · omega
          · have := RC_e c2 h2; omega
        · have := RC_e c1 h1; omega
    · rw [clo_f (show ¬ max lo1 lo2 < min hi1 hi2 by omega), clo_f c2]; omega
  · rw [clo_f (show ¬ max lo1 lo2 < min hi1 hi2 by omega), clo_f c1]; omega
theorem bq_g2 {s : Nat} : s + 1 ≤ bq f n s ∧ (sgn f n s ≠ 61 → sgn f n (s + 1) = 61 → bq f n s = s + 2) := by
  unfold bq
  refine ⟨?_, fun h1 h2 => by rw [if_neg h1, if_pos h2]⟩
  split
  · omega
  · split <;> omega
/-- one bound -/
theorem bnd_RC (h8 : fit8 f) {s q' x lo hi : Nat} (hs : sgn f n s = 61 ∨ sgn f n s = 60 ∨ sgn f n s = 62) (hq : bq f n s ≤ n) (hhi : hi ≤ 1000000000000000000) (h : verR f n (bq f n s) = .inr (q', x)) :
    RC (clo (nlo (sgn f n s) (bb f n s) x lo) (nhi (sgn f n s) (bb f n s) x hi)).1 (clo (nlo (sgn f n s) (bb f n s) x lo) (nhi (sgn f n s) (bb f n s) x hi)).2 ≤ RC (clo lo hi).1 (clo lo hi).2 + (q' - s) + 3 ∧ s + 6 ≤ q' := by
  obtain ⟨l1, l2⟩ := verR_len h8 h
  obtain ⟨_, hx⟩ := verR_lt h8 hq h
  have p : (10 : Nat) ^ 18 = 1000000000000000000 := by decide
  have g1 := sp_ge (f := f) (n := n) (k := bq f n s)
  obtain ⟨g2, g3⟩ := bq_g2 (f := f) (n := n) (s := s)
  have v5 := verS_5 (v := x)
  have v5' := verS_5 (v := x + 1)
  refine ⟨?_, by omega⟩
  have z7 : RC 0 1 = 7 := by rw [RC_sg, verS_0]
  rcases hs with e | e | e
  · have eb : bb f n s = 1 := by unfold bb; rw [if_pos e]
    rw [e, eb, show nlo 61 1 x lo = max lo x by unfold nlo; rw [if_neg (by decide), if_neg (by decide)], show nhi 61 1 x hi = min hi (x + 1) by unfold nhi; rw [if_neg (by decide), if_neg (by decide)]]
    have := RC_i (lo1 := lo) (hi1 := hi) (lo2 := x) (hi2 := x + 1) hhi (by omega)
    rw [clo_t (show x < x + 1 by omega)] at this
    dsimp only at this
    rw [RC_sg] at this
    omega
  · have hn61 : sgn f n s ≠ 61 := by rw [e]; decide
    by_cases e2 : sgn f n (s + 1) = 61
    · have eb : bb f n s = 1 := by unfold bb; rw [if_neg hn61, if_pos e2]
      have g4 := g3 hn61 e2
      rw [e, eb, show nlo 60 1 x lo = lo by unfold nlo; rw [if_pos rfl], show nhi 60 1 x hi = min hi (x + 1) by unfold nhi; rw [if_neg (by decide), if_neg (by decide)]]
      have := RC_i (lo1 := lo) (hi1 := hi) (lo2 := 0) (hi2 := x + 1) hhi (by omega)
      rw [Nat.max_eq_left (Nat.zero_le lo), clo_t (show 0 < x + 1 by omega)] at this
      dsimp only at this
      have b : RC 0 (x + 1) ≤ 2 + (verS (x + 1)).length := by
        by_cases c : x = 0
        · rw [c, RC_sg, verS_0]; have := verS_5 (v := 0 + 1); omega
        · rw [RC_g (by omega) (by omega), if_pos rfl]; split <;> omega
      omega
    · have eb : bb f n s = 0 := by unfold bb; rw [if_neg hn61, if_neg e2]
      rw [e, eb, show nlo 60 0 x lo = lo by unfold nlo; rw [if_pos rfl], show nhi 60 0 x hi = min hi x by unfold nhi; rw [if_neg (by decide), if_pos rfl]]
      have := RC_i (lo1 := lo) (hi1 := hi) (lo2 := 0) (hi2 := x) hhi (by omega)
      rw [Nat.max_eq_left (Nat.zero_le lo)] at this
      have b : RC (clo 0 x).1 (clo 0 x).2 ≤ 2 + (verS x).length := by
        by_cases c : x = 0
        · rw [c, clo_f (by omega)]; dsimp only; rw [RC_0, verS_0]; decide
        · rw [clo_t (by omega)]
          dsimp only
          by_cases c1 : x = 1
          · rw [c1, z7]; have := verS_5 (v := 1); omega
          · rw [RC_g (by omega) (by omega), if_pos rfl]; split <;> omega
      omega
  · have hn61 : sgn f n s ≠ 61 := by rw [e]; decide
    have up : ∀ X : Nat, X ≤ 1000000000000000000 → RC (clo X 1000000000000000000).1 (clo X 1000000000000000000).2 ≤ 3 + (verS X).length := by
      intro X hX
      have v5 := verS_5 (v := X)
      by_cases c : X = 1000000000000000000
      · rw [clo_f (by omega)]; dsimp only; rw [RC_0]; omega
      · rw [clo_t (by omega)]
        dsimp only
        by_cases c1 : 1000000000000000000 = X + 1
        · rw [c1, RC_sg]; omega
        · rw [RC_g (by omega) c1, if_pos rfl]
          split <;> omega
    by_cases e2 : sgn f n (s + 1) = 61
    · have eb : bb f n s = 1 := by unfold bb; rw [if_neg hn61, if_pos e2]
      have g4 := g3 hn61 e2
      rw [e, eb, show nlo 62 1 x lo = max lo x by unfold nlo; rw [if_neg (by decide), if_neg (by decide)], show nhi 62 1 x hi = hi by unfold nhi; rw [if_pos rfl]]
      have := RC_i (lo1 := lo) (hi1 := hi) (lo2 := x) (hi2 := 1000000000000000000) hhi (by omega)
      rw [Nat.min_eq_left hhi] at this
      have := up x (by omega)
      omega
    · have eb : bb f n s = 0 := by unfold bb; rw [if_neg hn61, if_neg e2]
      rw [e, eb, show nlo 62 0 x lo = max lo (x + 1) by unfold nlo; rw [if_neg (by decide), if_pos rfl], show nhi 62 0 x hi = hi by unfold nhi; rw [if_pos rfl]]
      have := RC_i (lo1 := lo) (hi1 := hi) (lo2 := x + 1) (hi2 := 1000000000000000000) hhi (by omega)
      rw [Nat.min_eq_left hhi] at this
      have := up (x + 1) (by omega)
      omega
theorem rst_RC (h8 : fit8 f) : ∀ (r q lo hi q' : Nat) (x : Nat × Nat), q ≤ n → hi ≤ 1000000000000000000 → rst f n r q lo hi = .inr (q', x) → RC x.1 x.2 ≤ RC (clo lo hi).1 (clo lo hi).2 + (q' - q) + 3 * r ∧ q ≤ q'
  | 0, q, lo, hi, q', x, _, _, h => by cases h; omega
  | r + 1, q, lo, hi, q', x, hq, bh, h => by
    rw [show rst f n (r + 1) q lo hi = if sgn f n (sp f n q) = 61 ∨ sgn f n (sp f n q) = 60 ∨ sgn f n (sp f n q) = 62 then (match verR f n (bq f n (sp f n q)) with
      | .inl w => .inl w
      | .inr (q', x) => rst f n r q' (nlo (sgn f n (sp f n q)) (bb f n (sp f n q)) x lo) (nhi (sgn f n (sp f n q)) (bb f n (sp f n q)) x hi))
      else if r = 1 then .inl (sp f n q) else .inr (sp f n q, clo lo hi) from rfl] at h
    have hsg := sp_ge (f := f) (n := n) (k := q)
    by_cases c : sgn f n (sp f n q) = 61 ∨ sgn f n (sp f n q) = 60 ∨ sgn f n (sp f n q) = 62
    · rw [if_pos c] at h
      have hq1 : sp f n q < n := by rcases c with h | h | h <;> exact sgn_0 (by decide) h
      have hbq := bq_le (f := f) hq1
      cases hv : verR f n (bq f n (sp f n q)) with
      | inl w' => rw [hv] at h; cases h
      | inr qx =>
        obtain ⟨q2, x2⟩ := qx
        rw [hv] at h
        obtain ⟨b1, b2⟩ := bnd_RC (lo := lo) h8 c hbq bh hv
        obtain ⟨i1, i2⟩ := rst_RC h8 r q2 _ _ q' x (verR_q hbq hv) (nhi_le bh) h
        omega
    · rw [if_neg c] at h
      split at h
      · cases h
      · cases h; omega
theorem rgR_RC (h8 : fit8 f) {q lo hi : Nat} (hk : k ≤ n) (h : rgR f n k = .inr (q, lo, hi)) : RC lo hi ≤ (q - sp f n k) + 6 ∧ sp f n k ≤ q := by
  have z : RC (clo 0 1000000000000000000).1 (clo 0 1000000000000000000).2 = 0 := by
    rw [clo_t (by decide)]
    dsimp only
    rw [RC_g (by decide) (by decide), if_pos rfl, if_pos rfl]
  unfold rgR at h; split at h
  · cases h
    rw [clo_t (by decide)] at z
    dsimp only at z
    rw [z]; omega
  · have := rst_RC h8 2 _ _ _ q (lo, hi) (sp_le hk) (by decide) h
    rw [z] at this
    dsimp only at this
    omega
end LEN
