/-! LAYER 2: the class reads a row of the text -/
def dSp (z L : Nat) (M : hM) (f : Nat → Int32) (n k : Nat) (nmr : Option Nat) (ver : Int64) (X : Option (Int32 × hM)) (res : Nat ⊕ (Nat × aP)) : Prop := match res with
  | .inl w => ∃ M' v', X = some (0, M') ∧ M'.1 (z + 2) = some (scC (z + 3) v') ∧ v'.2.2.1 = nI w ∧ rfr z M M' ∧ shp z M' ∧ rom M M' (n - k)
  | .inr (q, st') => ∃ M' v' trp', X = some (1, M') ∧ sOk M' (z + 2) (z + 3) v' f n q ∧ RB z L M' st' trp' (nI st'.2.2 - 1) nmr ver ∧ rfr z M M' ∧ rom M M' (q - k) ∧ k ≤ q
section CTXR
variable {N z L : Nat} {M M' M'' : hM} {v : sV} {f : Nat → Int32} {n k : Nat} {st : aP} {trp stv : Int32} {nmr : Option Nat} {ver : Int64}
theorem dSp.eq {X Y : Option (Int32 × hM)} {res : Nat ⊕ (Nat × aP)} (e : X = Y) (h : dSp z L M f n k nmr ver Y res) : dSp z L M f n k nmr ver X res := by rw [e]; exact h
theorem dSp.mono {M1 : hM} {e : Nat} {X : Option (Int32 × hM)} {res : Nat ⊕ (Nat × aP)} (h : dSp z L M1 f n e nmr ver X res) (g : rfr z M M1) (r : rom M M1 (e - k)) (hk : k ≤ e) (he : e ≤ n) : dSp z L M f n k nmr ver X res := by
  rcases res with w | ⟨q, st'⟩
  · obtain ⟨M', v', a, b, c, d, s, t⟩ := h
    exact ⟨M', v', a, b, c, g.tr d, s, (r.tr t).le (by omega)⟩
  · obtain ⟨M', v', tr, a, b, c, d, s, t⟩ := h
    exact ⟨M', v', tr, a, b, c, g.tr d, (r.tr s).le (by omega), by omega⟩
theorem cSp.d {X : Option (Int32 × hM)} {res : Nat ⊕ (Nat × aP)} (h : cSp z L M f n k trp stv nmr ver X res) (he : ∀ q st', res = .inr (q, st') → stv = nI st'.2.2 - 1) : dSp z L M f n k nmr ver X res := by
  rcases res with w | ⟨q, st'⟩
  · exact h
  · obtain ⟨M', v', a, b, c, d⟩ := h
    rw [he q st' rfl] at c
    exact ⟨M', v', trp, a, b, c, d⟩
theorem dSp.retN {B : hX Int32} {res : Nat ⊕ (Nat × aP)} (h : dSp z L M f n k nmr ver (B.1 M) res) {ci : Nat} {fs : List Value} (hc : M.1 (z + 1) = some (.inr (ci, fs))) : dSp z L M f n k nmr ver ((b_is (z + 1) ci (b_call B (fun v => b_retN .boolean v))).1 M) res := by
  refine dSp.eq ((r_is hc).trans r_callE) ?_
  rcases res with w | ⟨q, st'⟩
  · obtain ⟨M', v', a, b⟩ := h
    exact ⟨M', v', by rw [a, Option.bind_some]; exact rZ0, b⟩
  · obtain ⟨M', v', tr, a, b⟩ := h
    exact ⟨M', v', tr, by rw [a, Option.bind_some]; exact rZ1, b⟩
theorem ft_sets {q0 q : Nat} {st' : aP} (h : pFt f n q0 st k = .inr (q, st')) : st'.2.2 = st.2.2 := by
  unfold pFt at h
  cases hr : nmR f n k with
  | inl w => rw [hr] at h; cases h
  | inr be =>
    rw [hr] at h
    dsimp only at h
    split at h
    · split at h
      · cases h; rfl
      · rw [pNm_st 201 _ _ q st' h]
    · cases h
theorem pv_sets {q0 q : Nat} {st' : aP} (h : pPv f n q0 st k = .inr (q, st')) : st'.2.2 = st.2.2 := by
  unfold pPv at h
  cases hr : nmR f n k with
  | inl w => rw [hr] at h; cases h
  | inr be =>
    rw [hr] at h
    dsimp only at h
    cases hv : verR f n be.2 with
    | inl w => rw [hv] at h; cases h
    | inr x => rw [hv] at h; rw [(adR_len h).2.2.1]
theorem sc_sets {q0 q : Nat} {st' : aP} (h : pSc f n q0 st k = .inr (q, st')) : st'.2.2 = st.2.2 := by
  unfold pSc at h
  cases hr : nmR f n k with
  | inl w => rw [hr] at h; cases h
  | inr be =>
    rw [hr] at h
    dsimp only at h
    cases hv : nmR f n be.2 with
    | inl w => rw [hv] at h; cases h
    | inr x => rw [hv] at h; rw [(adR_len h).2.2.1]
theorem fi_sets {q0 q : Nat} {st' : aP} (h : pFi f n q0 st k = .inr (q, st')) : st'.2.2 = st.2.2 := by
  unfold pFi at h
  cases hr : nmR f n k with
  | inl w => rw [hr] at h; cases h
  | inr be =>
    rw [hr] at h
    dsimp only at h
    split at h
    · rw [(adR_len h).2.2.1]
    · cases h
theorem s_firstWord {i : Nat} (hi : i < 12) : (f_Kind_firstWord N (nI (i + 4))).1 M = some (some (ktx i), M) := by
  rw [e_Kind_firstWord]
  have hc : i = 0 ∨ i = 1 ∨ i = 2 ∨ i = 3 ∨ i = 4 ∨ i = 5 ∨ i = 6 ∨ i = 7 ∨ i = 8 ∨ i = 9 ∨ i = 10 ∨ i = 11 := by omega
  rcases hc with e | e | e | e | e | e | e | e | e | e | e | e <;> subst e <;> rfl
theorem s_needWord {i : Nat} (hi : i < 5) : (f_Kind_needWord N (nI i)).1 M = some (some (ntx i), M) := by
  rw [e_Kind_needWord]
  have hc : i = 0 ∨ i = 1 ∨ i = 2 ∨ i = 3 ∨ i = 4 := by omega
  rcases hc with e | e | e | e | e <;> subst e <;> rfl
theorem c_kind1 {s e : Nat} (hN : 2001 ≤ N) (hS : sAt M (z + 2) (z + 3) v f) (h4 : v.2.2.2.1 = nI s) (h5 : v.2.2.2.2.1 = nI e) (hse : s ≤ e) (he : e ≤ 2000) (hB : RB z L M st trp stv nmr ver) : ∀ (d fu i : Nat), d + i = 12 → d < fu → (f_Reader_kindOfFirstWord_2 N (z + 1) fu (nI (i + 4))).1 M = some ((if fsI (fun i => isTx f s e (ktx i)) d i = 12 then -1 else nI (fsI (fun i => isTx f s e (ktx i)) d i + 4)), M) := by
  intro d
  induction d with
  | zero =>
    intro fu i h1 h2
    obtain ⟨fu, rfl⟩ : ∃ g, fu = g + 1 := ⟨fu - 1, by omega⟩
    have hi : i = 12 := by omega
    subst hi
    rw [e_Reader_kindOfFirstWord_2, r_if_t (show (15 : Int32) < nI (12 + 4) by decide)]
    rfl
  | succ d ih =>
    intro fu i h1 h2
    obtain ⟨fu, rfl⟩ : ∃ g, fu = g + 1 := ⟨fu - 1, by omega⟩
    have ht : ktx i < sB.length := Nat.lt_of_lt_of_le (ktx_lt (by omega)) (by decide)
    rw [e_Reader_kindOfFirstWord_2, r_if_f (show ¬ (15 : Int32) < nI (i + 4) from nI_nlt (a := 15) (by omega) (by omega))]
    refine (r_getR (r := some (z + 2)) hB.rd rfl).trans (r_callE.trans ?_)
    rw [s_firstWord (by omega), Option.bind_some]
    dsimp only
    rw [r_nn, r_is hS.1, r_callE, s_isWord hN ht hS h4 h5 hse he, Option.bind_some]
    dsimp only
    rw [show fsI (fun i => isTx f s e (ktx i)) (d + 1) i = @ite _ (isTx f s e (ktx i)) (Classical.propDecidable _) i (fsI (fun i => isTx f s e (ktx i)) d (i + 1)) from rfl]
    by_cases c : isTx f s e (ktx i)
    · rw [@bI_t (isTx f s e (ktx i)) (Classical.propDecidable _) c, r_if_f (show ¬ (1 : Int32) = 0 by decide), if_pos c, if_neg (by omega)]; rfl
    · rw [@bI_f (isTx f s e (ktx i)) (Classical.propDecidable _) c, r_if_t rfl, if_neg c, nI_1]
      exact ih fu (i + 1) (by omega) (by omega)
theorem c_kind2 {s e : Nat} (hN : 2001 ≤ N) (hS : sAt M (z + 2) (z + 3) v f) (h4 : v.2.2.2.1 = nI s) (h5 : v.2.2.2.2.1 = nI e) (hse : s ≤ e) (he : e ≤ 2000) (hB : RB z L M st trp stv nmr ver) : ∀ (d fu i : Nat), d + i = 5 → d < fu → (f_Reader_kindOfNeedWord_2 N (z + 1) fu (nI i)).1 M = some ((if fsI (fun i => isTx f s e (ntx i)) d i = 5 then -1 else nI (fsI (fun i => isTx f s e (ntx i)) d i)), M) := by
  intro d
  induction d with
  | zero =>
    intro fu i h1 h2
    obtain ⟨fu, rfl⟩ : ∃ g, fu = g + 1 := ⟨fu - 1, by omega⟩
    have hi : i = 5 := by omega
    subst hi
    rw [e_Reader_kindOfNeedWord_2, r_if_t (show (4 : Int32) < nI 5 by decide)]
    rfl
  | succ d ih =>
    intro fu i h1 h2
    obtain ⟨fu, rfl⟩ : ∃ g, fu = g + 1 := ⟨fu - 1, by omega⟩
    have ht : ntx i < sB.length := by have : sB.length = 27 := by decide
                                      unfold ntx; split <;> omega
    rw [e_Reader_kindOfNeedWord_2, r_if_f (show ¬ (4 : Int32) < nI i from nI_nlt (a := 4) (by omega) (by omega))]
    refine (r_getR (r := some (z + 2)) hB.rd rfl).trans (r_callE.trans ?_)
    rw [s_needWord (by omega), Option.bind_some]
    dsimp only
    rw [r_nn, r_is hS.1, r_callE, s_isWord hN ht hS h4 h5 hse he, Option.bind_some]
    dsimp only
    rw [show fsI (fun i => isTx f s e (ntx i)) (d + 1) i = @ite _ (isTx f s e (ntx i)) (Classical.propDecidable _) i (fsI (fun i => isTx f s e (ntx i)) d (i + 1)) from rfl]
    by_cases c : isTx f s e (ntx i)
    · rw [@bI_t (isTx f s e (ntx i)) (Classical.propDecidable _) c, r_if_f (show ¬ (1 : Int32) = 0 by decide), if_pos c, if_neg (by omega)]; rfl
    · rw [@bI_f (isTx f s e (ntx i)) (Classical.propDecidable _) c, r_if_t rfl, if_neg c, nI_1]
      exact ih fu (i + 1) (by omega) (by omega)
/-- the row's own part, once its kind is known -/
theorem c_kindOf {i q0 : Nat} (hN : 2001 ≤ N) (hi : i < 12) (hi0 : i ≠ 0) (hS : sOk M (z + 2) (z + 3) v f n k) (hB : RB z L M st (nI q0) (nI st.2.2 - 1) nmr ver) (hl : st.1.length ≤ 200) (hF : st.2.1.length < 181) : dSp z L M f n k nmr ver ((b_let (fun (y0 : Int32) => b_retN .boolean y0) (fun J156 => (if nI (i + 4) = (-1) then b_getR (z + 1) 6 0 (fun r1 => b_getR (z + 1) 6 0 (fun r2 => b_nn r2 (fun a3 => b_getI a3 8 4 (fun v4 => b_nn r1 (fun a5 => b_is a5 8 (b_call (f_Scan_refuse N a5 v4) (fun v6 => b_retN .boolean v6))))))) else (if nI (i + 4) = 7 then b_is (z + 1) 6 (b_call (f_Reader_takeProvided N (z + 1)) (fun v10 => b_retN .boolean v10)) else (if nI (i + 4) = 9 then b_is (z + 1) 6 (b_call (f_Reader_takeFeature N (z + 1)) (fun v14 => b_retN .boolean v14)) else (if nI (i + 4) = 14 then b_is (z + 1) 6 (b_call (f_Reader_takeScript N (z + 1)) (fun v18 => b_retN .boolean v18)) else (if nI (i + 4) = 15 then b_is (z + 1) 6 (b_call (f_Reader_takeFile N (z + 1)) (fun v22 => b_retN .boolean v22)) else b_call (f_Kind_isList N (nI (i + 4))) (fun v26 => (if v26 = 0 then b_is (z + 1) 6 (b_call (f_Reader_takeRanged N (z + 1) (nI (i + 4))) (fun v29 => J156 v29)) else b_is (z + 1) 6 (b_call (f_Reader_takeNames N (z + 1) (nI (i + 4)) none) (fun v33 => J156 v33)))))))))) : hX Int32).1 M) (pBd f n q0 st k i) := by
  have ne : ∀ m : Nat, m < 2 ^ 31 → i + 4 ≠ m → ¬ nI (i + 4) = nI m := fun m hm h z => h ((nI_eq (by omega) hm).mp z)
  have nm1 : ¬ nI (i + 4) = -1 := fun z => by
    have h := congrArg (fun x : Int32 => decide (x < 0)) z
    have a : decide (nI (i + 4) < 0) = false := decide_eq_false (nI_pos (by omega))
    have h' : decide (nI (i + 4) < 0) = decide ((-1 : Int32) < 0) := h
    rw [a] at h'
    exact absurd h' (by decide)
  rw [r_let, r_if_f nm1]
  unfold pBd
  rw [if_neg hi0]
  by_cases c12 : i = 1 ∨ i = 2
  · rw [if_pos c12, r_if_f (show ¬ nI (i + 4) = 7 from ne 7 (by omega) (by omega)), r_if_f (show ¬ nI (i + 4) = 9 from ne 9 (by omega) (by omega)), r_if_f (show ¬ nI (i + 4) = 14 from ne 14 (by omega) (by omega)), r_if_f (show ¬ nI (i + 4) = 15 from ne 15 (by omega) (by omega)), r_callE, s_isList (by omega), Option.bind_some, decide_eq_false (by omega)]
    dsimp only
    rw [r_if_t (show bZ false = 0 by decide)]
    exact ((c_ranged (kd := i + 4) hN hS hB hl (by omega) (by omega) (by omega)).d (fun q st' h => by rw [(pRg_q h).2.2])).retN hB.rd
  · rw [if_neg c12]
    by_cases c3 : i = 3
    · rw [if_pos c3, r_if_t (show nI (i + 4) = 7 by rw [c3]; rfl)]
      exact ((c_provided hN hS hB hl).d (fun q st' h => by rw [pv_sets h])).retN hB.rd
    · rw [if_neg c3, r_if_f (show ¬ nI (i + 4) = 7 from ne 7 (by omega) (by omega))]
      by_cases c4 : i = 4
      · rw [if_pos c4, r_if_f (show ¬ nI (i + 4) = 9 from ne 9 (by omega) (by omega)), r_if_f (show ¬ nI (i + 4) = 14 from ne 14 (by omega) (by omega)), r_if_f (show ¬ nI (i + 4) = 15 from ne 15 (by omega) (by omega)), r_callE, s_isList (by omega), Option.bind_some, decide_eq_false (by omega)]
        dsimp only
        rw [r_if_t (show bZ false = 0 by decide), c4]
        have hA := c_any (N := N) (q0 := q0) hN hS hB hl
        refine dSp.retN ?_ hB.rd
        cases hp : pAny f n q0 st k with
        | inl w => rw [hp] at hA; exact hA
        | inr x => obtain ⟨q, st'⟩ := x; rw [hp] at hA; exact hA.d (fun q2 st2 h => by cases h; rfl)
      · rw [if_neg c4]
        by_cases c5 : i = 5
        · rw [if_pos c5, r_if_t (show nI (i + 4) = 9 by rw [c5]; rfl)]
          exact ((c_feature hN hS hB hl hF).d (fun q st' h => by rw [ft_sets h])).retN hB.rd
        · rw [if_neg c5, r_if_f (show ¬ nI (i + 4) = 9 from ne 9 (by omega) (by omega))]
          by_cases c10 : i = 10
          · rw [if_pos c10, r_if_t (show nI (i + 4) = 14 by rw [c10]; rfl)]
            exact ((c_script hN hS hB hl).d (fun q st' h => by rw [sc_sets h])).retN hB.rd
          · rw [if_neg c10, r_if_f (show ¬ nI (i + 4) = 14 from ne 14 (by omega) (by omega))]
            by_cases c11 : i = 11
            · rw [if_pos c11, r_if_t (show nI (i + 4) = 15 by rw [c11]; rfl)]
              exact ((c_file hN hS hB hl).d (fun q st' h => by rw [fi_sets h])).retN hB.rd
            · rw [if_neg c11, r_if_f (show ¬ nI (i + 4) = 15 from ne 15 (by omega) (by omega)), r_callE, s_isList (by omega), Option.bind_some, decide_eq_true (by omega)]
              dsimp only
              rw [r_if_f (show ¬ bZ true = 0 by decide)]
              exact ((c_names (kd := i + 4) (ot := []) (ob := none) hN (by omega) (by omega) (fun _ => rfl) (fun z => absurd rfl z) hS hB hl).d (fun q st' h => by rw [pNm_st 201 _ _ q st' h])).retN hB.rd
end CTXR
