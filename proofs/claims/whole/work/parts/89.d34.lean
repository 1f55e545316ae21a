/-! LAYER 2: both are made: nothing is held -/
section MADE
variable {z : Nat}
theorem lmem_o {s i j : Nat} {l : List va_E} {e : va_E} (h : l[i]? = some e) (hj : j = z + i) : (lmem z l s).1 j = some e := by rw [hj]; exact lmem_at h
theorem fit8_0 : fit8 (fun _ => 0) := fun _ => ⟨0, by decide, rfl⟩
theorem CI_0 : CI z (lmem z (cell14 z ++ ref29 z) 672785) (fun _ => 0) 0 [] [] [] := by
  refine ⟨0, lmem_o (i := 0) rfl rfl, ⟨⟨(0, 0, 0, 0, 0, 0, 0, 0), lmem_at rfl, rfl⟩, lmem_at rfl, by decide, fit8_0⟩, ⟨⟨0, 0, none, 0, 0, 0, lmem_at rfl⟩, ⟨_, lmem_at rfl⟩, ⟨_, lmem_at rfl⟩, ⟨_, lmem_at rfl⟩, ?_⟩, ⟨by decide, _, lmem_at rfl, fun q P h => by cases h⟩, ⟨lmem_at rfl, by decide, _, lmem_at rfl, fun i c h => by cases h⟩, ⟨lmem_at rfl, ⟨_, lmem_at rfl⟩, _, lmem_at rfl⟩, ⟨by decide, by decide, _, lmem_at rfl, fun i c h => by cases h⟩⟩
  show z + 43 ≤ z + (cell14 z ++ ref29 z).length
  exact Nat.le_refl _
theorem ov_made : lmem z (cell14 z ++ ref29 z) 672785 = ov (lmem z (cell14 z ++ ref29 z) 672785) (z + 14) ref0 := by
  refine ov_self (lt29 ?_ ?_ ?_ ?_ ?_ ?_ ?_ ?_ ?_ ?_ ?_ ?_ ?_ ?_ ?_ ?_ ?_ ?_ ?_ ?_ ?_ ?_ ?_ ?_ ?_ ?_ ?_ ?_ ?_)
  · exact lmem_o (i := 14) rfl rfl
  · exact lmem_o (i := 15) rfl rfl
  · exact lmem_o (i := 16) rfl rfl
  · exact lmem_o (i := 17) rfl rfl
  · exact lmem_o (i := 18) rfl rfl
  · exact lmem_o (i := 19) rfl rfl
  · exact lmem_o (i := 20) rfl rfl
  · exact lmem_o (i := 21) rfl rfl
  · exact lmem_o (i := 22) rfl rfl
  · exact lmem_o (i := 23) rfl rfl
  · exact lmem_o (i := 24) rfl rfl
  · exact lmem_o (i := 25) rfl rfl
  · exact lmem_o (i := 26) rfl rfl
  · exact lmem_o (i := 27) rfl rfl
  · exact lmem_o (i := 28) rfl rfl
  · exact lmem_o (i := 29) rfl rfl
  · exact lmem_o (i := 30) rfl rfl
  · exact lmem_o (i := 31) rfl rfl
  · exact lmem_o (i := 32) rfl rfl
  · exact lmem_o (i := 33) rfl rfl
  · exact lmem_o (i := 34) rfl rfl
  · exact lmem_o (i := 35) rfl rfl
  · exact lmem_o (i := 36) rfl rfl
  · exact lmem_o (i := 37) rfl rfl
  · exact lmem_o (i := 38) rfl rfl
  · exact lmem_o (i := 39) rfl rfl
  · exact lmem_o (i := 40) rfl rfl
  · exact lmem_o (i := 41) rfl rfl
  · exact lmem_o (i := 42) rfl rfl
theorem cS_0 : cS ref0 := by
  refine ⟨fun i hi => ?_, fun i hi => ?_⟩
  · have : ∀ i, i < 12 → ref0.2.2.2 3 i = kC (ktx i) ∧ ref0.2.2.1 4 i = nI (kdf i) := by decide +kernel
    exact this i hi
  · have : ∀ i, i < 5 → ref0.2.2.2 2 i = kC (ntx i) := by decide +kernel
    exact this i hi
theorem RInv_0 : RInv ref0 (fun _ => 0) 0 [] [] [] := by
  refine ⟨⟨rfl, by decide, fit8_0, ?_⟩, rfl, by decide, cS_0, fun q P h => (by cases h), ⟨rfl, by decide, fun i c h => (by cases h)⟩, rfl, by decide, fun i c h => by cases h⟩
  funext j
  show (0 : Int32) = sx 0
  decide
end MADE
