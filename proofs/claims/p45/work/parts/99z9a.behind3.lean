/-! The chance behind steps: the reference. -/
theorem mkRat_add_same {a c : Int} {y : Nat} (hy : y ≠ 0) : mkRat a y + mkRat c y = mkRat (a + c) y := by
  rw [Rat.mkRat_add_mkRat _ _ hy hy, ← Int.add_mul, Rat.mkRat_mul_right hy]
theorem RC.fm {M M' : Mem} {n : Nat} {b : Int} {A : Nat → Nat → Int} {l : List Nat} (h : RC M n b A) (hf : FM [] [] l M M') : RC M' n b A := by
  obtain ⟨c1, c2, c3⟩ := h
  exact ⟨by rw [hf.2.1 16 (by simp)]; exact c1, by rw [hf.2.1 17 (by simp)]; exact c2, fun i j hi hj => by rw [hf.1 154 (by decide) (by decide) (by decide) (by decide) (by simp)]; exact c3 i j hi hj⟩
abbrev behF : List Nat := [0, 1, 2, 3, 4, 5, 6, 8, 9, 10, 11, 12, 13, 14, 64, 65]
theorem beh_in {i : Nat} (h : i < 7 ∨ (8 ≤ i ∧ i < 15) ∨ i = 64 ∨ i = 65) : ∀ a, a ∈ [i] → a ∈ behF := by
  intro a ha
  simp at ha ⊢
  omega
theorem FR.beh {M M' : Mem} {i : Nat} (h : FR [i] M M') (hi : i < 7 ∨ (8 ≤ i ∧ i < 15) ∨ i = 64 ∨ i = 65) : FM [] [] behF M M' := (h.mono (beh_in hi)).fm