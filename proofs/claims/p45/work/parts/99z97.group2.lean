/-! Groups: the reference. -/
theorem set_ne {n i s : Nat} {E : Nat → Nat → Prop} (h : isSet n E i s) (hi : i < n) : s.testBit i = true ∧ ¬ (s : Int) = 0 := by
  have hb := (h.2 i).mpr ⟨hi, .refl i⟩
  refine ⟨hb, fun e => ?_⟩
  have e0 : s = 0 := by omega
  rw [e0, Nat.zero_testBit] at hb
  cases hb