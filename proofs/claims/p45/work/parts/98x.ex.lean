theorem exOk1 : exOk 1 = true := by decide +kernel
theorem exOk2 : exOk 2 = true := by decide +kernel
theorem exOk3 : exOk 3 = true := by decide +kernel
theorem exOk4 : exOk 4 = true := by decide +kernel
theorem exOk_all : ∀ a, 1 ≤ a → a ≤ 4 → exOk a = true := by
  intro a h1 h4
  rcases a with _ | _ | _ | _ | _ | a
  · omega
  · exact exOk1
  · exact exOk2
  · exact exOk3
  · exact exOk4
  · omega
