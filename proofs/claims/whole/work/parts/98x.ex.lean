theorem exOk1 : exOk 1 = true := by decide +kernel
theorem exOk2 : exOk 2 = true := by decide +kernel
theorem exOk3 : exOk 3 = true := by decide +kernel
theorem exOk4 : exOk 4 = true := by decide +kernel
theorem exOk5 : exOk 5 = true := by decide +kernel
theorem exOk_all : ∀ a, exOk a = true := by
  intro a
  rcases a with _ | _ | _ | _ | _ | a
  · exact exOk5
  · exact exOk1
  · exact exOk2
  · exact exOk3
  · exact exOk4
  · exact exOk5
