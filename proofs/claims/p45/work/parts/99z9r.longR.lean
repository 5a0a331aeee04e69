/-! Long shares: the reference. -/
theorem shT_D {n s b : Nat} {A : Nat → Nat → Int} (hO : cOk n (b : Int) A) {a c : Nat} (ha : a < cnt s n) (hc : c ≤ cnt s n) : Wh (shT b A s n a c * (((b : Nat) : Int) : Rat)) 1000000 := by
  have hb := hO.2.1
  have h7 := hO.1
  have h1 := (sel_in ha).1
  unfold shT
  by_cases e : c = cnt s n
  · rw [if_pos e]
    by_cases e2 : a = 0
    · rw [if_pos e2]; exact ⟨(b : Int), by grind, by omega, by omega⟩
    · rw [if_neg e2]; exact ⟨0, by show (0 : Rat) * _ = ((0 : Int) : Rat); rw [show ((0 : Int) : Rat) = 0 from rfl]; grind, by omega, by omega⟩
  · rw [if_neg e]
    have h2 := (sel_in (show c < cnt s n by omega)).1
    by_cases e2 : a = 0
    · rw [if_pos e2]; exact ⟨(b : Int), by grind, by omega, by omega⟩
    · rw [if_neg e2]
      have := hO.2.2.1 (sel s n c) (sel s n a) (by omega) (by omega)
      refine ⟨_, mk_mul (by omega), ?_, ?_⟩ <;> split <;> omega
theorem mkOne : mkRat (1 : Int) 1 = 1 := by decide +kernel