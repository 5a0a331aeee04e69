/-! The reference plays: seats, works. -/
theorem mem_erase {l : List Nat} {p k : Nat} (hn : l.Nodup) (hp : p < l.length) : k ∈ l.eraseIdx p ↔ k ∈ l ∧ k ≠ l.getD p 0 := by
  rw [erase_filter l p hn hp, List.mem_filter]
  simp