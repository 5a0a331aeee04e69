/-! The reference's rows: divideRows, whole. -/
theorem atI_kept {l : List Nat} {M M' : Mem} {r : Nat} {i : Int} (hf : RF l M M') (hr : r ∉ l) (h : M 164 r ≤ 300) : atI M' r i = atI M r i := by
  unfold atI
  rw [rd_kept hf hr h]