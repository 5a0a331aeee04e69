/-! The reference's rows: parts of the division. -/
theorem tf_step {Z R t y b c z old c' B Ps Pj : Int} (ih : Z = R - t * b * Ps + c * (Ps * Pj)) (hs : z = old - t * y - c + c' * B) : Z + (z - old) * (Ps * Pj) = R - t * (b + y * Pj) * Ps + c' * (Ps * (Pj * B)) := by
  rw [ih, hs]; grind