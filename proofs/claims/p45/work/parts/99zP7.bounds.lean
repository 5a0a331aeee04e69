/-! Fractions whose parts are bounded. -/
def Bq (x : Rat) (U W : Nat) : Prop := x.num.natAbs ≤ U ∧ x.den ≤ W
theorem Bq.mono {x : Rat} {U W U' W' : Nat} (h : Bq x U W) (h1 : U ≤ U') (h2 : W ≤ W') : Bq x U' W' := ⟨Nat.le_trans h.1 h1, Nat.le_trans h.2 h2⟩
theorem tdiv_le {a : Int} {g : Nat} : (a.tdiv (g : Int)).natAbs ≤ a.natAbs := Int.natAbs_tdiv_le_natAbs _ _
theorem Bq_div {a b : Int} (hb : b ≠ 0) : Bq ((a : Rat) / (b : Rat)) a.natAbs b.natAbs := by
  rcases Int.lt_or_gt_of_ne hb with h | h
  · rw [← R_neg]
    obtain ⟨e1, e2⟩ := R_def (a := -a) (b := -b) (by omega)
    have h1 := tdiv_le (a := -a) (g := Int.gcd (-a) (-b))
    have h2 := tdiv_le (a := -b) (g := Int.gcd (-a) (-b))
    rw [← e1] at h1
    rw [← e2] at h2
    exact ⟨by omega, by omega⟩
  · obtain ⟨e1, e2⟩ := R_def (a := a) (b := b) h
    have h1 := tdiv_le (a := a) (g := Int.gcd a b)
    have h2 := tdiv_le (a := b) (g := Int.gcd a b)
    rw [← e1] at h1
    rw [← e2] at h2
    exact ⟨h1, by omega⟩
theorem R_add (x y : Rat) : x + y = (((x.num * y.den + y.num * x.den : Int)) : Rat) / ((((x.den : Int) * y.den : Int)) : Rat) := by
  have h1 := R_val (x := x)
  have h2 := R_val (x := y)
  have h3 := den_ne (x := x)
  have h4 := den_ne (x := y)
  rw [Rat.intCast_add, Rat.intCast_mul, Rat.intCast_mul, Rat.intCast_mul]
  generalize ((x.den : Int) : Rat) = p at *
  generalize ((y.den : Int) : Rat) = u at *
  generalize ((x.num : Int) : Rat) = a at *
  generalize ((y.num : Int) : Rat) = b at *
  subst h1; subst h2
  grind
theorem R_mul (x y : Rat) : x * y = (((x.num * y.num : Int)) : Rat) / ((((x.den : Int) * y.den : Int)) : Rat) := by
  have h1 := R_val (x := x)
  have h2 := R_val (x := y)
  have h3 := den_ne (x := x)
  have h4 := den_ne (x := y)
  rw [Rat.intCast_mul, Rat.intCast_mul]
  generalize ((x.den : Int) : Rat) = p at *
  generalize ((y.den : Int) : Rat) = u at *
  generalize ((x.num : Int) : Rat) = a at *
  generalize ((y.num : Int) : Rat) = b at *
  subst h1; subst h2
  grind
theorem R_div (x : Rat) {y : Rat} (hy : y ≠ 0) : x / y = (((x.num * y.den : Int)) : Rat) / ((((x.den : Int) * y.num : Int)) : Rat) := by
  have h1 := R_val (x := x)
  have h2 := R_val (x := y)
  have h3 := den_ne (x := x)
  have h4 := den_ne (x := y)
  have h5 : ((y.num : Int) : Rat) ≠ 0 := fun z => hy (Rat.num_eq_zero.mp (Rat.intCast_eq_zero_iff.mp z))
  rw [Rat.intCast_mul, Rat.intCast_mul]
  generalize ((x.den : Int) : Rat) = p at *
  generalize ((y.den : Int) : Rat) = u at *
  generalize ((x.num : Int) : Rat) = a at *
  generalize ((y.num : Int) : Rat) = b at *
  rw [← h1, ← h2]
  grind
section BQ
variable {x y : Rat} {U W V Z : Nat}
theorem Bq.addI (hx : Bq x U W) (hy : Bq y V Z) : (x.num * y.den + y.num * x.den).natAbs ≤ U * Z + V * W ∧ ((x.den : Int) * y.den).natAbs ≤ W * Z := by
  have h1 : (x.num * (y.den : Int)).natAbs ≤ U * Z := by rw [Int.natAbs_mul, Int.natAbs_natCast]; exact Nat.mul_le_mul hx.1 hy.2
  have h2 : (y.num * (x.den : Int)).natAbs ≤ V * W := by rw [Int.natAbs_mul, Int.natAbs_natCast]; exact Nat.mul_le_mul hy.1 hx.2
  refine ⟨by omega, ?_⟩
  rw [Int.natAbs_mul, Int.natAbs_natCast, Int.natAbs_natCast]
  exact Nat.mul_le_mul hx.2 hy.2
theorem Bq.mulI (hx : Bq x U W) (hy : Bq y V Z) : (x.num * y.num).natAbs ≤ U * V ∧ ((x.den : Int) * y.den).natAbs ≤ W * Z := by
  rw [Int.natAbs_mul, Int.natAbs_mul, Int.natAbs_natCast, Int.natAbs_natCast]
  exact ⟨Nat.mul_le_mul hx.1 hy.1, Nat.mul_le_mul hx.2 hy.2⟩
theorem Bq.divI (hx : Bq x U W) (hy : Bq y V Z) : (x.num * y.den).natAbs ≤ U * Z ∧ ((x.den : Int) * y.num).natAbs ≤ W * V := by
  rw [Int.natAbs_mul, Int.natAbs_mul, Int.natAbs_natCast, Int.natAbs_natCast]
  exact ⟨Nat.mul_le_mul hx.1 hy.2, Nat.mul_le_mul hx.2 hy.1⟩
theorem den_pos2 : 0 < (x.den : Int) * y.den := Int.mul_pos (by have := x.den_pos; omega) (by have := y.den_pos; omega)
theorem Bq.add (hx : Bq x U W) (hy : Bq y V Z) : Bq (x + y) (U * Z + V * W) (W * Z) := by
  have h := hx.addI hy
  rw [R_add]
  exact (Bq_div (by have := den_pos2 (x := x) (y := y); omega)).mono h.1 h.2
theorem Bq.mul (hx : Bq x U W) (hy : Bq y V Z) : Bq (x * y) (U * V) (W * Z) := by
  have h := hx.mulI hy
  rw [R_mul]
  exact (Bq_div (by have := den_pos2 (x := x) (y := y); omega)).mono h.1 h.2
theorem Bq.div (hx : Bq x U W) (hy : Bq y V Z) (h0 : y ≠ 0) : Bq (x / y) (U * Z) (W * V) := by
  have h := hx.divI hy
  rw [R_div x h0]
  refine (Bq_div (Int.mul_ne_zero (by have := x.den_pos; omega) fun z => h0 (Rat.num_eq_zero.mp z))).mono h.1 h.2
theorem Bq.okS (hx : Bq x U W) (hy : Bq y V Z) (h1 : U * Z + V * W < 9223372036854775808) (h2 : W * Z < 9223372036854775808) : okS x y := by
  have h := hx.addI hy
  exact ⟨⟨by omega, by omega⟩, by omega⟩
theorem Bq.okT (hx : Bq x U W) (hy : Bq y V Z) (h1 : U * V < 9223372036854775808) (h2 : W * Z < 9223372036854775808) : okT x y := by
  have h := hx.mulI hy
  exact ⟨⟨by omega, by omega⟩, by omega⟩
theorem Bq.okD (hx : Bq x U W) (hy : Bq y V Z) (h1 : U * Z < 9223372036854775808) (h2 : W * V < 9223372036854775808) (h0 : y ≠ 0) : okD x y := by
  have h := hx.divI hy
  exact ⟨⟨by omega, by omega⟩, ⟨by omega, by omega⟩, h0⟩
theorem Bq.ok (hx : Bq x U W) (h1 : U < 9223372036854775808) (h2 : W < 9223372036854775808) : ok63 x := by
  obtain ⟨a, b⟩ := hx
  exact ⟨⟨by omega, by omega⟩, by omega⟩
theorem Bq_int (a : Int) : Bq (a : Rat) a.natAbs 1 := ⟨Nat.le_refl _, Nat.le_refl _⟩
theorem Bq_mk {v : Int} {w : Nat} (hw : 0 < w) : Bq (mkRat v w) v.natAbs w := by
  have := Bq_div (a := v) (b := (w : Int)) (by omega)
  rw [Rat.mkRat_eq_div]
  rw [Rat.intCast_natCast, Int.natAbs_natCast] at this
  exact this
end BQ
