/-! Nets: the reference solves. -/
theorem mk100 {x : Int} : mkRat x 100 = ((x : Int) : Rat) / (((100 : Nat) : Int) : Rat) := by
  rw [Rat.mkRat_eq_div]
  rfl
theorem mk100_ne : (((100 : Nat) : Int) : Rat) ≠ 0 := int_ne (by decide)
theorem mk100_sub {x y : Int} : mkRat x 100 - mkRat y 100 = mkRat (x - y) 100 := by
  have h := mk100_ne
  rw [mk100, mk100, mk100, Rat.intCast_sub]
  generalize ((x : Int) : Rat) = u at *
  generalize ((y : Int) : Rat) = v at *
  generalize (((100 : Nat) : Int) : Rat) = w at *
  grind
theorem mk100_add {x y : Int} : mkRat x 100 + mkRat y 100 = mkRat (x + y) 100 := by
  have h := mk100_ne
  rw [mk100, mk100, mk100, Rat.intCast_add]
  generalize ((x : Int) : Rat) = u at *
  generalize ((y : Int) : Rat) = v at *
  generalize (((100 : Nat) : Int) : Rat) = w at *
  grind
theorem mk_one {x : Int} : mkRat x 1 = ((x : Int) : Rat) := by
  rw [Rat.mkRat_eq_div]
  have n4 : ((1 : Nat) : Rat) = 1 := rfl
  rw [n4]
  generalize ((x : Int) : Rat) = u
  grind
theorem mk_1_100 {x : Int} : mkRat x 1 = mkRat (100 * x) 100 := by
  have h := mk100_ne
  rw [mk_one, mk100, Rat.intCast_mul]
  have e : ((100 : Int) : Rat) = (((100 : Nat) : Int) : Rat) := rfl
  rw [e]
  generalize ((x : Int) : Rat) = u at *
  generalize (((100 : Nat) : Int) : Rat) = w at *
  grind
theorem mk0_100 : mkRat (0 : Int) 100 = 0 := Rat.zero_mkRat 100
theorem mk100_100 : mkRat (100 : Int) 100 = 1 := by decide +kernel
theorem Bd100 {x : Int} (h0 : 0 ≤ x) (h1 : x ≤ 99999999) : Bd (mkRat x 100) 2 := by
  obtain ⟨X, rfl⟩ : ∃ X : Nat, x = X := ⟨x.toNat, by omega⟩
  exact Bd_mk (by decide) (by have : (10000 : Int) ^ 2 = 100000000 := by decide
                              omega) (by decide)
/-- the cell (r, c) behind k steps -/
def ntK (n : Nat) (C S : Nat → Int) (A : Nat → Nat → Int) (f : Nat → Bool) (r k c : Nat) : Int := if c = n then known C S A f r k else if c < k then ntN n C S A f r c else if r = c then 100 else 0