/-! Loss: what both sides compute. -/
def eL (x : Nat) : Nat → Nat
  | 0 => 1
  | k + 1 => eL x k * x
def eA (x y : Nat) : Nat → Nat
  | 0 => 1
  | k + 1 => eA x y k * ((k + 1) * y) + eL x (k + 1)
def lossF (a : Rat) : Nat → Rat
  | 0 => 1
  | k + 1 => a * lossF a k / (((k + 1 : Nat) : Rat) + a * lossF a k)
theorem eA_pos {x y : Nat} (hy : 0 < y) : ∀ k, 0 < eA x y k := by
  intro k
  induction k with
  | zero => exact Nat.one_pos
  | succ k ih => exact Nat.lt_of_lt_of_le (Nat.mul_pos ih (Nat.mul_pos (Nat.succ_pos k) hy)) (Nat.le_add_right _ _)
theorem eL_le {x y : Nat} (hy : 0 < y) : ∀ k, eL x k ≤ eA x y k := by
  intro k
  cases k with
  | zero => exact Nat.le_refl 1
  | succ k => exact Nat.le_add_left _ _
theorem eA_le {x y : Nat} (hx : x ≤ 999) (hy : 0 < y ∧ y ≤ 999) : ∀ k, k ≤ 31 → eA x y k ≤ 100000 ^ k := by
  intro k
  induction k with
  | zero => intro _; exact Nat.le_refl 1
  | succ k ih =>
    intro hk
    have h1 := ih (by omega)
    have h2 : (k + 1) * y ≤ 31 * 999 := Nat.mul_le_mul (by omega) hy.2
    have h3 : eA x y k * ((k + 1) * y) ≤ eA x y k * 30969 := Nat.mul_le_mul_left _ h2
    have h4 : eL x k * x ≤ eA x y k * 999 := Nat.mul_le_mul (eL_le hy.1 k) hx
    show eA x y k * ((k + 1) * y) + eL x k * x ≤ 100000 ^ (k + 1)
    rw [Nat.pow_succ]
    omega
theorem lossF_mk {x y : Nat} (hy : 0 < y) : ∀ k, lossF (mkRat x y) k = mkRat (eL x k : Nat) (eA x y k) ∧ mkRat x y * lossF (mkRat x y) k = mkRat (eL x (k + 1) : Nat) (y * eA x y k) ∧ ((k + 1 : Nat) : Rat) + mkRat x y * lossF (mkRat x y) k = mkRat (eA x y (k + 1) : Nat) (y * eA x y k) := by
  have st : ∀ k, lossF (mkRat x y) k = mkRat (eL x k : Nat) (eA x y k) → mkRat x y * lossF (mkRat x y) k = mkRat (eL x (k + 1) : Nat) (y * eA x y k) ∧ ((k + 1 : Nat) : Rat) + mkRat x y * lossF (mkRat x y) k = mkRat (eA x y (k + 1) : Nat) (y * eA x y k) := by
    intro k h
    have p := eA_pos (x := x) hy k
    have e1 : mkRat x y * lossF (mkRat x y) k = mkRat (eL x (k + 1) : Nat) (y * eA x y k) := by
      rw [h, Rat.mkRat_mul_mkRat]
      show mkRat _ _ = mkRat ((eL x k * x : Nat) : Int) _
      rw [Int.natCast_mul, Int.mul_comm]
    refine ⟨e1, ?_⟩
    rw [e1]
    have e2 : (((k + 1 : Nat)) : Rat) = mkRat ((k + 1 : Nat) : Int) 1 := by
      rw [Rat.mkRat_eq_div]
      have n3 : (((k + 1 : Nat) : Int) : Rat) = ((k + 1 : Nat) : Rat) := rfl
      have n4 : ((1 : Nat) : Rat) = 1 := rfl
      rw [n3, n4]
      generalize ((k + 1 : Nat) : Rat) = z
      grind
    rw [e2, Rat.mkRat_add_mkRat _ _ (by decide) (Nat.ne_of_gt (Nat.mul_pos hy p))]
    show mkRat _ _ = mkRat ((eA x y k * ((k + 1) * y) + eL x (k + 1) : Nat) : Int) _
    congr 1
    · push_cast
      grind
    · omega
  intro k
  induction k with
  | zero =>
    have e : lossF (mkRat x y) 0 = mkRat (eL x 0 : Nat) (eA x y 0) := (Rat.mkRat_self 1).symm
    exact ⟨e, st 0 e⟩
  | succ k ih =>
    obtain ⟨_, i2, i3⟩ := ih
    have p := eA_pos (x := x) hy k
    have p1 := eA_pos (x := x) hy (k + 1)
    have e : lossF (mkRat x y) (k + 1) = mkRat (eL x (k + 1) : Nat) (eA x y (k + 1)) := by
      show mkRat x y * lossF (mkRat x y) k / (((k + 1 : Nat) : Rat) + mkRat x y * lossF (mkRat x y) k) = _
      rw [i3, i2, Rat.mkRat_eq_div, Rat.mkRat_eq_div, Rat.mkRat_eq_div]
      have n1 : ((y * eA x y k : Nat) : Rat) ≠ 0 := by
        intro h
        have : (y * eA x y k) = 0 := by exact_mod_cast h
        exact Nat.ne_of_gt (Nat.mul_pos hy p) this
      have n2 : ((eA x y (k + 1) : Nat) : Rat) ≠ 0 := by
        intro h
        have : (eA x y (k + 1)) = 0 := by exact_mod_cast h
        exact Nat.ne_of_gt p1 this
      have n3 : (((eA x y (k + 1) : Nat) : Int) : Rat) = ((eA x y (k + 1) : Nat) : Rat) := rfl
      rw [n3]
      grind
    exact ⟨e, st (k + 1) e⟩
