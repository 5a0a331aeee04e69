/-! errors: the shares of a closed net, the reference. -/
def lv2 (S : Nat → Int) (s : Nat) : Nat → Nat
  | 0 => 0
  | k + 1 => lv2 S s k + (if jA s k = 0 then 0 else (S k).toNat)
theorem lv2_100 {S : Nat → Int} {s : Nat} : ∀ k, lvN S s k = lv2 S s k * 100 := by
  intro k
  induction k with
  | zero => rfl
  | succ k ih =>
    show lvN S s k + (if jA s k = 0 then 0 else 100 * (S k).toNat) = (lv2 S s k + (if jA s k = 0 then 0 else (S k).toNat)) * 100
    rw [ih]
    split <;> omega
theorem pK2 : BL ^ 3 * 10000000 < 10000 ^ 16 ∧ (10000 : Nat) ^ 3 = 1000000000000 := by decide +kernel
theorem mk_eqD {x y E : Nat} (hE : 0 < E) : mkRat (x : Int) E = mkRat (y : Int) E ↔ x = y := by
  rw [Rat.mkRat_eq_iff (by omega) (by omega)]
  constructor
  · intro h
    rw [← Int.natCast_mul, ← Int.natCast_mul] at h
    exact Nat.eq_of_mul_eq_mul_right hE (Int.ofNat_inj.mp h)
  · intro h; rw [h]
theorem sign_zero {p q : Rat} : (p - q).num.sign = 0 ↔ p = q := by
  rw [Int.sign_eq_zero_iff_zero, Rat.num_eq_zero]
  constructor
  · intro h; grind
  · intro h; rw [h, Rat.sub_self]
abbrev styF : List Nat := [64, 65, 68, 81, 82, 83]