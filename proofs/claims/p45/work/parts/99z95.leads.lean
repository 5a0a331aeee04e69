/-! The reference finds what leads to what. -/
def cnt (s : Nat) : Nat → Nat
  | 0 => 0
  | k + 1 => cnt s k + (if s.testBit k then 1 else 0)
theorem cnt_le {s : Nat} : ∀ k, cnt s k ≤ k := by
  intro k
  induction k with
  | zero => exact Nat.le_refl 0
  | succ k ih =>
    show cnt s k + (if s.testBit k then 1 else 0) ≤ k + 1
    split <;> omega
theorem cnt_pos {s i : Nat} (h : s.testBit i = true) : ∀ k, i < k → 1 ≤ cnt s k := by
  intro k
  induction k with
  | zero => intro h; exact absurd h (Nat.not_lt_zero _)
  | succ k ih =>
    intro hk
    show 1 ≤ cnt s k + (if s.testBit k then 1 else 0)
    by_cases e : i = k
    · rw [← e, if_pos h]; omega
    · have := ih (by omega)
      omega
theorem cnt_mono {s t : Nat} (h : ∀ j, s.testBit j = true → t.testBit j = true) : ∀ k, cnt s k ≤ cnt t k := by
  intro k
  induction k with
  | zero => exact Nat.le_refl 0
  | succ k ih =>
    show cnt s k + (if s.testBit k then 1 else 0) ≤ cnt t k + (if t.testBit k then 1 else 0)
    by_cases e : s.testBit k = true
    · rw [if_pos e, if_pos (h k e)]; omega
    · rw [if_neg e]; omega
theorem cnt_lt {s t q : Nat} (h : ∀ j, s.testBit j = true → t.testBit j = true) (h1 : ¬ s.testBit q = true) (h2 : t.testBit q = true) : ∀ k, q < k → cnt s k + 1 ≤ cnt t k := by
  intro k
  induction k with
  | zero => intro h; exact absurd h (Nat.not_lt_zero _)
  | succ k ih =>
    intro hk
    show cnt s k + (if s.testBit k then 1 else 0) + 1 ≤ cnt t k + (if t.testBit k then 1 else 0)
    by_cases e : q = k
    · rw [← e, if_neg h1, if_pos h2]
      have := cnt_mono h q
      omega
    · have := ih (by omega)
      by_cases e2 : s.testBit k = true
      · rw [if_pos e2, if_pos (h k e2)]; omega
      · rw [if_neg e2]; omega
def closed (E : Nat → Nat → Prop) (s : Nat) : Prop := ∀ p q, s.testBit p = true → E p q → s.testBit q = true
theorem or_same {s q : Nat} (h : s.testBit q = true) : s ||| 2 ^ q = s := by
  apply Nat.eq_of_testBit_eq
  intro j
  rw [Nat.testBit_or, bit_pow]
  by_cases e : q = j
  · rw [← e, h]; rfl
  · rw [decide_eq_false e, Bool.or_false]