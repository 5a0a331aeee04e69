/-! The reference: result, write. -/
theorem DDp (k : Nat) : (10000 : Int) ^ k = 10 ^ (4 * k) := by
  rw [Int.pow_mul, show (10 : Int) ^ 4 = 10000 by decide]
theorem dc4_math {n i : Nat} {t low v : Int} (hi : 1 ≤ i) (h1 : 10 ^ (i - 1) ≤ t) (h2 : t < 10 ^ i) (hl : 0 ≤ low ∧ low < 10 ^ (4 * n)) (hv : v = low + t * 10 ^ (4 * n)) : v < 10 ^ (4 * n + i) ∧ 10 ^ (4 * n + i - 1) ≤ v := by
  have hp := ten_pos (4 * n)
  constructor
  · rw [Int.pow_add, Int.mul_comm]
    have h3 : (t + 1) * 10 ^ (4 * n) ≤ 10 ^ i * 10 ^ (4 * n) := Int.mul_le_mul_of_nonneg_right h2 (Int.le_of_lt hp)
    rw [Int.add_mul, Int.one_mul] at h3
    omega
  · rw [show 4 * n + i - 1 = 4 * n + (i - 1) by omega, Int.pow_add, Int.mul_comm]
    have h3 : 10 ^ (i - 1) * 10 ^ (4 * n) ≤ t * 10 ^ (4 * n) := Int.mul_le_mul_of_nonneg_right h1 (Int.le_of_lt hp)
    omega
theorem da4_math {a rest low v : Int} {k m : Nat} (hm : m < 4) (hv : v = low + 10 ^ (4 * k) * (a + 10 ^ 4 * rest)) (hl : 0 ≤ low ∧ low < 10 ^ (4 * k)) : v / 10 ^ (4 * k + m) % 10 = a / 10 ^ m % 10 := by
  have hp := ten_pos (4 * k)
  have hq := ten_pos m
  have e9 : (10 : Int) ^ 4 = 10 ^ (3 - m) * 10 * 10 ^ m := by
    rw [← Int.pow_succ, ← Int.pow_add]
    congr 1
    omega
  have ea : 10 ^ m * (a / 10 ^ m) + a % 10 ^ m = a := Int.mul_ediv_add_emod _ _
  have m0 : 0 ≤ a % 10 ^ m := Int.emod_nonneg _ (by omega)
  have m1 : a % 10 ^ m < 10 ^ m := Int.emod_lt_of_pos _ hq
  generalize hx : a / 10 ^ m = x at *
  generalize hy : a % 10 ^ m = y at *
  have e1 : v = (x + 10 * (10 ^ (3 - m) * rest)) * (10 ^ (4 * k) * 10 ^ m) + (low + 10 ^ (4 * k) * y) := by
    rw [hv, e9, ← ea]; grind
  have y0 : 0 ≤ 10 ^ (4 * k) * y := Int.mul_nonneg (Int.le_of_lt hp) m0
  have y1 : 10 ^ (4 * k) * (y + 1) ≤ 10 ^ (4 * k) * 10 ^ m := Int.mul_le_mul_of_nonneg_left m1 (Int.le_of_lt hp)
  have y2 : 10 ^ (4 * k) * (y + 1) = 10 ^ (4 * k) * y + 10 ^ (4 * k) := by grind
  obtain ⟨q1, -⟩ := divq (U := v) (D := 10 ^ (4 * k) * 10 ^ m) (b := x + 10 * (10 ^ (3 - m) * rest)) (by omega) (by rw [Int.add_mul, Int.one_mul]; omega)
  rw [Int.pow_add, q1, Int.add_mul_emod_self_left]
theorem row_digit {M : Mem} {r p : Nat} {v : Int} (hv : Row M r v) (hp : p < 1200) : v / 10 ^ p % 10 = rd M r (p / 4) / 10 ^ (p % 4) % 10 := by
  have hs := hv.size
  have ep : 4 * (p / 4) + p % 4 = p := by omega
  have e20 := hv.at_ (m := 300) (by omega)
  rw [show 300 = p / 4 + (299 - p / 4 + 1) by omega, bs_split, sg_head, DDp] at e20
  have b1 := hv.1.bsl DD0 (p / 4)
  rw [DDp] at b1
  have := da4_math (k := p / 4) (m := p % 4) (by omega) e20 ⟨hv.1.bs0 DD0 _, b1⟩
  rw [ep] at this
  exact this
theorem Row.tape {M : Mem} {r : Nat} {v w : Int} {n : Nat} (h : Row M r v) : Row (upd2 (upd2 M 150 n w) 175 2 ((n : Int) + 1)) r v := by
  unfold Row rd at h ⊢
  rw [u2_off (by decide), u2_off (by decide), u2_off (by decide), u2_off (by decide)]
  exact h
theorem FM.puts {M : Mem} {n : Nat} {w : Int} : FM [150] [2] [] M (upd2 (upd2 M 150 n w) 175 2 ((n : Int) + 1)) := ((FM.cell (by decide) (by decide) (by decide) (by decide)).mono (by simp) (by simp) (by simp)).tr (FM.slot.mono (by simp) (by simp) (by simp))
theorem FQ.nn {M : Mem} {f : Nat} {q : Rat} (h : FQ M f q) (h0 : 0 ≤ q) : 0 ≤ M 165 f ∧ M 165 f ≤ 1 := by
  have hn : 0 ≤ q.num := Rat.num_nonneg.mpr h0
  rw [h.2.2]
  rcases sign_cases q.num with e | e | e
  · have := Int.sign_eq_neg_one_iff_neg.mp e; omega
  · omega
  · omega