/-! Bounds of quotients; the reference's elimination. -/
def Qb (e : Int) (x : Rat) : Prop := ∃ p q : Int, 0 < q ∧ q ≤ e ∧ -e ≤ p ∧ p ≤ e ∧ x * (q : Rat) = (p : Rat)
theorem Qb.mul {e f : Int} {x y : Rat} (h : Qb e x) (h2 : Qb f y) : Qb (e * f) (x * y) := by
  obtain ⟨p, q, q0, q1, p1, p2, hx⟩ := h
  obtain ⟨p', q', q0', q1', p1', p2', hy⟩ := h2
  have m := abs_mul_le ⟨p1, p2⟩ ⟨p1', p2'⟩
  refine ⟨p * p', q * q', Int.mul_pos q0 q0', Int.mul_le_mul q1 q1' (by omega) (by omega), m.1, m.2, ?_⟩
  rw [Rat.intCast_mul, Rat.intCast_mul, ← hx, ← hy]
  grind
theorem qd_pos {x y a b : Rat} (hy : y ≠ 0) : x / y * (a * (y * b)) = x * a * b := by grind
theorem qd_neg {x y a b : Rat} (hy : y ≠ 0) : x / y * (a * -(y * b)) = -(x * a * b) := by grind
theorem int_ne {z : Int} (h : z ≠ 0) : ((z : Int) : Rat) ≠ 0 := fun e => h (Rat.intCast_inj.mp (e.trans (show (0 : Rat) = ((0 : Int) : Rat) from rfl)))
theorem Qb.div {e f : Int} {x y : Rat} (h : Qb e x) (h2 : Qb f y) (hy0 : y ≠ 0) : Qb (e * f) (x / y) := by
  obtain ⟨p, q, q0, q1, p1, p2, hx⟩ := h
  obtain ⟨p', q', q0', q1', p1', p2', hy⟩ := h2
  have hp' : p' ≠ 0 := by
    intro z
    rw [z] at hy
    rcases Rat.mul_eq_zero.mp hy with a | a
    · exact hy0 a
    · exact int_ne (show q' ≠ 0 by omega) a
  have m1 := abs_mul_le ⟨p1, p2⟩ (show -f ≤ q' ∧ q' ≤ f from ⟨by omega, q1'⟩)
  rcases Int.lt_or_gt_of_ne hp' with z | z
  · refine ⟨-(p * q'), q * (-p'), Int.mul_pos q0 (by omega), Int.mul_le_mul q1 (by omega) (by omega) (by omega), by omega, by omega, ?_⟩
    rw [Rat.intCast_mul, Rat.intCast_neg, Rat.intCast_neg, Rat.intCast_mul, ← hx, ← hy]
    exact qd_neg hy0
  · refine ⟨p * q', q * p', Int.mul_pos q0 (by omega), Int.mul_le_mul q1 (by omega) (by omega) (by omega), m1.1, m1.2, ?_⟩
    rw [Rat.intCast_mul, Rat.intCast_mul, ← hx, ← hy]
    exact qd_pos hy0
theorem Qb.mono {e f : Int} {x : Rat} (h : Qb e x) (hf : e ≤ f) : Qb f x := by
  obtain ⟨p, q, q0, q1, p1, p2, hx⟩ := h
  exact ⟨p, q, q0, by omega, by omega, by omega, hx⟩
theorem Qb.bd {e : Int} {x : Rat} {k : Nat} (h : Qb e x) (hk : e < 10000 ^ k) : Bd x k := by
  obtain ⟨p, q, q0, q1, p1, p2, hx⟩ := h
  obtain ⟨y, rfl⟩ : ∃ y : Nat, q = y := ⟨q.toNat, by omega⟩
  have hy : 0 < y := by omega
  have ex : x = mkRat p y := by
    rw [Rat.mkRat_eq_div]
    have h1 : (((y : Nat) : Int) : Rat) ≠ 0 := int_ne (by omega)
    have h2 : (((y : Nat) : Int) : Rat) = (y : Rat) := rfl
    rw [h2] at h1 hx
    rw [← hx]
    generalize (y : Rat) = u at *
    grind
  rw [ex]
  obtain ⟨e1, e2, _⟩ := mk_parts (s := p.sign) (n := p) (p := p.natAbs) hy (sign_cases p) (fun e => by rw [Int.sign_eq_zero_iff_zero.mp e]; rfl) (sign_natAbs p)
  have h1 : p.natAbs / Nat.gcd p.natAbs y ≤ p.natAbs := Nat.div_le_self _ _
  have h2 : y / Nat.gcd p.natAbs y ≤ y := Nat.div_le_self _ _
  refine ⟨?_, ?_⟩
  · rw [e1]; omega
  · rw [e2]; omega
theorem Wd_D {W : Nat} {r : Nat → Rat} {w : (Nat → Bool) → Rat} {S : Nat → Bool} {D P : Rat} : Wd W r w S * (P * D) = Wd W (fun c => r c * D) (fun S => w S * P) S := by
  unfold Wd
  rw [Rat.mul_comm, ← sumQ_mul]
  refine sumQ_congr W fun c _ => ?_
  by_cases e : S c = true
  · rw [if_pos e, if_pos e]; grind
  · rw [if_neg e, if_neg e]; grind
theorem wed_D {W : Nat} {T : Nat → Nat → Rat} {D : Rat} : ∀ k S, wed W T k S * D ^ k = wed W (fun a c => T a c * D) k S := by
  intro k
  induction k with
  | zero => intro S; show (1 : Rat) * D ^ 0 = 1; rw [Rat.pow_zero]; grind
  | succ k ih =>
    intro S
    show Wd W (T k) (wed W T k) S * D ^ (k + 1) = Wd W (fun c => T k c * D) (wed W (fun a c => T a c * D) k) S
    rw [Rat.pow_succ, Wd_D]
    exact Wd_congr (fun S' => ih S') S
theorem pw_base {a b : Int} (h0 : 0 ≤ a) (h : a ≤ b) : ∀ k : Nat, a ^ k ≤ b ^ k := by
  intro k
  induction k with
  | zero => rw [Int.pow_zero, Int.pow_zero]; exact Int.le_refl 1
  | succ k ih =>
    rw [Int.pow_succ, Int.pow_succ]
    exact Int.mul_le_mul ih h h0 (Int.pow_nonneg (by omega))
def Eb : Int := 8000000 ^ 8
theorem cast_pow (D : Int) : ∀ k : Nat, (((D ^ k : Int)) : Rat) = (D : Rat) ^ k := by
  intro k
  induction k with
  | zero => rw [Int.pow_zero, Rat.pow_zero]; rfl
  | succ k ih => rw [Int.pow_succ, Rat.pow_succ, Rat.intCast_mul, ih]
theorem wed_Qb {W k : Nat} {T : Nat → Nat → Rat} {D : Int} (hW : W ≤ 8) (hk : k ≤ 8) (hD : 1 ≤ D ∧ D ≤ 8000000) (hT : ∀ a c, a < k → c < W → Wh (T a c * (D : Rat)) 1000000) (S : Nat → Bool) : Qb Eb (wed W T k S) := by
  obtain ⟨z, z1, z2, z3⟩ := wed_whole (R := fun a c => T a c * (D : Rat)) (a := 1000000) (by decide) k hT S
  rw [← wed_D, ← cast_pow] at z1
  have b1 : ((W : Int) * 1000000) ^ k ≤ 8000000 ^ k := pw_base (by omega) (by omega) k
  have b2 : (8000000 : Int) ^ k ≤ 8000000 ^ 8 := pw_mono (by decide) hk
  have b3 : D ^ k ≤ 8000000 ^ k := pw_base (by omega) hD.2 k
  have b4 : 0 < D ^ k := Int.pow_pos (by omega)
  exact ⟨z, D ^ k, b4, by unfold Eb; omega, by unfold Eb; omega, by unfold Eb; omega, z1⟩
theorem Wd_Qb {W k i : Nat} {T : Nat → Nat → Rat} {D : Int} (hW : W ≤ 8) (hk : k + 1 ≤ 8) (hD : 1 ≤ D ∧ D ≤ 8000000) (hT : ∀ a c, a < k ∨ a = i → c < W → Wh (T a c * (D : Rat)) 1000000) (S : Nat → Bool) : Qb Eb (Wd W (T i) (wed W T k) S) := by
  have h := wed_Qb (T := upR T k (T i)) (k := k + 1) hW hk hD (fun a c ha hc => by
    by_cases e : a = k
    · rw [e, show upR T k (T i) k = T i from if_pos rfl]
      exact hT i c (Or.inr rfl) hc
    · rw [show upR T k (T i) a = T a from if_neg e]
      exact hT a c (Or.inl (by omega)) hc) S
  have e : wed W (upR T k (T i)) (k + 1) = Wd W (T i) (wed W T k) := by
    show Wd W (upR T k (T i) k) (wed W (upR T k (T i)) k) = _
    rw [show upR T k (T i) k = T i from if_pos rfl, wed_off k (Nat.le_refl k)]
  rw [e] at h
  exact h
theorem Eb_r : (1 : Int) ≤ Eb ∧ Eb * Eb ≤ Eb * Eb * (Eb * Eb) ∧ Eb * Eb * (Eb * Eb) < 10000 ^ 56 ∧ Eb * Eb * (Eb * Eb) * (Eb * Eb * (Eb * Eb)) < 10000 ^ 112 ∧ Eb * Eb * (Eb * Eb) * (Eb * Eb * (Eb * Eb)) * (Eb * Eb * (Eb * Eb)) < 10000 ^ 168 := by decide +kernel
theorem El.qb {R X : Nat → Nat → Rat} {m k i j : Nat} {D : Int} (h : El R X m k) (hk : k ≤ m) (hm : m ≤ 7) (hi : i < m) (hj : j ≤ m) (hD : 1 ≤ D ∧ D ≤ 8000000) (hT : ∀ a c, a < m → c ≤ m → Wh (R a c * (D : Rat)) 1000000) (hne : ∀ r, r ≤ k → Dd R r ≠ 0) : Qb (Eb * Eb * (Eb * Eb)) (X i j) := by
  have qD : ∀ r, r ≤ m → Qb Eb (Dd R r) := fun r hr => wed_Qb (by omega) (by omega) hD (fun a c ha hc => hT a c (by omega) (by omega)) _
  have dk := hne k (Nat.le_refl k)
  by_cases e : k ≤ i
  · have hl := h.low (j := j) e hi
    have q1 : Qb Eb (Wd (k + 1) (colR R (fc k j) i) (wed (k + 1) (colR R (fc k j)) k) (full (k + 1))) := Wd_Qb (by omega) (by omega) hD (fun a c ha hc => by
      show Wh (R a (if c = k then j else c) * (D : Rat)) 1000000
      refine hT a _ (by omega) ?_
      split <;> omega) _
    rw [← hl] at q1
    have q2 := q1.div (qD k hk) dk
    have e2 : X i j * Dd R k / Dd R k = X i j := by generalize X i j = u at *; generalize Dd R k = v at *; grind
    rw [e2] at q2
    exact q2.mono Eb_r.2.1
  · have hl := h.high (j := j) hk (show i < k by omega)
    have q1 : Qb Eb (wed k (colR R (fc i j)) k (full k)) := wed_Qb (by omega) (by omega) hD (fun a c ha hc => by
      show Wh (R a (if c = i then j else c) * (D : Rat)) 1000000
      refine hT a _ (by omega) ?_
      split <;> omega) _
    have hx := (h.2.2 i (by omega)).2
    have q2 := (qD (i + 1) (by omega)).div (qD i (by omega)) (hne i (by omega))
    have q3 := (q1.div (qD k hk) dk).mul q2
    have di := hne i (by omega)
    have e2 : wed k (colR R (fc i j)) k (full k) / Dd R k * (Dd R (i + 1) / Dd R i) = X i j := by
      rw [← hx]
      generalize wed k (colR R (fc i j)) k (full k) = w at *
      generalize X i j = u at *
      generalize X i i = t at *
      generalize Dd R k = v at *
      generalize Dd R i = s at *
      grind
    rw [e2] at q3
    exact q3
/-- the fractions that elimination writes -/
abbrev solF : List Nat := List.range 67
theorem FR.sol {M M' : Mem} {i : Nat} (h : FR [i] M M') (hi : i < 67) : FR solF M M' := h.mono fun a ha => by
  simp at ha ⊢
  omega
def TQ (M : Mem) (n : Nat) (X : Nat → Nat → Rat) : Prop := ∀ a c, a < n → c ≤ n → FQ M (8 * a + c) (X a c)
theorem FQ.sgr {M : Mem} {f : Nat} {q : Rat} (h : FQ M f q) : R32 (M 165 f) := by
  have := h.sg
  exact ⟨by omega, by omega⟩
theorem FQ.zero {M : Mem} {f : Nat} {q : Rat} (h : FQ M f q) : M 165 f = 0 ↔ q = 0 := by
  rw [h.2.2, Int.sign_eq_zero_iff_zero, Rat.num_eq_zero]