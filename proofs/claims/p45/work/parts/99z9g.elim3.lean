/-! Sums in order; what elimination keeps of signs, of kernels, of bounds. -/
theorem sumQ_le {f g : Nat → Rat} : ∀ m, (∀ k, k < m → f k ≤ g k) → sumQ f m ≤ sumQ g m := by
  intro m
  induction m with
  | zero => intro _; exact Rat.le_refl
  | succ m ih =>
    intro h
    show sumQ f m + f m ≤ sumQ g m + g m
    have a := ih fun k hk => h k (by omega)
    have b := h m (by omega)
    grind
theorem sumQ_nonneg {f : Nat → Rat} : ∀ m, (∀ k, k < m → 0 ≤ f k) → 0 ≤ sumQ f m := by
  intro m
  induction m with
  | zero => intro _; exact Rat.le_refl
  | succ m ih =>
    intro h
    show 0 ≤ sumQ f m + f m
    have a := ih fun k hk => h k (by omega)
    have b := h m (by omega)
    grind
theorem sumQ_pos {f : Nat → Rat} {r : Nat} : ∀ m, (∀ k, k < m → 0 ≤ f k) → r < m → 0 < f r → 0 < sumQ f m := by
  intro m
  induction m with
  | zero => intro _ h; exact absurd h (Nat.not_lt_zero _)
  | succ m ih =>
    intro h hr hp
    show 0 < sumQ f m + f m
    by_cases e : r = m
    · have a := sumQ_nonneg (f := f) m fun k hk => h k (by omega)
      rw [e] at hp
      grind
    · have a := ih (fun k hk => h k (by omega)) (by omega) hp
      have b := h m (by omega)
      grind
theorem sumQ_lin {f g : Nat → Rat} {c : Rat} (m : Nat) : sumQ (fun k => f k - c * g k) m = sumQ f m - c * sumQ g m := by
  induction m with
  | zero => show (0 : Rat) = 0 - c * 0; grind
  | succ m ih => show sumQ (fun k => f k - c * g k) m + (f m - c * g m) = sumQ f m + f m - c * (sumQ g m + g m); rw [ih]; grind
/-- off the diagonal nothing above 0 -/
def Off (X : Nat → Nat → Rat) (m : Nat) : Prop := ∀ a c, a < m → c < m → a ≠ c → X a c ≤ 0
theorem Off.fac {X : Nat → Nat → Rat} {m k a : Nat} (h : Off X m) (hk : k < m) (hp : 0 < X k k) (ha : a < m) (hak : a ≠ k) : X a k / X k k ≤ 0 ∧ X a k / X k k * X k k = X a k := by
  have e : X a k / X k k * X k k = X a k := Rat.div_mul_cancel (by grind)
  refine ⟨Rat.not_lt.mp fun z => ?_, e⟩
  have := Rat.mul_pos z hp
  rw [e] at this
  exact absurd this (Rat.not_lt.mpr (h a k ha hk hak))
theorem Off.step {X : Nat → Nat → Rat} {m k : Nat} (h : Off X m) (hk : k < m) (hp : 0 < X k k) : Off (stq X k m) m := by
  intro a c ha hc hac
  by_cases e : a = k
  · subst e
    rw [stq_k]
    exact h a c ha hc hac
  · rw [stq_lo ha e]
    obtain ⟨f1, f2⟩ := h.fac hk hp ha e
    show X a c - X a k / X k k * X k c ≤ 0
    by_cases e2 : c = k
    · subst e2
      rw [f2]
      grind
    · have h1 := h a c ha hc hac
      have h2 := h k c hk hc (fun z => e2 z.symm)
      generalize X a k / X k k = f at *
      have := Rat.mul_nonneg (show 0 ≤ -f by grind) (show 0 ≤ -X k c by grind)
      grind
theorem Off.rhs {X : Nat → Nat → Rat} {m k p : Nat} (h : Off X m) (hk : k < m) (hp : 0 < X k k) (hr : ∀ a, a < m → 0 ≤ X a p) : ∀ a, a < m → 0 ≤ stq X k m a p := by
  intro a ha
  by_cases e : a = k
  · subst e
    rw [stq_k]
    exact hr a ha
  · rw [stq_lo ha e]
    obtain ⟨f1, f2⟩ := h.fac hk hp ha e
    show 0 ≤ X a p - X a k / X k k * X k p
    have h1 := hr a ha
    have h2 := hr k hk
    generalize X a k / X k k = f at *
    have := Rat.mul_nonneg (show 0 ≤ -f by grind) h2
    grind
theorem sum_at {f : Nat → Rat} {g : Rat} {m k : Nat} (hk : k < m) (h0 : ∀ c, c < m → c ≠ k → f c ≤ 0) (hg : f k = g) (hs : 0 < sumQ f m) : 0 < g := by
  have h2 : sumQ f m ≤ sumQ (fun c => if c = k then g else 0) m := by
    refine sumQ_le m fun c hc => ?_
    by_cases e : c = k
    · rw [if_pos e, e, hg]; exact Rat.le_refl
    · rw [if_neg e]; exact h0 c hc e
  rw [sumQ_single (r := k) m hk (fun c hc hn => if_neg hn), if_pos rfl] at h2
  grind
/-- weighed, each row is above 0 -/
def Mx (X : Nat → Nat → Rat) (m : Nat) (x : Nat → Rat) : Prop := Off X m ∧ ∀ a, a < m → 0 < sumQ (fun c => X a c * x c) m
theorem Mx.pivot {X : Nat → Nat → Rat} {m k : Nat} {x : Nat → Rat} (h : Mx X m x) (hx : ∀ c, c < m → 0 < x c) (hk : k < m) : 0 < X k k := by
  have h3 : 0 < X k k * x k := sum_at (f := fun c => X k c * x c) hk (fun c hc hn => by
    have a := h.1 k c hk hc (fun z => hn z.symm)
    have b := Rat.mul_nonneg (show 0 ≤ -X k c by grind) (Rat.le_of_lt (hx c hc))
    show X k c * x c ≤ 0
    grind) rfl (h.2 k hk)
  exact (Rat.mul_pos_iff_of_pos_right (hx k hk)).mp h3
theorem Mx.step {X : Nat → Nat → Rat} {m k : Nat} {x : Nat → Rat} (h : Mx X m x) (hk : k < m) (hp : 0 < X k k) : Mx (stq X k m) m x := by
  refine ⟨h.1.step hk hp, fun a ha => ?_⟩
  by_cases e : a = k
  · subst e
    rw [stq_k]
    exact h.2 a ha
  · rw [stq_lo ha e]
    obtain ⟨f1, f2⟩ := h.1.fac hk hp ha e
    have h1 := h.2 a ha
    have h2 := h.2 k hk
    generalize X a k / X k k = f at *
    have e3 : sumQ (fun c => (X a c - f * X k c) * x c) m = sumQ (fun c => X a c * x c) m - f * sumQ (fun c => X k c * x c) m := by
      rw [← sumQ_lin]
      refine sumQ_congr m fun c _ => ?_
      grind
    show 0 < sumQ (fun c => (X a c - f * X k c) * x c) m
    rw [e3]
    have := Rat.mul_nonneg (show 0 ≤ -f by grind) (Rat.le_of_lt h2)
    grind
/-- the same by columns: of the rows from k on -/
def MT (X : Nat → Nat → Rat) (m k : Nat) (y : Nat → Rat) : Prop := Off X m ∧ ∀ c, k ≤ c → c < m → 0 < sumQ (fun a => if k ≤ a then y a * X a c else 0) m
theorem MT.pivot {X : Nat → Nat → Rat} {m k : Nat} {y : Nat → Rat} (h : MT X m k y) (hy : ∀ c, c < m → 0 < y c) (hk : k < m) : 0 < X k k := by
  have h3 : 0 < y k * X k k := sum_at (f := fun a => if k ≤ a then y a * X a k else 0) hk (fun a ha hn => by
    show (if k ≤ a then y a * X a k else 0) ≤ 0
    by_cases e : k ≤ a
    · rw [if_pos e]
      have b := Rat.mul_nonneg (Rat.le_of_lt (hy a ha)) (show 0 ≤ -X a k by have := h.1 a k ha hk hn; grind)
      grind
    · rw [if_neg e]; exact Rat.le_refl) (if_pos (Nat.le_refl k)) (h.2 k (Nat.le_refl k) hk)
  exact (Rat.mul_pos_iff_of_pos_left (hy k hk)).mp h3
theorem MT.step {X : Nat → Nat → Rat} {m k : Nat} {y : Nat → Rat} (h : MT X m k y) (hk : k < m) (hp : 0 < X k k) : MT (stq X k m) m (k + 1) y := by
  refine ⟨h.1.step hk hp, fun c hkc hc => ?_⟩
  have h1 := h.2 c (by omega) hc
  have h2 := h.2 k (Nat.le_refl k) hk
  have hn : X k k ≠ 0 := by grind
  have g2 : X k c / X k k * X k k = X k c := Rat.div_mul_cancel hn
  have g1 : X k c / X k k ≤ 0 := Rat.not_lt.mp fun z => by
    have := Rat.mul_pos z hp
    rw [g2] at this
    exact absurd this (Rat.not_lt.mpr (h.1 k c hk hc (by omega)))
  have e3 : sumQ (fun a => if k + 1 ≤ a then y a * stq X k m a c else 0) m = sumQ (fun a => if k ≤ a then y a * X a c else 0) m - X k c / X k k * sumQ (fun a => if k ≤ a then y a * X a k else 0) m := by
    rw [← sumQ_lin]
    refine sumQ_congr m fun a ha => ?_
    by_cases e : k + 1 ≤ a
    · rw [if_pos e, if_pos (show k ≤ a by omega), if_pos (show k ≤ a by omega), stq_lo ha (by omega)]
      show y a * (X a c - X a k / X k k * X k c) = y a * X a c - X k c / X k k * (y a * X a k)
      grind
    · by_cases e2 : a = k
      · subst e2
        rw [if_neg e, if_pos (Nat.le_refl a), if_pos (Nat.le_refl a)]
        generalize X a c / X a a = g at *
        rw [← g2]
        grind
      · rw [if_neg e, if_neg (show ¬ k ≤ a by omega), if_neg (show ¬ k ≤ a by omega)]
        grind
  rw [e3]
  generalize X k c / X k k = g at *
  have := Rat.mul_nonneg (show 0 ≤ -g by grind) (Rat.le_of_lt h2)
  grind
theorem Dd_zero {R : Nat → Nat → Rat} : Dd R 0 = 1 := rfl
theorem Mx.go {R : Nat → Nat → Rat} {m : Nat} {x : Nat → Rat} (h : Mx R m x) (hx : ∀ c, c < m → 0 < x c) : ∀ k, k ≤ m → (∃ X, El R X m k ∧ Mx X m x ∧ ∀ p, (∀ a, a < m → 0 ≤ R a p) → ∀ a, a < m → 0 ≤ X a p) ∧ ∀ j, j ≤ k → 0 < Dd R j := by
  intro k
  induction k with
  | zero =>
    intro _
    refine ⟨⟨R, .start, h, fun _ h => h⟩, fun j hj => ?_⟩
    rw [show j = 0 by omega, Dd_zero]
    grind
  | succ k ih =>
    intro hk
    obtain ⟨⟨X, x1, x2, x3⟩, hD⟩ := ih (by omega)
    have hp := x2.pivot hx (show k < m by omega)
    have hD2 : 0 < Dd R (k + 1) := by
      rw [← x1.pivot (show k < m by omega)]
      exact Rat.mul_pos hp (hD k (Nat.le_refl k))
    refine ⟨⟨stq X k m, (x1.step (by omega) (by grind)).2, x2.step (by omega) hp, fun p hr => x2.1.rhs (by omega) hp (x3 p hr)⟩, fun j hj => ?_⟩
    by_cases e : j = k + 1
    · rw [e]; exact hD2
    · exact hD j (by omega)
theorem MT.go {R : Nat → Nat → Rat} {m : Nat} {y : Nat → Rat} (h : MT R m 0 y) (hy : ∀ c, c < m → 0 < y c) : ∀ k, k ≤ m → (∃ X, El R X m k ∧ MT X m k y ∧ ∀ p, (∀ a, a < m → 0 ≤ R a p) → ∀ a, a < m → 0 ≤ X a p) ∧ ∀ j, j ≤ k → 0 < Dd R j := by
  intro k
  induction k with
  | zero =>
    intro _
    refine ⟨⟨R, .start, h, fun _ h => h⟩, fun j hj => ?_⟩
    rw [show j = 0 by omega, Dd_zero]
    grind
  | succ k ih =>
    intro hk
    obtain ⟨⟨X, x1, x2, x3⟩, hD⟩ := ih (by omega)
    have hp := x2.pivot hy (show k < m by omega)
    have hD2 : 0 < Dd R (k + 1) := by
      rw [← x1.pivot (show k < m by omega)]
      exact Rat.mul_pos hp (hD k (Nat.le_refl k))
    refine ⟨⟨stq X k m, (x1.step (by omega) (by grind)).2, x2.step (by omega) hp, fun p hr => x2.1.rhs (by omega) hp (x3 p hr)⟩, fun j hj => ?_⟩
    by_cases e : j = k + 1
    · rw [e]; exact hD2
    · exact hD j (by omega)
/-- the answers are not below 0 -/
theorem ans_nn {R X : Nat → Nat → Rat} {m i p : Nat} (h : El R X m m) (hi : i < m) (hD : 0 < Dd R m) (hx : 0 < X i i) (h0 : 0 ≤ X i p) : 0 ≤ wed m (colR R (fc i p)) m (full m) := by
  have e := h.high (j := p) (Nat.le_refl m) hi
  have h1 := Rat.mul_nonneg h0 (Rat.le_of_lt hD)
  rw [e] at h1
  refine Rat.not_lt.mp fun z => ?_
  have := Rat.mul_pos (show 0 < -wed m (colR R (fc i p)) m (full m) by grind) hx
  grind
theorem Mx.nn {R : Nat → Nat → Rat} {m i p : Nat} {x : Nat → Rat} (h : Mx R m x) (hx : ∀ c, c < m → 0 < x c) (hi : i < m) (hr : ∀ a, a < m → 0 ≤ R a p) : 0 ≤ wed m (colR R (fc i p)) m (full m) := by
  obtain ⟨⟨X, x1, x2, x3⟩, hD⟩ := h.go hx m (Nat.le_refl m)
  exact ans_nn x1 hi (hD m (Nat.le_refl m)) (x2.pivot hx hi) (x3 p hr i hi)
theorem MT.nn {R : Nat → Nat → Rat} {m i p : Nat} {y : Nat → Rat} (h : MT R m 0 y) (hy : ∀ c, c < m → 0 < y c) (hi : i < m) (hr : ∀ a, a < m → 0 ≤ R a p) : 0 ≤ wed m (colR R (fc i p)) m (full m) := by
  obtain ⟨⟨X, x1, x2, x3⟩, hD⟩ := h.go hy m (Nat.le_refl m)
  have hd := hD m (Nat.le_refl m)
  have hxi : 0 < X i i := by
    have h1 := (x1.2.2 i hi).2
    have h2 := hD i (by omega)
    have h3 := hD (i + 1) (by omega)
    rw [← h1] at h3
    exact (Rat.mul_pos_iff_of_pos_right h2).mp h3
  exact ans_nn x1 hi hd hxi (x3 p hr i hi)
/-- the rows give 0 with z -/
def Kz (X : Nat → Nat → Rat) (r n : Nat) (z : Nat → Rat) : Prop := ∀ a, a < r → sumQ (fun c => X a c * z c) n = 0
theorem Kz.stp {X : Nat → Nat → Rat} {m k r n : Nat} {z : Nat → Rat} (hr : k < r) (hrm : r ≤ m) : Kz (stq X k m) r n z ↔ Kz X r n z := by
  have e3 : ∀ a, a < r → a ≠ k → sumQ (fun c => stq X k m a c * z c) n = sumQ (fun c => X a c * z c) n - X a k / X k k * sumQ (fun c => X k c * z c) n := by
    intro a ha hn
    rw [← sumQ_lin]
    refine sumQ_congr n fun c _ => ?_
    rw [stq_lo (show a < m by omega) hn]
    show (X a c - X a k / X k k * X k c) * z c = _
    grind
  constructor
  · intro h a ha
    have hk := h k hr
    rw [stq_k] at hk
    by_cases e : a = k
    · rw [e]; exact hk
    · have := h a ha
      rw [e3 a ha e, hk] at this
      grind
  · intro h a ha
    by_cases e : a = k
    · rw [e, stq_k]; exact h k hr
    · rw [e3 a ha e, h a ha, h k hr]
      grind
theorem El.go {R : Nat → Nat → Rat} {m : Nat} : ∀ k, k ≤ m → (∀ j, j ≤ k → Dd R j ≠ 0) → ∃ X, El R X m k ∧ ∀ r n z, k ≤ r → r ≤ m → (Kz X r n z ↔ Kz R r n z) := by
  intro k
  induction k with
  | zero => intro _ _; exact ⟨R, .start, fun _ _ _ _ _ => Iff.rfl⟩
  | succ k ih =>
    intro hk hD
    obtain ⟨X, x1, x2⟩ := ih (by omega) fun j hj => hD j (by omega)
    exact ⟨_, (x1.step (by omega) (hD (k + 1) (Nat.le_refl _))).2, fun r n z h1 h2 => (Kz.stp (by omega) h2).trans (x2 r n z (by omega) h2)⟩
/-- only 0 goes to 0, by the first k rows and columns -/
def Tk (R : Nat → Nat → Rat) (k : Nat) : Prop := ∀ z, Kz R k k z → ∀ c, c < k → z c = 0
theorem Dd_ne {R : Nat → Nat → Rat} {m : Nat} (h : ∀ k, k < m → Tk R (k + 1)) : ∀ k, k ≤ m → ∀ j, j ≤ k → Dd R j ≠ 0 := by
  intro k
  induction k with
  | zero => intro _ j hj; rw [show j = 0 by omega, Dd_zero]; grind
  | succ k ih =>
    intro hk j hj
    by_cases e : j = k + 1
    · subst e
      obtain ⟨X, x1, x2⟩ := El.go (R := R) (m := m) k (by omega) (ih (by omega))
      intro h0
      have hp := x1.pivot (show k < m by omega)
      rw [h0] at hp
      have hk0 : X k k = 0 := by
        rcases Rat.mul_eq_zero.mp hp with z | z
        · exact z
        · exact absurd z (ih (by omega) k (Nat.le_refl k))
      have hz : Kz X (k + 1) (k + 1) (fun c => if c < k then -(X c k / X c c) else 1) := by
        intro a ha
        show sumQ (fun c => X a c * (if c < k then -(X c k / X c c) else 1)) k + X a k * (if k < k then -(X k k / X k k) else 1) = 0
        rw [if_neg (Nat.lt_irrefl k)]
        by_cases e : a < k
        · rw [sumQ_single (r := a) k e fun c hc hn => ?_]
          · rw [if_pos e]
            have hx := (x1.2.2 a e).1
            grind
          · rw [x1.2.1 a c (by omega) (by omega) (fun z => hn z.symm)]; grind
        · have e2 : a = k := by omega
          subst e2
          rw [hk0, sumQ_zero a fun c hc => ?_]
          · grind
          · rw [x1.2.1 a c (by omega) hc (by omega)]; grind
      have := h k (by omega) _ ((x2 (k + 1) (k + 1) _ (by omega) (by omega)).mp hz) k (by omega)
      rw [if_neg (Nat.lt_irrefl k)] at this
      grind
    · exact ih (by omega) j (by omega)
/-- Cramer's answers -/
def ansQ (R : Nat → Nat → Rat) (m i : Nat) : Rat := wed m (colR R (fc i m)) m (full m) / Dd R m
theorem ans_uniq {R : Nat → Nat → Rat} {m : Nat} (hD : ∀ j, j ≤ m → Dd R j ≠ 0) {z : Nat → Rat} (hz : Kz R m (m + 1) z) (hm : z m = -1) {i : Nat} (hi : i < m) : z i = ansQ R m i := by
  obtain ⟨X, x1, x2⟩ := El.go (R := R) m (Nat.le_refl m) hD
  have h1 := (x2 m (m + 1) z (Nat.le_refl m) (Nat.le_refl m)).mpr hz i hi
  have h2 := x1.answer (j := m) hi (hD m (Nat.le_refl m))
  have hx := (x1.2.2 i hi).1
  show z i = wed m (colR R (fc i m)) m (full m) / Dd R m
  rw [← h2]
  have h3 : sumQ (fun c => X i c * z c) m + X i m * z m = 0 := h1
  rw [sumQ_single (r := i) m hi fun c hc hn => ?_, hm] at h3
  · grind
  · rw [x1.2.1 i c hi hc (fun z => hn z.symm)]; grind
theorem ans_is {R : Nat → Nat → Rat} {m : Nat} (hD : ∀ j, j ≤ m → Dd R j ≠ 0) : Kz R m (m + 1) (fun c => if c < m then ansQ R m c else -1) := by
  obtain ⟨X, x1, x2⟩ := El.go (R := R) m (Nat.le_refl m) hD
  refine (x2 m (m + 1) _ (Nat.le_refl m) (Nat.le_refl m)).mp fun a ha => ?_
  show sumQ (fun c => X a c * (if c < m then ansQ R m c else -1)) m + X a m * (if m < m then ansQ R m m else -1) = 0
  have hx := (x1.2.2 a ha).1
  have h2 := x1.answer (j := m) ha (hD m (Nat.le_refl m))
  rw [if_neg (Nat.lt_irrefl m), sumQ_single (r := a) m ha fun c hc hn => ?_]
  · rw [if_pos ha]
    show X a a * (wed m (colR R (fc a m)) m (full m) / Dd R m) + X a m * -1 = 0
    rw [← h2]
    grind
  · rw [x1.2.1 a c ha hc (fun z => hn z.symm)]; grind
