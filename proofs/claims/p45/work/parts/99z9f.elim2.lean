/-! Elimination: what its numbers are. -/
def Dd (R : Nat → Nat → Rat) (r : Nat) : Rat := wed r R r (full r)
/-- column j in place of column p -/
def fc (p j : Nat) : Nat → Nat := fun c => if c = p then j else c
def El (R X : Nat → Nat → Rat) (m k : Nat) : Prop := Same R X m k ∧ (∀ a c, a < m → c < k → a ≠ c → X a c = 0) ∧ ∀ c, c < k → X c c ≠ 0 ∧ X c c * Dd R c = Dd R (c + 1)
theorem El.start {R : Nat → Nat → Rat} {m : Nat} : El R R m 0 := ⟨.rfl', fun _ _ _ h => absurd h (Nat.not_lt_zero _), fun _ h => absurd h (Nat.not_lt_zero _)⟩
theorem El.D {R X : Nat → Nat → Rat} {m k : Nat} (h : El R X m k) (hk : k ≤ m) : Dd R k = prodQ (fun a => X a a) k := by
  have e := (h.1 k (fun c => c) (full k) k (Nat.le_refl k) hk).1
  show wed k R k (full k) = _
  rw [show R = colR R (fun c => c) from rfl, ← e]
  exact wed_diag (i := k) k (Nat.le_refl k) fun a c h1 h2 h3 _ => h.2.1 a c (by omega) h2 h3
theorem El.D' {R X : Nat → Nat → Rat} {m k j : Nat} (h : El R X m k) (hk : k ≤ m) : wed (k + 1) (colR X (fc k j)) k (full k) = Dd R k := by
  rw [h.D hk, wed_diag (i := k) k (by omega) fun a c h1 h2 h3 _ => ?_]
  · exact prodQ_congr k fun a ha => by
      show X a (if a = k then j else a) = X a a
      rw [if_neg (by omega)]
  · show X a (if c = k then j else c) = 0
    rw [if_neg (by omega)]
    exact h.2.1 a c (by omega) h2 h3
/-- below: a bordered minor -/
theorem El.low {R X : Nat → Nat → Rat} {m k i j : Nat} (h : El R X m k) (hki : k ≤ i) (hi : i < m) : X i j * Dd R k = Wd (k + 1) (colR R (fc k j) i) (wed (k + 1) (colR R (fc k j)) k) (full (k + 1)) := by
  rw [← (h.1 (k + 1) (fc k j) (full (k + 1)) k (Nat.le_refl k) (by omega)).2 i hi]
  unfold Wd
  rw [sumQ_single (r := k) (k + 1) (by omega) fun c hc hn => ?_]
  · have hf : full (k + 1) k = true := decide_eq_true (by omega)
    rw [if_pos hf, abv_full, er_full, h.D' (by omega)]
    show X i j * Dd R k = sg 0 * X i (if k = k then j else k) * Dd R k
    rw [if_pos rfl, show sg 0 = 1 from rfl]
    grind
  · have hz : colR X (fc k j) i c = 0 := by
      show X i (if c = k then j else c) = 0
      rw [if_neg hn]
      exact h.2.1 i c hi (by omega) (by omega)
    rw [hz]
    split <;> grind
theorem El.pivot {R X : Nat → Nat → Rat} {m k : Nat} (h : El R X m k) (hk : k < m) : X k k * Dd R k = Dd R (k + 1) := by
  rw [h.low (Nat.le_refl k) hk]
  have e : colR R (fc k k) = R := by
    funext a c
    show R a (if c = k then k else c) = R a c
    by_cases e : c = k
    · rw [if_pos e, e]
    · rw [if_neg e]
  rw [e]
  rfl
theorem prodQ_swap {f g : Nat → Rat} {i : Nat} : ∀ k, i < k → (∀ a, a < k → a ≠ i → f a = g a) → prodQ f k * g i = prodQ g k * f i := by
  intro k
  induction k with
  | zero => intro h; exact absurd h (Nat.not_lt_zero _)
  | succ k ih =>
    intro hi h
    show prodQ f k * f k * g i = prodQ g k * g k * f i
    by_cases e : i = k
    · subst e
      rw [prodQ_congr (f := f) (g := g) i fun a ha => h a (by omega) (by omega)]
      grind
    · have := ih (by omega) fun a ha hn => h a (by omega) hn
      rw [h k (by omega) (fun h => e h.symm)]
      grind
/-- above: a minor with one column in place of another -/
theorem El.high {R X : Nat → Nat → Rat} {m k i j : Nat} (h : El R X m k) (hk : k ≤ m) (hi : i < k) : X i j * Dd R k = wed k (colR R (fc i j)) k (full k) * X i i := by
  rw [← (h.1 k (fc i j) (full k) k (Nat.le_refl k) hk).1, h.D hk]
  rw [wed_diag (i := i) k (Nat.le_refl k) fun a c h1 h2 h3 h4 => ?_]
  · have e := prodQ_swap (f := fun a => colR X (fc i j) a a) (g := fun a => X a a) (i := i) k hi fun a ha hn => by
      show X a (if a = i then j else a) = X a a
      rw [if_neg hn]
    rw [e]
    show X i j * prodQ (fun a => X a a) k = prodQ (fun a => X a a) k * X i (if i = i then j else i)
    rw [if_pos rfl]
    grind
  · show X a (if c = i then j else c) = 0
    rw [if_neg h4]
    exact h.2.1 a c (by omega) h2 h3
/-- the rows below n are done at step k -/
def stq (X : Nat → Nat → Rat) (k n : Nat) : Nat → Nat → Rat := fun a => if a < n ∧ a ≠ k then (fun q => X a q - X a k / X k k * X k q) else X a
theorem stq_k {X : Nat → Nat → Rat} {k n : Nat} : stq X k n k = X k := if_neg fun h => h.2 rfl
theorem stq_hi {X : Nat → Nat → Rat} {k n a : Nat} (h : n ≤ a) : stq X k n a = X a := if_neg fun z => by omega
theorem stq_lo {X : Nat → Nat → Rat} {k n a : Nat} (h : a < n) (h2 : a ≠ k) : stq X k n a = fun q => X a q - X a k / X k k * X k q := if_pos ⟨h, h2⟩
theorem stq_next {X : Nat → Nat → Rat} {k n : Nat} (h : n ≠ k) : stq X k (n + 1) = opR (stq X k n) n k (X n k / X k k) := by
  funext a
  show _ = (if a = n then (fun q => stq X k n n q - X n k / X k k * stq X k n k q) else stq X k n a)
  by_cases e : a = n
  · rw [if_pos e, e, stq_lo (by omega) h, stq_hi (Nat.le_refl n), stq_k]
  · rw [if_neg e]
    by_cases e2 : a < n ∧ a ≠ k
    · rw [stq_lo (by omega) e2.2, stq_lo e2.1 e2.2]
    · rw [show stq X k (n + 1) a = X a from if_neg fun z => e2 ⟨by omega, z.2⟩, show stq X k n a = X a from if_neg e2]
theorem stq_own {X : Nat → Nat → Rat} {k : Nat} : stq X k (k + 1) = stq X k k := by
  funext a
  by_cases e2 : a < k ∧ a ≠ k
  · rw [stq_lo (by omega) e2.2, stq_lo e2.1 e2.2]
  · rw [show stq X k (k + 1) a = X a from if_neg fun z => by omega, show stq X k k a = X a from if_neg e2]
theorem stq_same {R X : Nat → Nat → Rat} {m k : Nat} (hk : k < m) (h : Same R X m k) : ∀ n, n ≤ m → Same R (stq X k n) m (k + 1) := by
  intro n
  induction n with
  | zero =>
    intro _
    have e : stq X k 0 = X := by
      funext a
      exact stq_hi (Nat.zero_le a)
    rw [e]
    exact h.up
  | succ n ih =>
    intro hn
    by_cases e : n = k
    · subst e
      rw [stq_own]
      exact ih (by omega)
    · rw [stq_next e]
      exact (ih (by omega)).op hk (by omega) e
theorem El.step {R X : Nat → Nat → Rat} {m k : Nat} (h : El R X m k) (hk : k < m) (hD : Dd R (k + 1) ≠ 0) : X k k ≠ 0 ∧ El R (stq X k m) m (k + 1) := by
  have hp := h.pivot hk
  have hx : X k k ≠ 0 := fun z => hD (by rw [← hp, z]; grind)
  refine ⟨hx, stq_same hk h.1 m (Nat.le_refl m), fun a c ha hc hn => ?_, fun c hc => ?_⟩
  · by_cases e : a = k
    · rw [e, stq_k]
      exact h.2.1 k c hk (by omega) (by omega)
    · rw [stq_lo ha e]
      show X a c - X a k / X k k * X k c = 0
      by_cases e2 : c = k
      · rw [e2, Rat.div_mul_cancel hx]
        grind
      · rw [h.2.1 a c ha (by omega) hn, h.2.1 k c hk (by omega) (fun h => e2 h.symm)]
        grind
  · by_cases e : c = k
    · rw [e, stq_k]
      exact ⟨hx, hp⟩
    · have e2 : stq X k m c c = X c c := by
        rw [stq_lo (by omega) e]
        show X c c - X c k / X k k * X k c = X c c
        rw [h.2.1 k c hk (by omega) (fun h => e h.symm)]
        grind
      rw [e2]
      exact h.2.2 c (by omega)
/-- at the end: Cramer's answer -/
theorem El.answer {R X : Nat → Nat → Rat} {m i j : Nat} (h : El R X m m) (hi : i < m) (hD : Dd R m ≠ 0) : X i j / X i i = wed m (colR R (fc i j)) m (full m) / Dd R m := by
  have e := h.high (j := j) (Nat.le_refl m) hi
  have hx := (h.2.2 i hi).1
  generalize wed m (colR R (fc i j)) m (full m) = N at *
  generalize X i j = x at *
  generalize X i i = y at *
  generalize Dd R m = D at *
  grind
