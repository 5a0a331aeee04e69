/-! Sets of states as bits; who leads to whom. -/
theorem bit_and {s j : Nat} (hs : s < 128) (hj : j < 32) : zand ((s : Int) / 2 ^ ((j : Int).toNat)) 1 = if s.testBit j then 1 else 0 := by
  rw [Int.toNat_natCast]
  have e : (s : Int) / 2 ^ j = ((s / 2 ^ j : Nat) : Int) := by push_cast; rfl
  rw [e]
  have hlt : s / 2 ^ j ≤ s := Nat.div_le_self _ _
  rw [Nat.testBit_eq_decide_div_mod_eq]
  generalize s / 2 ^ j = u at *
  unfold zand
  rw [show ((u : Int) % 4294967296).toNat = u by omega, show ((1 : Int) % 4294967296).toNat = 1 from rfl, Nat.and_one_is_mod]
  by_cases h : u % 2 = 1
  · rw [h]; simp
  · rw [show u % 2 = 0 by omega]; simp
theorem bit_or {s t : Nat} (hs : s < 128) (ht : t < 128) : zor (s : Int) (t : Int) = ((s ||| t : Nat) : Int) ∧ s ||| t < 128 := by
  unfold zor
  rw [show ((s : Int) % 4294967296).toNat = s by omega, show ((t : Int) % 4294967296).toNat = t by omega]
  exact ⟨rfl, Nat.or_lt_two_pow (n := 7) hs ht⟩
theorem bit_one {j : Nat} (hj : j < 7) : (1 : Int) * 2 ^ ((j : Int).toNat) = ((2 ^ j : Nat) : Int) ∧ 2 ^ j < 128 := by
  rw [Int.toNat_natCast, Int.one_mul]
  exact ⟨by push_cast; rfl, Nat.pow_lt_pow_right (by decide) hj⟩
theorem bit_pow {i j : Nat} : (2 ^ i).testBit j = decide (i = j) := Nat.testBit_two_pow
/-- the bits below j are none -/
theorem bit_low {s j : Nat} (hs : s < 128) (hj : j < 7) : zand (s : Int) ((1 : Int) * 2 ^ ((j : Int).toNat) - 1) = 0 ↔ ∀ k, k < j → s.testBit k = false := by
  obtain ⟨e, hlt⟩ := bit_one hj
  rw [e]
  have hpos : 0 < 2 ^ j := Nat.two_pow_pos j
  unfold zand
  rw [show ((s : Int) % 4294967296).toNat = s by omega, show ((((2 ^ j : Nat) : Int) - 1) % 4294967296).toNat = 2 ^ j - 1 by omega]
  constructor
  · intro h k hk
    have h0 : s &&& (2 ^ j - 1) = 0 := by omega
    have : (s &&& (2 ^ j - 1)).testBit k = false := by rw [h0]; exact Nat.zero_testBit k
    rw [Nat.testBit_and, Nat.testBit_two_pow_sub_one] at this
    simpa [hk] using this
  · intro h
    have : s &&& (2 ^ j - 1) = 0 := by
      apply Nat.eq_of_testBit_eq
      intro k
      rw [Nat.testBit_and, Nat.testBit_two_pow_sub_one, Nat.zero_testBit]
      by_cases hk : k < j
      · rw [h k hk]; rfl
      · simp [hk]
    rw [this]; rfl
/-- what a state leads to, itself too -/
def Rch (E : Nat → Nat → Prop) (i j : Nat) : Prop := ∀ P : Nat → Prop, P i → (∀ k l, P k → E k l → P l) → P j
theorem Rch.refl {E : Nat → Nat → Prop} (i : Nat) : Rch E i i := fun _ h _ => h
theorem Rch.step {E : Nat → Nat → Prop} {i k j : Nat} (h : Rch E i k) (e : E k j) : Rch E i j := fun P h0 hs => hs k j (h P h0 hs) e
theorem Rch.tr {E : Nat → Nat → Prop} {i j k : Nat} (h : Rch E i j) (h2 : Rch E j k) : Rch E i k := fun P h0 hs => h2 P (h P h0 hs) hs
/-- ways whose inner states are below K -/
def Wk (E : Nat → Nat → Prop) : Nat → Nat → Nat → Prop
  | 0 => fun i j => i = j ∨ E i j
  | K + 1 => fun i j => Wk E K i j ∨ (Wk E K i K ∧ Wk E K K j)
theorem Wk.next {E : Nat → Nat → Prop} {K i j : Nat} : Wk E (K + 1) i j ↔ Wk E K i j ∨ (Wk E K i K ∧ Wk E K K j) := Iff.rfl
theorem Wk.self {E : Nat → Nat → Prop} {K j : Nat} : Wk E (K + 1) K j ↔ Wk E K K j :=
  ⟨fun h => by rcases h with h | h; exact h; exact h.2, Or.inl⟩
theorem Wk.toSelf {E : Nat → Nat → Prop} {K i : Nat} : Wk E (K + 1) i K ↔ Wk E K i K :=
  ⟨fun h => by rcases h with h | h; exact h; exact h.1, Or.inl⟩
theorem Wk.rch {E : Nat → Nat → Prop} {K : Nat} : ∀ {i j : Nat}, Wk E K i j → Rch E i j := by
  induction K with
  | zero =>
    intro i j h
    rcases h with rfl | h
    · exact .refl _
    · exact .step (.refl _) h
  | succ K ih =>
    intro i j h
    rcases h with h | h
    · exact ih h
    · exact (ih h.1).tr (ih h.2)
theorem Wk.base {E : Nat → Nat → Prop} {K i j : Nat} (h : i = j ∨ E i j) : Wk E K i j := by
  induction K with
  | zero => exact h
  | succ K ih => exact Or.inl ih
theorem Wk.trans {E : Nat → Nat → Prop} {K : Nat} : ∀ {i k j : Nat}, k < K → Wk E K i k → Wk E K k j → Wk E K i j := by
  induction K with
  | zero => intro i k j h; exact absurd h (Nat.not_lt_zero _)
  | succ K ih =>
    intro i k j h a b
    by_cases e : k = K
    · subst e
      exact Or.inr ⟨Wk.toSelf.mp a, Wk.self.mp b⟩
    · have hk : k < K := by omega
      rcases a with a | a <;> rcases b with b | b
      · exact Or.inl (ih hk a b)
      · exact Or.inr ⟨ih hk a b.1, b.2⟩
      · exact Or.inr ⟨a.1, ih hk a.2 b⟩
      · exact Or.inr ⟨a.1, b.2⟩
theorem Wk.all {E : Nat → Nat → Prop} {n i j : Nat} (hE : ∀ a b, E a b → a < n) : Wk E n i j ↔ Rch E i j :=
  ⟨Wk.rch, fun h => h (fun j => Wk E n i j) (.base (Or.inl rfl)) fun k l hk e => .trans (hE _ _ e) hk (.base (Or.inr e))⟩
/-- the ways of a table of parts; none goes on from w -/
def cE (n : Nat) (A : Nat → Nat → Int) (w : Int) (i j : Nat) : Prop := (i : Int) ≠ w ∧ i < n ∧ j < n ∧ 0 < A i j
/-- the set s is what i leads to -/
def isSet (n : Nat) (E : Nat → Nat → Prop) (i s : Nat) : Prop := s < 128 ∧ ∀ j, s.testBit j = true ↔ j < n ∧ Rch E i j
theorem isSet.uniq {n : Nat} {E : Nat → Nat → Prop} {i s t : Nat} (h : isSet n E i s) (h2 : isSet n E i t) : s = t := by
  apply Nat.eq_of_testBit_eq
  intro j
  have a := h.2 j
  have b := h2.2 j
  rw [← b] at a
  cases hx : s.testBit j <;> cases hy : t.testBit j <;> simp_all
