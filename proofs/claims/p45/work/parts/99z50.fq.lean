/-! The reference's fractions as numbers. -/
def FQ (M : Mem) (f : Nat) (q : Rat) : Prop := Row M (2 * f) ((q.num.natAbs : Nat) : Int) ∧ Row M (2 * f + 1) ((q.den : Nat) : Int) ∧ M 165 f = q.num.sign
/-- nothing but these fractions (and the scratch rows) has changed -/
def FR (l : List Nat) (M M' : Mem) : Prop := (∀ a, a ≠ 163 → a ≠ 164 → a ≠ 165 → M' a = M a) ∧ ∀ f, f < 95 → f ∉ l → ∀ q, FQ M f q → FQ M' f q
theorem FR.rfl' {l : List Nat} {M : Mem} : FR l M M := ⟨fun _ _ _ _ => rfl, fun _ _ _ _ h => h⟩
theorem FR.tr {l : List Nat} {M M' M'' : Mem} (h : FR l M M') (h2 : FR l M' M'') : FR l M M'' := ⟨fun a q1 q2 q3 => (h2.1 a q1 q2 q3).trans (h.1 a q1 q2 q3), fun f hf hl q hq => h2.2 f hf hl q (h.2 f hf hl q hq)⟩
theorem FR.mono {l l' : List Nat} {M M' : Mem} (h : FR l M M') (hl : ∀ a, a ∈ l → a ∈ l') : FR l' M M' := ⟨h.1, fun f hf hn => h.2 f hf fun z => hn (hl f z)⟩
theorem FQ.kept {l : List Nat} {M M' : Mem} {f : Nat} {q : Rat} (h : FQ M f q) (hf : FR l M M') (h1 : f < 95) (h2 : f ∉ l) : FQ M' f q := hf.2 f h1 h2 q h
theorem RS.fr {l ls l' : List Nat} {M M' : Mem} (h : RS l ls M M') (hl : ∀ r, r ∈ l → 190 ≤ r ∨ r / 2 ∈ l') (hs : ∀ a, a ∈ ls → a ∈ l') : FR l' M M' := by
  refine ⟨h.1, fun f hf hn q ⟨q1, q2, q3⟩ => ⟨q1.keptS h fun z => ?_, q2.keptS h fun z => ?_, ?_⟩⟩
  · rcases hl _ z with e | e
    · omega
    · exact hn (by rwa [show 2 * f / 2 = f by omega] at e)
  · rcases hl _ z with e | e
    · omega
    · exact hn (by rwa [show (2 * f + 1) / 2 = f by omega] at e)
  · rw [h.2.2.2 f fun z => hn (hs f z)]
    exact q3
theorem RF.fr {l l' : List Nat} {M M' : Mem} (h : RF l M M') (hl : ∀ r, r ∈ l → 190 ≤ r ∨ r / 2 ∈ l') : FR l' M M' := RS.fr (ls := []) h.rs hl (by simp)
theorem RF.sg {l : List Nat} {M M' : Mem} (h : RF l M M') : M' 165 = M 165 := h.1 165 (by decide) (by decide)
theorem FQ.sg {M : Mem} {f : Nat} {q : Rat} (h : FQ M f q) : M 165 f = -1 ∨ M 165 f = 0 ∨ M 165 f = 1 := by
  rw [h.2.2]
  rcases Int.lt_trichotomy q.num 0 with e | e | e
  · exact Or.inl (Int.sign_eq_neg_one_of_neg e)
  · exact Or.inr (Or.inl (by rw [e]; rfl))
  · exact Or.inr (Or.inr (Int.sign_eq_one_of_pos e))
theorem mk_parts {s n : Int} {p y : Nat} (hy : 0 < y) (hs : s = -1 ∨ s = 0 ∨ s = 1) (h0 : s = 0 → p = 0) (hn : s * p = n) :
    (mkRat n y).num.natAbs = p / Nat.gcd p y ∧ (mkRat n y).den = y / Nat.gcd p y ∧ (mkRat n y).num.sign = if p = 0 then 0 else s := by
  have hy' : y ≠ 0 := by omega
  have hg : 0 < Nat.gcd p y := Nat.gcd_pos_of_pos_right _ hy
  have hna : n.natAbs = p := by
    rcases hs with e | e | e
    · subst e; omega
    · have := h0 e; subst this; subst e; omega
    · subst e; omega
  obtain ⟨k, hk⟩ : Nat.gcd p y ∣ p := Nat.gcd_dvd_left _ _
  have hk' : p / Nat.gcd p y = k := by
    rw [Nat.div_eq_of_eq_mul_right hg hk]
  have e1 : n / (Nat.gcd p y : Int) = s * k := by
    refine Int.ediv_eq_of_eq_mul_right (by omega) ?_
    rw [← hn]
    conv => lhs; rw [hk]
    rw [Int.natCast_mul, ← Int.mul_assoc, ← Int.mul_assoc, Int.mul_comm s]
  have e2 : (mkRat n y).num = s * k := by
    rw [Rat.num_mkRat, if_neg hy', hna, Nat.gcd_comm, e1]
  refine ⟨?_, ?_, ?_⟩
  · rw [e2, hk']
    rcases hs with e | e | e
    · subst e; omega
    · have := h0 e
      subst this
      have : k = 0 := by
        rcases Nat.mul_eq_zero.mp hk.symm with q | q
        · omega
        · exact q
      subst this; subst e; rfl
    · subst e; omega
  · rw [Rat.den_mkRat, if_neg hy', hna, Nat.gcd_comm]
  · rw [e2]
    by_cases q : p = 0
    · rw [if_pos q]
      have : k = 0 := by
        rw [q] at hk
        rcases Nat.mul_eq_zero.mp hk.symm with z | z
        · rw [q] at hg; omega
        · exact z
      subst this
      simp
    · rw [if_neg q]
      have : 0 < k := Nat.pos_of_ne_zero fun e => q (by rw [hk, e, Nat.mul_zero])
      have h3 : (k : Int).sign = 1 := Int.sign_eq_one_of_pos (by omega)
      rw [Int.sign_mul, h3, Int.mul_one]
      rcases hs with e | e | e <;> subst e <;> rfl
/-- numbers that fit so many places -/
def Bd (q : Rat) (k : Nat) : Prop := ((q.num.natAbs : Nat) : Int) < 10000 ^ k ∧ ((q.den : Nat) : Int) < 10000 ^ k
theorem Bd.mono {q : Rat} {k m : Nat} (h : Bd q k) (hk : k ≤ m) : Bd q m := ⟨Int.lt_of_lt_of_le h.1 (pw_mono (by decide) hk), Int.lt_of_lt_of_le h.2 (pw_mono (by decide) hk)⟩
theorem fits_mul {v w : Int} {a b : Nat} (hw0 : 0 ≤ w) (hv : v < 10000 ^ a) (hw : w < 10000 ^ b) : v * w < 10000 ^ (a + b) := by
  have h1 : v * w ≤ 10000 ^ a * w := Int.mul_le_mul_of_nonneg_right (Int.le_of_lt hv) hw0
  have h2 : 10000 ^ a * w < 10000 ^ a * 10000 ^ b := Int.mul_lt_mul_of_pos_left hw (pw_pos (by decide) a)
  rw [Int.pow_add]
  omega
theorem sign_natAbs (x : Int) : x.sign * ((x.natAbs : Nat) : Int) = x := Int.sign_mul_natAbs x
theorem sign_cases (x : Int) : x.sign = -1 ∨ x.sign = 0 ∨ x.sign = 1 := by
  rcases Int.lt_trichotomy x 0 with e | e | e
  · exact Or.inl (Int.sign_eq_neg_one_of_neg e)
  · exact Or.inr (Or.inl (by rw [e]; rfl))
  · exact Or.inr (Or.inr (Int.sign_eq_one_of_pos e))