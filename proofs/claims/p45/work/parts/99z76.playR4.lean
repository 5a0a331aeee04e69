/-! The reference plays: the whole play. -/
/-- the sum of the times -/
def pSum (n : Nat) (J : Nat → Int) (many by_ space wait : Int) (T : Nat) : Int := sumN (fun k => (sAt n J many by_ space wait T).2.2.2 3 k - J (4 * k)) n
/-- the play lies in the reference's memory, from its beginning to its end -/
def RunR (M : Mem) (n : Nat) (J : Nat → Int) (many by_ space wait : Int) (T : Nat) : Prop := (∀ s, s < T → sOn n (sAt n J many by_ space wait s)) ∧ ¬ sOn n (sAt n J many by_ space wait T) ∧ M 175 42 = T ∧ (∀ s, s < T → M 172 s = sNum (sMid n J many by_ space wait (s : Int) (sAt n J many by_ space wait s))) ∧
  ∀ k, k < n → M 167 k = (sAt n J many by_ space wait T).2.2.2 0 k ∧ M 169 k = (sAt n J many by_ space wait T).2.2.2 2 k ∧ M 170 k = (sAt n J many by_ space wait T).2.2.2 3 k
theorem off_all {n : Nat} {J : Nat → Int} {many t : Int} {x : SG} (hp : PVi n many t x) (h : ¬ sOn n x) : x.2.2.1 = n ∧ x.1 = [] ∧ x.2.1 = [] ∧ ∀ k, k < n → x.2.2.2 0 k ≠ 3 ∧ 0 ≤ x.2.2.2 0 k ∧ x.2.2.2 0 k ≤ 2 := by
  have hx := hp.1
  have h1 : ¬ x.2.2.1 < n := fun z => h (Or.inl z)
  have h2 : ¬ 0 < x.1.length + x.2.1.length := fun z => h (Or.inr z)
  have e1 : x.1 = [] := List.length_eq_zero_iff.mp (by omega)
  have e2 : x.2.1 = [] := List.length_eq_zero_iff.mp (by omega)
  refine ⟨by omega, e1, e2, fun k hk => ?_⟩
  obtain ⟨a1, a2, a3, _⟩ := hp.2.2.2.2.1 k (by omega)
  have : x.2.2.2 0 k ≠ 3 := fun z => by
    have := a1.mp z
    rw [e1, e2] at this
    simp at this
  exact ⟨this, a2, by omega⟩