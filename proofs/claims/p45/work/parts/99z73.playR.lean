/-! The reference plays: small methods. -/
/-- a play in the reference's memory -/
def stR (x : SG) (k : Nat) : Int := if k < x.2.2.1 then (if k ∈ x.2.1 then 5 else if k ∈ x.1 then 4 else x.2.2.2 0 k) else 3
def RPl (M : Mem) (n : Nat) (J : Nat → Int) (x : SG) : Prop := M 175 40 = x.1.length ∧ M 175 41 = x.2.1.length ∧ LM (M 171) x.1 ∧
  ∀ k, k < n → M 167 k = stR x k ∧ M 168 k = (if k < x.2.2.1 then x.2.2.2 1 k else J (4 * k + 1)) ∧ M 169 k = (if k < x.2.2.1 then x.2.2.2 2 k else -1) ∧ (k < x.2.2.1 → x.2.2.2 0 k ≠ 3 → M 170 k = x.2.2.2 3 k)
abbrev rcs : List Nat := [167, 168, 169, 170, 171, 172]
/-- how many of the first are in a list -/
theorem sumN_ind (l : List Nat) : ∀ (n : Nat), l.Nodup → (∀ j, j ∈ l → j < n) → sumN (fun k => if k ∈ l then 1 else 0) n = l.length := by
  induction l with
  | nil =>
    intro n _ _
    rw [sumN_congr (g := fun _ => 0) n (fun k _ => by simp)]
    have : ∀ n, sumN (fun _ => 0) n = 0 := by
      intro n
      induction n with
      | zero => rfl
      | succ n ih => show sumN (fun _ => 0) n + 0 = 0; omega
    rw [this]; rfl
  | cons a l ih =>
    intro n hn hl
    obtain ⟨n1, n2⟩ := List.nodup_cons.mp hn
    have h1 := ih n n2 fun j hj => hl j (List.mem_cons_of_mem _ hj)
    have h2 := sumN_dec (f := fun k => if k ∈ l then 1 else 0) (g := fun k => if k ∈ a :: l then 1 else 0) (m := a) (by
      rw [if_neg n1, if_pos List.mem_cons_self]; rfl) n (hl a List.mem_cons_self) (fun k _ e => by
      by_cases q : k ∈ l
      · rw [if_pos q, if_pos (List.mem_cons_of_mem _ q)]
      · rw [if_neg q, if_neg fun z => by
          rcases List.mem_cons.mp z with y | y
          · exact e y
          · exact q y])
    rw [← h2, h1]
    simp