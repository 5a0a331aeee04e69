/-! The reference plays: goesAndComes. -/
def goK (J : Nat → Int) (wait t : Int) (c : Nat) (x : SG) : SG := (x.1.take c ++ (x.1.drop c).filter (fun j => !gonD J wait t x.2.2.2 j), x.2.1, x.2.2.1, fun a k => if k ∈ x.1.drop c ∧ gonD J wait t x.2.2.2 k = true then (if a = 0 then 1 else if a = 3 then t else x.2.2.2 a k) else x.2.2.2 a k)
theorem goK_zero {J : Nat → Int} {wait t : Int} {x : SG} : goK J wait t 0 x = sGo J wait t x := rfl
theorem goK_len {J : Nat → Int} {wait t : Int} {x : SG} : goK J wait t x.1.length x = x := by
  obtain ⟨row, srv, nx, F⟩ := x
  have e2 : (fun a k => if k ∈ row.drop row.length ∧ gonD J wait t F k = true then (if a = 0 then 1 else if a = 3 then t else F a k) else F a k : Mem) = F := funext fun a => funext fun k => by
    rw [if_neg fun z => by
      have := z.1
      rw [List.drop_length] at this
      simp at this]
  show (row.take row.length ++ (row.drop row.length).filter (fun j => !gonD J wait t F j), srv, nx, (fun a k => if k ∈ row.drop row.length ∧ gonD J wait t F k = true then (if a = 0 then 1 else if a = 3 then t else F a k) else F a k : Mem)) = (row, srv, nx, F)
  rw [e2, List.take_length, List.drop_length]
  simp
theorem take_split {l : List Nat} {c : Nat} (h : c < l.length) : l.take (c + 1) = l.take c ++ [l.getD c 0] ∧ l.drop c = l.getD c 0 :: l.drop (c + 1) := by
  rw [getD_lt h]
  exact ⟨(List.take_append_getElem h).symm, List.drop_eq_getElem_cons h⟩
theorem goK_keep {J : Nat → Int} {wait t : Int} {c : Nat} {x : SG} (h : c < x.1.length) (hg : gonD J wait t x.2.2.2 (x.1.getD c 0) = false) : goK J wait t c x = goK J wait t (c + 1) x := by
  obtain ⟨row, srv, nx, F⟩ := x
  dsimp only at h hg
  obtain ⟨e1, e2⟩ := take_split h
  have r1 : row.take c ++ (row.drop c).filter (fun j => !gonD J wait t F j) = row.take (c + 1) ++ (row.drop (c + 1)).filter (fun j => !gonD J wait t F j) := by
    rw [e1, e2, List.filter_cons_of_pos (by rw [hg]; rfl), List.append_assoc]
    rfl
  have r2 : (fun a k => if k ∈ row.drop c ∧ gonD J wait t F k = true then (if a = 0 then 1 else if a = 3 then t else F a k) else F a k : Mem) = (fun a k => if k ∈ row.drop (c + 1) ∧ gonD J wait t F k = true then (if a = 0 then 1 else if a = 3 then t else F a k) else F a k : Mem) := funext fun a => funext fun k => by
    by_cases q : k ∈ row.drop (c + 1) ∧ gonD J wait t F k = true
    · rw [if_pos q, if_pos ⟨by rw [e2]; exact List.mem_cons_of_mem _ q.1, q.2⟩]
    · rw [if_neg q, if_neg fun z => by
        have hz := z.1
        rw [e2] at hz
        rcases List.mem_cons.mp hz with y | y
        · have := z.2
          rw [y, hg] at this
          exact absurd this (by decide)
        · exact q ⟨y, z.2⟩]
  show (row.take c ++ (row.drop c).filter (fun j => !gonD J wait t F j), srv, nx, (fun a k => if k ∈ row.drop c ∧ gonD J wait t F k = true then (if a = 0 then 1 else if a = 3 then t else F a k) else F a k : Mem)) = (row.take (c + 1) ++ (row.drop (c + 1)).filter (fun j => !gonD J wait t F j), srv, nx, (fun a k => if k ∈ row.drop (c + 1) ∧ gonD J wait t F k = true then (if a = 0 then 1 else if a = 3 then t else F a k) else F a k : Mem))
  rw [r1, r2]