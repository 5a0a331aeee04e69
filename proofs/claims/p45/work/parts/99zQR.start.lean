/-! The first world holds the first state. -/
theorem m1_off {a : Nat} (h : a ∉ [2, 3, 54, 63, 118, 130, 133, 142, 143, 148]) : M1 a = fun _ => 0 := by
  simp only [List.mem_cons, List.not_mem_nil, or_false, not_or] at h
  obtain ⟨h1, h2, h3, h4, h5, h6, h7, h8, h9, h10⟩ := h
  unfold M1
  rw [if_neg h1, if_neg h2, if_neg h3, if_neg h4, if_neg h5, if_neg h6, if_neg h7, if_neg h8, if_neg h9, if_neg h10]
abbrev stJ0 : StJ := (0, fun _ => 0)
abbrev stL0 : StL := (1, 0, 24, 999)
abbrev stC0 : StC := (1, 1, fun i j => if i = 0 ∧ j = 0 then 1 else 0)
abbrev stNN0 : StN := (1, fun _ => 0, fun _ => 1, fun _ _ => 0)
abbrev stE0 : StE := (0, 0, 1, 0, fun _ => 0, fun _ => 0, fun _ => 0)
abbrev stG0 : StG := (fun _ => 0, fun _ => 0)
abbrev stH0 : StH := (0, fun _ => 0, fun _ _ => 0)
abbrev stT0 : StT := (0, fun _ => 0)
theorem iq_first : IQ stJ0 stL0 stC0 stNN0 stE0 stG0 stH0 stT0 M1 ∧ CF M1 0 := by
  have z : ∀ a, a ∉ [2, 3, 54, 63, 118, 130, 133, 142, 143, 148] → M1 a = fun _ => 0 := fun a h => m1_off h
  have e2 : M1 2 = fun k => if k = 1 then 1 else 0 := rfl
  have e3 : M1 3 = fun k => if k = 0 then 1 else 0 := rfl
  have r32 : R32 (0 : Int) := ⟨by decide, by decide⟩
  have hF : CF M1 0 := by
    refine ⟨?_, ?_⟩
    · refine ⟨?_, 0, by omega, ?_, ?_, Or.inl rfl, rfl⟩
      · rw [z 1 (by decide)]; exact Dg.zero
      · rw [z 0 (by decide)]; rfl
      · intro i _; rw [z 1 (by decide)]
    · refine ⟨?_, 1, by omega, ?_, ?_, Or.inr ?_, ?_⟩
      · show Dg BB (M1 3)
        rw [e3]
        intro i
        by_cases hi : i = 0
        · simp only [hi]; decide
        · simp only [hi]; decide
      · rw [e2]; rfl
      · intro i hi
        show M1 3 i = 0
        rw [e3]
        exact if_neg (by omega)
      · show M1 3 0 ≠ 0
        rw [e3]; decide
      · show _ = bs BB (M1 3) 1
        rw [e3]; decide
  have hZ : AZ M1 := by
    intro r hr i hi
    have h1 := hr.1
    have h2 := hr.2
    by_cases q : r + 1 = 3
    · rw [q, e3]
      exact if_neg (by omega)
    · by_cases q2 : r + 1 = 2
      · rw [q2, e2]
        exact if_neg (by omega)
      · rw [z (r + 1) (by simp; omega)]
  have e117 := z 117 (by decide)
  refine ⟨⟨⟨0, hF⟩, hZ, ⟨⟨?_, by show (0 : Nat) ≤ 900; decide, fun i => ?_⟩, z 91 (by decide), fun i => ?_⟩, ⟨⟨by show (0 : Nat) ≤ 24; decide, fun k hk => absurd hk (Nat.not_lt_zero k), fun k hk => absurd hk (Nat.not_lt_zero _)⟩, by rw [e117]; rfl, z 94 (by decide), ⟨by show (0 : Nat) ≤ 20; decide, by rw [e117]; rfl, 0, by omega, by rw [e117]; rfl, fun j hj => absurd hj (Nat.not_lt_zero j)⟩, fun k hk => absurd hk (Nat.not_lt_zero k)⟩, ⟨⟨rfl, rfl, rfl, rfl, ⟨by decide, by decide, by decide, by decide⟩, Or.inl ?_⟩, fun r hr => Or.inl ?_, fun q => absurd rfl q⟩, ⟨⟨by decide, by decide, fun i j _ _ => ?_, fun i j hi hj _ => if_neg (by have hj : 1 ≤ j := hj; omega)⟩, rfl, rfl, fun i j hi hj => ?_⟩, ⟨nOk_new ⟨by decide, by decide⟩, rfl, fun i hi => ?_, fun i hi => ?_, fun i j hi hj => ?_⟩, ⟨⟨by decide, by decide, by decide, by decide, fun i hi => absurd hi (Nat.not_lt_zero i)⟩, rfl, rfl, rfl, rfl, rfl, fun q => absurd q (Nat.lt_irrefl 0)⟩, ⟨fun l hl => ⟨⟨by show (0 : Int) ≤ 0; decide, by show (0 : Int) ≤ 999; decide⟩, by show (0 : Int) ≤ 0; decide, by show (0 : Int) ≤ 99; decide⟩, z 144 (by decide), z 145 (by decide)⟩⟩, hF⟩
  · rw [z 93 (by decide)]; rfl
  · rw [z 91 (by decide)]; exact r32
  · rw [z 92 (by decide)]; exact r32
  · rw [z 149 (by decide)]
  · show (if r < 6 then (-1 : Int) else 0) = -1
    exact if_pos hr
  · show 0 ≤ (if _ then (1 : Int) else 0) ∧ (if _ then (1 : Int) else 0) ≤ 1
    split <;> omega
  · by_cases q : i = 0
    · subst q
      show (if j = 0 then (1 : Int) else 0) = if 0 = 0 ∧ j = 0 then 1 else 0
      by_cases q2 : j = 0
      · subst q2; rfl
      · rw [if_neg q2, if_neg (by omega)]
    · rw [z (118 + i) (by simp; omega)]
      exact (if_neg (by omega)).symm
  · rw [z 132 (by decide)]
  · show (if i < 4 then (1 : Int) else 0) = 1
    exact if_pos hi
  · rw [z (134 + i) (by simp; omega)]
