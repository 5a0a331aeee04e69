/-! errors: the reference. -/
theorem maxN_le {f : Nat → Int} {b : Int} (hb : 0 ≤ b) : ∀ n, maxN f n ≤ b ↔ ∀ k, k < n → f k ≤ b := by
  intro n
  induction n with
  | zero => exact ⟨fun _ k h => absurd h (Nat.not_lt_zero k), fun _ => hb⟩
  | succ n ih =>
    show max (maxN f n) (f n) ≤ b ↔ _
    constructor
    · intro h k hk
      by_cases e : k = n
      · rw [e]; omega
      · exact ih.mp (by omega) k (by omega)
    · intro h
      have h1 := ih.mpr fun k hk => h k (by omega)
      have h2 := h n (by omega)
      omega
abbrev erCs : List Nat := 173 :: 174 :: rcs
theorem FC.erC {cs ss : List Nat} {M M' : Mem} (h : FC cs ss M M') (h3 : 163 ∉ cs) (h4 : 164 ∉ cs) (h5 : 165 ∉ cs) (h1 : ∀ a, a ∈ cs → a ∈ erCs) (h2 : ∀ a, a ∈ ss → a ∈ [0, 40, 41, 42]) : FM erCs [0, 40, 41, 42] errF M M' := (h.fm h3 h4 h5).mono h1 h2 (by simp)
theorem RC.er {M M' : Mem} {n : Nat} {b : Int} {A : Nat → Nat → Int} {ss l : List Nat} (h : RC M n b A) (hf : FM erCs ss l M M') (h2 : 16 ∉ ss) (h3 : 17 ∉ ss) : RC M' n b A := h.fm' hf (by decide) h2 h3