/-! The reference solves over a set of states. -/
theorem FQ.fr173 {M M' : Mem} {f : Nat} {q : Rat} (h : FQ M f q) (hf : Fr [173] M M') : FQ M' f q := h.off (hf 163 (by decide)) (hf 164 (by decide)) (hf 165 (by decide))
theorem Fr.fm173 {M M' : Mem} (h : Fr [173] M M') : FM [173] [] [] M M' := ⟨fun a _ _ _ _ h5 => h a h5, fun s _ => by rw [h 175 (by decide)], fun f _ _ q hq => hq.fr173 h⟩
theorem RC.fm' {M M' : Mem} {n : Nat} {b : Int} {A : Nat → Nat → Int} {cs ss l : List Nat} (h : RC M n b A) (hf : FM cs ss l M M') (h1 : 154 ∉ cs) (h2 : 16 ∉ ss) (h3 : 17 ∉ ss) : RC M' n b A := by
  obtain ⟨c1, c2, c3⟩ := h
  exact ⟨by rw [hf.2.1 16 h2]; exact c1, by rw [hf.2.1 17 h3]; exact c2, fun i j hi hj => by rw [hf.1 154 (by decide) (by decide) (by decide) (by decide) h1]; exact c3 i j hi hj⟩
theorem mk_mul {p : Int} {y : Nat} (hy : 0 < y) : mkRat p y * (((y : Nat) : Int) : Rat) = ((p : Int) : Rat) := by
  have h1 : (((y : Nat) : Int) : Rat) ≠ 0 := int_ne (by omega)
  rw [Rat.mkRat_eq_div]
  exact Rat.div_mul_cancel h1
theorem solF_r (i : Nat) (h : 67 ≤ i) : i ∉ solF := by
  simp; omega
def qOf (tm : Int) (g : Nat) : Int := if tm = 0 then (g : Int) else -1