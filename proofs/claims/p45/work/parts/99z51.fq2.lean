/-! The reference's fractions: sums, quotients. -/
theorem div_def' (p q : Rat) (hq : q ≠ 0) : p / q = mkRat (p.num * q.num.sign * q.den) (p.den * q.num.natAbs) := by
  have h : q.num ≠ 0 := fun e => hq (Rat.num_eq_zero.mp e)
  rw [Rat.div_def, Rat.mul_def', Rat.num_inv, Rat.den_inv, if_neg h, ← Int.mul_assoc]
/-- nothing of the reference but these cells, these slots of the object, these fractions has changed, and nothing of the class -/
def FM (cs ss l : List Nat) (M M' : Mem) : Prop := (∀ a, a ≠ 163 → a ≠ 164 → a ≠ 165 → a ≠ 175 → a ∉ cs → M' a = M a) ∧ (∀ s, s ∉ ss → M' 175 s = M 175 s) ∧ ∀ f, f < 95 → f ∉ l → ∀ q, FQ M f q → FQ M' f q
theorem FM.rfl' {cs ss l : List Nat} {M : Mem} : FM cs ss l M M := ⟨fun _ _ _ _ _ _ => rfl, fun _ _ => rfl, fun _ _ _ _ h => h⟩
theorem FM.tr {cs ss l : List Nat} {M M' M'' : Mem} (h : FM cs ss l M M') (h2 : FM cs ss l M' M'') : FM cs ss l M M'' := ⟨fun a q1 q2 q3 q4 q5 => (h2.1 a q1 q2 q3 q4 q5).trans (h.1 a q1 q2 q3 q4 q5), fun s hs => (h2.2.1 s hs).trans (h.2.1 s hs), fun f hf hl q hq => h2.2.2 f hf hl q (h.2.2 f hf hl q hq)⟩
theorem FM.mono {cs ss l cs' ss' l' : List Nat} {M M' : Mem} (h : FM cs ss l M M') (h1 : ∀ a, a ∈ cs → a ∈ cs') (h2 : ∀ a, a ∈ ss → a ∈ ss') (h3 : ∀ a, a ∈ l → a ∈ l') : FM cs' ss' l' M M' := ⟨fun a q1 q2 q3 q4 q5 => h.1 a q1 q2 q3 q4 fun z => q5 (h1 a z), fun s hs => h.2.1 s fun z => hs (h2 s z), fun f hf hn => h.2.2 f hf fun z => hn (h3 f z)⟩
theorem FR.fm {l : List Nat} {M M' : Mem} (h : FR l M M') : FM [] [] l M M' := ⟨fun a q1 q2 q3 _ _ => h.1 a q1 q2 q3, fun s _ => by rw [h.1 175 (by decide) (by decide) (by decide)], h.2⟩
theorem FQ.keptM {cs ss l : List Nat} {M M' : Mem} {f : Nat} {q : Rat} (h : FQ M f q) (hf : FM cs ss l M M') (h1 : f < 95) (h2 : f ∉ l) : FQ M' f q := hf.2.2 f h1 h2 q h
theorem FQ.off {M M' : Mem} {f : Nat} {q : Rat} (h : FQ M f q) (h1 : M' 163 = M 163) (h2 : M' 164 = M 164) (h3 : M' 165 = M 165) : FQ M' f q := by
  have e : ∀ r, rd M' r = rd M r := fun r => funext fun i => by unfold rd; rw [h1, h2]
  unfold FQ Row at h ⊢
  rw [e, e, h2, h3]
  exact h
theorem FM.slot {M : Mem} {s : Nat} {v : Int} : FM [] [s] [] M (upd2 M 175 s v) := ⟨fun a _ _ _ h _ => u2_off h, fun t ht => u2_ne (by simpa using ht), fun f _ _ q hq => hq.off (u2_off (by decide)) (u2_off (by decide)) (u2_off (by decide))⟩
theorem FM.cell {M : Mem} {c s : Nat} {v : Int} (h3 : c ≠ 163) (h4 : c ≠ 164) (h5 : c ≠ 165) (h7 : c ≠ 175) : FM [c] [] [] M (upd2 M c s v) := ⟨fun a _ _ _ _ h => u2_off (by simpa using h), fun t _ => by rw [u2_off (Ne.symm h7)], fun f _ _ q hq => hq.off (u2_off (Ne.symm h3)) (u2_off (Ne.symm h4)) (u2_off (Ne.symm h5))⟩