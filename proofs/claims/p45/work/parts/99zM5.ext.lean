/-! All that the pure machine answers, the machine answers: nothing is owed for the methods but mean and doneShare. -/
theorem ext_ok {l : Launch} {ρ sg : Nat → Nat} {cA : Nat → ClassId} {D : va_G} {Aw : Nat → Prop} : ∀ (d y : Nat) (a : List PV) (M : Mem) (Q : Rs → Mem → Prop), extS y a M Q → SoundC l ρ sg cA D Aw (d + 1) y a M Q := by
  intro d y a M Q h
  unfold extS at h
  split at h
  · obtain ⟨rfl, rfl, ⟨h1, h2, hr⟩, hQ⟩ := h
    exact m_isWord d h1 h2 hr hQ
  · exact h.elim
theorem snd {l : Launch} {ρ sg : Nat → Nat} {cA : Nat → ClassId} {D : va_G} {Aw : Nat → Prop} (htr : l.stackTraces = false) : ∀ (d y : Nat) (a : List PV) (M : Mem) (Q : Rs → Mem → Prop), cald d y a M Q → SoundC l ρ sg cA D Aw d y a M Q := sound htr nsOk ext_ok
