/-! The reference's jobs. -/
/-- nothing of the reference but these cells and these slots of the object has changed -/
def FC (cs ss : List Nat) (M M' : Mem) : Prop := (∀ a, a ≠ 175 → a ∉ cs → M' a = M a) ∧ ∀ s, s ∉ ss → M' 175 s = M 175 s
theorem FC.rfl' {cs ss : List Nat} {M : Mem} : FC cs ss M M := ⟨fun _ _ _ => rfl, fun _ _ => rfl⟩
theorem FC.tr {cs ss : List Nat} {M M' M'' : Mem} (h : FC cs ss M M') (h2 : FC cs ss M' M'') : FC cs ss M M'' := ⟨fun a q1 q2 => (h2.1 a q1 q2).trans (h.1 a q1 q2), fun s q => (h2.2 s q).trans (h.2 s q)⟩
theorem FC.mono {cs ss cs' ss' : List Nat} {M M' : Mem} (h : FC cs ss M M') (h1 : ∀ a, a ∈ cs → a ∈ cs') (h2 : ∀ a, a ∈ ss → a ∈ ss') : FC cs' ss' M M' := ⟨fun a q1 q2 => h.1 a q1 fun z => q2 (h1 a z), fun s q => h.2 s fun z => q (h2 s z)⟩
theorem FC.u2 {cs ss : List Nat} {M M' : Mem} {a k : Nat} {v : Int} (h : FC cs ss M M') (h1 : a ∈ cs) (h2 : a ≠ 175) : FC cs ss M (upd2 M' a k v) := ⟨fun b q1 q2 => by rw [u2_off (fun e => q2 (by rw [e]; exact h1))]; exact h.1 b q1 q2, fun s q => by rw [u2_off (Ne.symm h2)]; exact h.2 s q⟩
theorem FC.slot {cs ss : List Nat} {M M' : Mem} {s : Nat} {v : Int} (h : FC cs ss M M') (h1 : s ∈ ss) : FC cs ss M (upd2 M' 175 s v) := ⟨fun b q1 q2 => by rw [u2_off q1]; exact h.1 b q1 q2, fun r q => by rw [u2_ne (fun e => q (by rw [e]; exact h1))]; exact h.2 r q⟩
theorem FC.fm {cs ss : List Nat} {M M' : Mem} (h : FC cs ss M M') (h3 : 163 ∉ cs) (h4 : 164 ∉ cs) (h5 : 165 ∉ cs) : FM cs ss [] M M' := ⟨fun a _ _ _ q1 q2 => h.1 a q1 q2, h.2, fun f _ _ q hq => hq.off (h.1 _ (by decide) h3) (h.1 _ (by decide) h4) (h.1 _ (by decide) h5)⟩
theorem FT.fc {M M' : Mem} (h : FT M M') : FC [166] [31, 32] M M' := ⟨fun a q1 q2 => h.1 a q1 (by simpa using q2), fun s q => h.2 s (by simp at q; omega) (by simp at q; omega)⟩
/-- the reference's kept changes -/
def RH (M : Mem) (u : Nat) (cnt : Nat → Int) (row : Nat → Nat → Int) : Prop := u ≤ 20 ∧ M 175 7 = u ∧ ∀ j, j < u → M 153 j = cnt j ∧ ∀ i, i < 96 → M 152 (96 * j + i) = row j i
/-- whether a job may come -/
def comeOk (n : Nat) (f : Nat → Int) (t : Int) : Prop := n < 24 ∧ (n = 0 ∨ f (4 * (n - 1)) ≤ t)
theorem RH.add {M M' : Mem} {u : Nat} {cnt : Nat → Int} {row : Nat → Nat → Int} (h : RH M u cnt row) (f : FC [151] [0, 6] M M') : RH M' u cnt row := by
  obtain ⟨h1, h2, h3⟩ := h
  refine ⟨h1, by rw [f.2 7 (by simp)]; exact h2, fun j hj => ?_⟩
  rw [f.1 153 (by decide) (by decide), f.1 152 (by decide) (by decide)]
  exact h3 j hj