/-! The reference's jobs. -/
/-- nothing of the reference but these cells and these slots of the object has changed -/
def FC (cs ss : List Nat) (M M' : Mem) : Prop := (∀ a, a ≠ 175 → a ∉ cs → M' a = M a) ∧ ∀ s, s ∉ ss → M' 175 s = M 175 s
theorem FC.rfl' {cs ss : List Nat} {M : Mem} : FC cs ss M M := ⟨fun _ _ _ => rfl, fun _ _ => rfl⟩
theorem FC.tr {cs ss : List Nat} {M M' M'' : Mem} (h : FC cs ss M M') (h2 : FC cs ss M' M'') : FC cs ss M M'' := ⟨fun a q1 q2 => (h2.1 a q1 q2).trans (h.1 a q1 q2), fun s q => (h2.2 s q).trans (h.2 s q)⟩
theorem FC.mono {cs ss cs' ss' : List Nat} {M M' : Mem} (h : FC cs ss M M') (h1 : ∀ a, a ∈ cs → a ∈ cs') (h2 : ∀ a, a ∈ ss → a ∈ ss') : FC cs' ss' M M' := ⟨fun a q1 q2 => h.1 a q1 fun z => q2 (h1 a z), fun s q => h.2 s fun z => q (h2 s z)⟩
theorem FC.u2 {cs ss : List Nat} {M M' : Mem} {a k : Nat} {v : Int} (h : FC cs ss M M') (h1 : a ∈ cs) (h2 : a ≠ 175) : FC cs ss M (upd2 M' a k v) := ⟨fun b q1 q2 => by rw [u2_off (fun e => q2 (by rw [e]; exact h1))]; exact h.1 b q1 q2, fun s q => by rw [u2_off (Ne.symm h2)]; exact h.2 s q⟩
theorem FC.slot {cs ss : List Nat} {M M' : Mem} {s : Nat} {v : Int} (h : FC cs ss M M') (h1 : s ∈ ss) : FC cs ss M (upd2 M' 175 s v) := ⟨fun b q1 q2 => by rw [u2_off q1]; exact h.1 b q1 q2, fun r q => by rw [u2_ne (fun e => q (by rw [e]; exact h1))]; exact h.2 r q⟩
theorem FC.fm {cs ss : List Nat} {M M' : Mem} (h : FC cs ss M M') (h3 : 163 ∉ cs) (h4 : 164 ∉ cs) (h5 : 165 ∉ cs) : FM cs ss [] M M' := ⟨fun a _ _ _ q1 q2 => h.1 a q1 q2, h.2, fun f _ _ q hq => hq.off (h.1 _ (by decide) h3) (h.1 _ (by decide) h4) (h.1 _ (by decide) h5)⟩
theorem FT.fc {M M' : Mem} (h : FT M M') : FC [166] [31, 32] M M' := ⟨fun a q1 q2 => h.1 a q1 (by simpa using q2), fun s q => h.2 s (by simp at q; omega) (by simp at q; omega)⟩
/-- the reference's kept changes -/
def RH (M : Mem) (u : Nat) (cnt : Nat → Int) (row : Nat → Nat → Int) : Prop := u ≤ 20 ∧ M 175 7 = u ∧ ∀ j, j < u → M 153 j = cnt j ∧ ∀ i, i < 96 → M 152 (96 * j + i) = row j i
theorem keeps_50 {d : Nat} {Q : Rs → Mem → Prop} {M0 : Mem} {v : Nat} (hv : v < 20) (h7 : M0 175 7 = v)
    (hQ : ∀ M', FC [152, 153] [7] M0 M' → M' 175 7 = ((v + 1 : Nat) : Int) → (∀ i, M' 153 i = if i = v then M0 175 6 else M0 153 i) → (∀ i, M' 152 i = if 96 * v ≤ i ∧ i < 96 * v + 96 then M0 151 (i - 96 * v) else M0 152 i) → Q (.inl 0) M') :
    ∀ (k i : Nat) (M : Mem), i + k = 96 → FC [152] [] M0 M → (∀ j, M 152 j = if 96 * v ≤ j ∧ j < 96 * v + i then M0 151 (j - 96 * v) else M0 152 j) → L_M_keeps_50 d Q M (i : Int)
  | k, i, M, hk, hf, hr => by
    have e7 : M 175 7 = v := by rw [hf.2 7 (by simp)]; exact h7
    have e6 : M 175 6 = M0 175 6 := hf.2 6 (by simp)
    refine b_M_keeps_50 ?_
    rw [e7, e6, Int.toNat_natCast, Int.toNat_natCast, show (96 * (v : Int) + (i : Int)).toNat = 96 * v + i by omega, hf.1 151 (by decide) (by decide)]
    refine ⟨⟨by omega, by omega⟩, fun h => ⟨⟨by omega, by omega⟩, ?_⟩, fun h => ⟨⟨by omega, by omega⟩, ⟨by omega, by omega⟩, ?_⟩⟩
    · have ei : i = 96 := by omega
      subst ei
      refine hQ _ (((hf.mono (by simp) (by simp)).u2 (by simp) (by decide)).slot (by simp)) (by rw [u2_same]; omega) (fun j => ?_) fun j => ?_
      · rw [u2_off (by decide), u2_row]
        by_cases e : j = v
        · subst e; rw [sr_same, if_pos rfl]
        · rw [sr_ne e, if_neg e, hf.1 153 (by decide) (by decide)]
      · rw [u2_off (by decide), u2_off (by decide)]; exact hr j
    · cases k with
      | zero => omega
      | succ k =>
        refine keeps_50 hv h7 hQ k (i + 1) _ (by omega) (hf.u2 (by simp) (by decide)) fun j => ?_
        rw [u2_row]
        by_cases e : j = 96 * v + i
        · subst e
          rw [sr_same, if_pos ⟨by omega, by omega⟩, show 96 * v + i - 96 * v = i by omega]
        · rw [sr_ne e, hr j]
          by_cases q : 96 * v ≤ j ∧ j < 96 * v + i
          · rw [if_pos q, if_pos ⟨q.1, by omega⟩]
          · rw [if_neg q, if_neg fun z => q ⟨z.1, by omega⟩]
theorem keeps_32 {d : Nat} {Q : Rs → Mem → Prop} {M0 : Mem} (h7 : M0 175 7 = 19)
    (hQ : ∀ M', FC [153] [] M0 M' → (∀ j, M' 153 j = if j < 19 then M0 153 (j + 1) else M0 153 j) → L_M_keeps_50 d Q M' 0) :
    ∀ (k i : Nat) (M : Mem), i + k = 19 → FC [153] [] M0 M → (∀ j, M 153 j = if j < i then M0 153 (j + 1) else M0 153 j) → L_M_keeps_32 d Q M (i : Int)
  | k, i, M, hk, hf, hr => by
    have e7 : M 175 7 = 19 := by rw [hf.2 7 (by simp)]; exact h7
    refine b_M_keeps_32 ?_
    rw [e7, show ((i : Int) + 1).toNat = i + 1 by omega, Int.toNat_natCast, hr (i + 1), if_neg (by omega)]
    refine ⟨⟨by omega, by omega⟩, ⟨by omega, by omega⟩, fun h => ?_, fun h => ⟨⟨by omega, by omega⟩, ⟨by omega, by omega⟩, ?_⟩⟩
    · have ei : i = 19 := by omega
      subst ei
      exact hQ M hf hr
    · cases k with
      | zero => omega
      | succ k =>
        refine keeps_32 h7 hQ k (i + 1) _ (by omega) (hf.u2 (by simp) (by decide)) fun j => ?_
        rw [u2_row]
        by_cases e : j = i
        · subst e
          rw [sr_same, if_pos (by omega)]
        · rw [sr_ne e, hr j]
          by_cases q : j < i
          · rw [if_pos q, if_pos (by omega)]
          · rw [if_neg q, if_neg (by omega)]
theorem keeps_12 {d : Nat} {Q : Rs → Mem → Prop} {M0 : Mem} (h7 : M0 175 7 = 19)
    (hQ : ∀ M', FC [152] [] M0 M' → (∀ j, M' 152 j = if j < 1824 then M0 152 (j + 96) else M0 152 j) → L_M_keeps_32 d Q M' 0) :
    ∀ (k i : Nat) (M : Mem), i + k = 1824 → FC [152] [] M0 M → (∀ j, M 152 j = if j < i then M0 152 (j + 96) else M0 152 j) → L_M_keeps_12 d Q M (i : Int)
  | k, i, M, hk, hf, hr => by
    have e7 : M 175 7 = 19 := by rw [hf.2 7 (by simp)]; exact h7
    refine b_M_keeps_12 ?_
    rw [e7, show ((i : Int) + 96).toNat = i + 96 by omega, Int.toNat_natCast, hr (i + 96), if_neg (by omega)]
    refine ⟨⟨by omega, by omega⟩, ⟨by omega, by omega⟩, fun h => ?_, fun h => ⟨⟨by omega, by omega⟩, ⟨by omega, by omega⟩, ?_⟩⟩
    · have ei : i = 1824 := by omega
      subst ei
      exact hQ M hf hr
    · cases k with
      | zero => omega
      | succ k =>
        refine keeps_12 h7 hQ k (i + 1) _ (by omega) (hf.u2 (by simp) (by decide)) fun j => ?_
        rw [u2_row]
        by_cases e : j = i
        · subst e
          rw [sr_same, if_pos (by omega)]
        · rw [sr_ne e, hr j]
          by_cases q : j < i
          · rw [if_pos q, if_pos (by omega)]
          · rw [if_neg q, if_neg (by omega)]
/-- whether a job may come -/
def comeOk (n : Nat) (f : Nat → Int) (t : Int) : Prop := n < 24 ∧ (n = 0 ∨ f (4 * (n - 1)) ≤ t)
theorem RH.add {M M' : Mem} {u : Nat} {cnt : Nat → Int} {row : Nat → Nat → Int} (h : RH M u cnt row) (f : FC [151] [0, 6] M M') : RH M' u cnt row := by
  obtain ⟨h1, h2, h3⟩ := h
  refine ⟨h1, by rw [f.2 7 (by simp)]; exact h2, fun j hj => ?_⟩
  rw [f.1 153 (by decide) (by decide), f.1 152 (by decide) (by decide)]
  exact h3 j hj