/-! The reference's rows: divideRows, whole. -/
theorem atI_kept {l : List Nat} {M M' : Mem} {r : Nat} {i : Int} (hf : RF l M M') (hr : r ∉ l) (h : M 164 r ≤ 300) : atI M' r i = atI M r i := by
  unfold atI
  rw [rd_kept hf hr h]
theorem dz_loop {d : Nat} {Q : Rs → Mem → Prop} {b sh : Nat} {M1 : Mem} {o1 : Option PV} (hsh : sh < 300)
    (hex : ∀ M' o5 o6 o7 o8 o9 o10, RF [195] M1 M' → (∀ p, p < sh + 1 → raw M' 195 p = 0) → L_M_divideRows_21 d Q M' o1 (b : Int) (sh : Int) ((sh + 1 : Nat) : Int) o5 o6 o7 o8 o9 o10) : ∀ (k i : Nat) (M : Mem) (o5 o6 o7 o8 o9 o10 : Option PV), i + k = sh + 1 → RF [195] M1 M → (∀ p, p < i → raw M 195 p = 0) → L_M_divideRows_21 d Q M o1 (b : Int) (sh : Int) (i : Int) o5 o6 o7 o8 o9 o10 := by
  intro k
  induction k with
  | zero =>
    intro i M o5 o6 o7 o8 o9 o10 hi hf hz
    have : i = sh + 1 := by omega
    subst this
    exact hex M _ _ _ _ _ _ hf hz
  | succ k ih =>
    intro i M o5 o6 o7 o8 o9 o10 hi hf hz
    refine b_M_divideRows_21 ?_
    rw [show (58500 + (i : Int)).toNat = 300 * 195 + i by omega]
    refine ⟨⟨by omega, by omega⟩, ⟨by omega, by omega⟩, fun h => absurd h (by omega), fun _ => ⟨⟨by omega, by omega⟩, ?_⟩⟩
    refine ih (i + 1) _ _ _ _ _ _ _ (by omega) (hf.digit (by simp) (by omega)) fun p hp => ?_
    rw [raw_up]
    by_cases q : p = i
    · rw [q, sr_same]
    · rw [sr_ne q]; exact hz p (by omega)