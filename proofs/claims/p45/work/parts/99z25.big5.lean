/-! Big: the schoolbook's division. -/
theorem bs_split {β : Int} {f : Nat → Int} {s : Nat} : ∀ {k : Nat}, bs β f (s + k) = bs β f s + β ^ s * bs β (fun i => f (s + i)) k
  | 0 => by simp [bs]
  | k + 1 => by
    show bs β f (s + k) + f (s + k) * β ^ (s + k) = bs β f s + β ^ s * (bs β (fun i => f (s + i)) k + f (s + k) * β ^ k)
    rw [bs_split (k := k), Int.pow_add]
    grind
theorem sg_head {β : Int} {f : Nat → Int} {s k : Nat} : bs β (fun i => f (s + i)) (k + 1) = f s + β * bs β (fun i => f (s + 1 + i)) k := by
  have h := bs_split (β := β) (f := fun i => f (s + i)) (s := 1) (k := k)
  rw [Nat.add_comm 1 k] at h
  rw [h, show bs β (fun i => f (s + (1 + i))) k = bs β (fun i => f (s + 1 + i)) k from bs_congr fun i _ => by rw [Nat.add_assoc]]
  have e1 : β ^ 1 = β := by rw [Int.pow_succ]; simp
  rw [e1]
  simp [bs]
theorem divq {U D b : Int} (h : b * D ≤ U) (h2 : U < (b + 1) * D) : U / D = b ∧ U % D = U - b * D := by
  have e0 : (b + 1) * D = b * D + D := by grind
  have e3 : U = D * b + (U - b * D) := by grind
  have r0 : 0 ≤ U - b * D := by omega
  have r1 : U - b * D < D := by omega
  constructor
  · rw [e3, Int.mul_add_ediv_left _ _ (by omega), Int.ediv_eq_zero_of_lt r0 r1, Int.add_zero]
  · conv => lhs; rw [e3]
    rw [Int.mul_add_emod_self_left, Int.emod_eq_of_lt r0 r1]
section
variable {digit rest q D U d1 d2 D' u2 U' lead P B : Int}
theorem g_init (hD : D = (d1 * B + d2) * P + D') (hU : U = (lead * B + u2) * P + U') (h1 : 0 ≤ d2) (h2 : 0 ≤ D') (h3 : u2 < B) (h4 : U' < P) (hP : 0 < P) (hB : 0 < B) (hq : 0 ≤ digit) (h : lead < (digit + 1) * d1) : U < (digit + 1) * D := by
  have a1 : (lead + 1) * (B * P) ≤ ((digit + 1) * d1) * (B * P) := Int.mul_le_mul_of_nonneg_right h (Int.le_of_lt (Int.mul_pos hB hP))
  have a0 : 0 ≤ d2 * P := Int.mul_nonneg h1 (Int.le_of_lt hP)
  have a2 : 0 ≤ (digit + 1) * (d2 * P + D') := Int.mul_nonneg (by omega) (by omega)
  have a3 : (u2 + 1) * P ≤ B * P := Int.mul_le_mul_of_nonneg_right h3 (Int.le_of_lt hP)
  have e1 : (digit + 1) * D = ((digit + 1) * d1) * (B * P) + (digit + 1) * (d2 * P + D') := by rw [hD]; grind
  have e2 : U = lead * (B * P) + u2 * P + U' := by rw [hU]; grind
  have e3 : (lead + 1) * (B * P) = lead * (B * P) + B * P := by grind
  have e4 : (u2 + 1) * P = u2 * P + P := by grind
  omega
theorem g_test (hD : D = (d1 * B + d2) * P + D') (hU : U = (lead * B + u2) * P + U') (h2 : 0 ≤ D') (h4 : U' < P) (hP : 0 < P) (hq : 0 ≤ digit) (hl : lead = digit * d1 + rest) (ht : rest * B + u2 < digit * d2) : U < digit * D := by
  have e0 : digit * (d1 * B + d2) = lead * B - rest * B + digit * d2 := by rw [hl]; grind
  have a1 : (lead * B + u2 + 1) * P ≤ (digit * (d1 * B + d2)) * P := Int.mul_le_mul_of_nonneg_right (by omega) (Int.le_of_lt hP)
  have a2 : 0 ≤ digit * D' := Int.mul_nonneg hq h2
  have e1 : digit * D = (digit * (d1 * B + d2)) * P + digit * D' := by rw [hD]; grind
  have e2 : (lead * B + u2 + 1) * P = (lead * B + u2) * P + P := by grind
  omega
theorem g_done1 (hD : D = (d1 * B + d2) * P + D') (hU : U = (lead * B + u2) * P + U') (h1 : 0 ≤ d2) (h2 : 0 ≤ D' ∧ D' < P) (h4 : 0 ≤ U') (hP : 0 < P) (hB : 0 < B) (hd1 : 1 ≤ d1) (hq : 0 ≤ digit) (hq2 : digit < B) (hl : lead = digit * d1 + rest) (ht : digit * d2 ≤ rest * B + u2) : (digit - 1) * D ≤ U := by
  have e0 : digit * (d1 * B + d2) = lead * B - rest * B + digit * d2 := by rw [hl]; grind
  have a1 : (digit * (d1 * B + d2)) * P ≤ (lead * B + u2) * P := Int.mul_le_mul_of_nonneg_right (by omega) (Int.le_of_lt hP)
  have a2 : digit * D' ≤ digit * P := Int.mul_le_mul_of_nonneg_left (by omega) hq
  have a4 : digit * P ≤ B * P := Int.mul_le_mul_of_nonneg_right (by omega) (Int.le_of_lt hP)
  have a5 : 1 * (B * P) ≤ d1 * (B * P) := Int.mul_le_mul_of_nonneg_right hd1 (Int.le_of_lt (Int.mul_pos hB hP))
  have a6 : 0 ≤ d2 * P := Int.mul_nonneg h1 (Int.le_of_lt hP)
  have e1 : (digit - 1) * D = (digit * (d1 * B + d2)) * P + digit * D' - D := by rw [hD]; grind
  have e2 : D = d1 * (B * P) + d2 * P + D' := by rw [hD]; grind
  omega
theorem g_done2 (hD : D = (d1 * B + d2) * P + D') (hU : U = (lead * B + u2) * P + U') (h1 : 0 ≤ d2 ∧ d2 < B) (h2 : D' < P) (h3 : 0 ≤ u2) (h4 : 0 ≤ U') (hP : 0 < P) (hq : 0 ≤ digit) (hq2 : digit < B) (hl : lead = digit * d1 + rest) (ht : B ≤ rest) : digit * D ≤ U := by
  have e0 : digit * (d1 * B + d2) + digit = lead * B - rest * B + digit * (d2 + 1) := by rw [hl]; grind
  have b1 : digit * (d2 + 1) ≤ digit * B := Int.mul_le_mul_of_nonneg_left (by omega) hq
  have b2 : digit * B ≤ B * B := Int.mul_le_mul_of_nonneg_right (by omega) (by omega)
  have b3 : B * B ≤ rest * B := Int.mul_le_mul_of_nonneg_right ht (by omega)
  have a1 : (digit * (d1 * B + d2) + digit) * P ≤ (lead * B + u2) * P := Int.mul_le_mul_of_nonneg_right (by omega) (Int.le_of_lt hP)
  have a2 : digit * D' ≤ digit * P := Int.mul_le_mul_of_nonneg_left (by omega) hq
  have e1 : digit * D = (digit * (d1 * B + d2) + digit) * P - digit * P + digit * D' := by rw [hD]; grind
  omega
end
theorem guess_loop {d : Nat} {Q : Rs → Mem → Prop} {M : Mem} {r0 : Nat} {o1 o2 o8 : Option PV} {top d1 d2 u2 lead U D P D' U' : Int} (hr0 : IsBig r0) (htop : 2 ≤ top ∧ top < 20) (hu2 : M (r0 + 1) (top - 2).toNat = u2) (bu2 : 0 ≤ u2 ∧ u2 < 1000000000)
    (hd1 : 1000000000 ≤ 2 * d1 ∧ d1 < 1000000000) (hd2 : 0 ≤ d2 ∧ d2 < 1000000000) (hlead : lead ≤ d1 * 1000000000 + 999999999) (hD : D = (d1 * 1000000000 + d2) * P + D') (hU : U = (lead * 1000000000 + u2) * P + U') (hD' : 0 ≤ D' ∧ D' < P) (hU' : 0 ≤ U' ∧ U' < P) (hP : 0 < P)
    (hDp : 0 < D) (hUD : U < 1000000000 * D) (hQ : ∀ dg : Int, 0 ≤ dg → dg < 1000000000 → (dg - 1) * D ≤ U → U < (dg + 1) * D → Q (.inl dg) M) :
    ∀ (k : Nat) (t digit rest : Int) (o9 : Option PV), t + k = 2 → k ≤ 2 → 2 * d1 ≤ rest + (k : Int) * d1 → 0 ≤ rest → 0 ≤ digit → digit ≤ 1000000001 → rest ≤ 9000000000 → lead = digit * d1 + rest → U < (digit + 1) * D → L_B_guess_64 d Q M r0 o1 o2 top d1 d2 o8 o9 digit rest t := by
  have hbig : ∀ digit rest : Int, 0 ≤ digit → lead = digit * d1 + rest → 1000000000 ≤ rest → U < (digit + 1) * D → Q (.inl digit) M := by
    intro digit rest h0 hl hr hlt
    have hdB : digit < 1000000000 := by
      rcases Int.lt_or_le digit 1000000000 with h | h
      · exact h
      · have : 1000000000 * d1 ≤ digit * d1 := Int.mul_le_mul_of_nonneg_right h (by omega)
        omega
    have h1 := g_done2 hD hU hd2 hD'.2 bu2.1 hU'.1 hP h0 hdB hl hr
    exact hQ digit h0 hdB (by have e : (digit - 1) * D = digit * D - D := by grind
                              omega) hlt
  intro k
  induction k with
  | zero =>
    intro t digit rest o9 ht hk2 hr r0' d0 dB rB hl hlt
    refine b_B_guess_64 hr0 ⟨⟨by omega, by omega⟩, fun h => absurd h (by omega), fun _ => ⟨⟨by omega, by omega⟩, fun h => hbig digit rest d0 hl h hlt, fun h => absurd (show 1000000000 ≤ rest by simp at hr; omega) h⟩⟩
  | succ k ih =>
    intro t digit rest o9 ht hk2 hr r0' d0 dB rB hl hlt
    have ek : (((k + 1 : Nat) : Int)) * d1 = (k : Int) * d1 + d1 := by rw [Int.natCast_add, Int.add_mul]; simp
    have el : lead = (digit - 1) * d1 + (rest + d1) := by rw [hl]; grind
    refine b_B_guess_64 hr0 ⟨⟨by omega, by omega⟩, fun h => absurd h (by omega), fun _ => ⟨⟨by omega, by omega⟩, fun h => hbig digit rest d0 hl h hlt, fun h => ⟨⟨by omega, by omega⟩, fun h2 => ?_, fun h2 => ?_⟩⟩⟩
    · refine ih (t + 1) (digit - 1) (rest + d1) _ (by omega) (by omega) (by omega) (by omega) (by omega) (by omega) (by omega) el ?_
      have : 1000000000 * D ≤ digit * D := Int.mul_le_mul_of_nonneg_right h2 (by omega)
      rw [Int.sub_add_cancel]
      omega
    · have m0 : 0 ≤ digit * d2 := Int.mul_nonneg d0 hd2.1
      have m1 : digit * d2 ≤ 999999999 * 999999999 := Int.mul_le_mul (by omega) (by omega) hd2.1 (by decide)
      rw [hu2]
      refine ⟨⟨by omega, by omega⟩, ⟨by omega, by omega⟩, ⟨by omega, by omega⟩, ⟨by omega, by omega⟩, fun h3 => ?_, fun h3 => ?_⟩
      · exact hQ digit d0 (by omega) (g_done1 hD hU hd2.1 hD' hU'.1 hP (by decide) (by omega) d0 (by omega) hl h3) hlt
      · have hz : digit ≠ 0 := by
          intro e
          rw [e, Int.zero_mul] at h3
          omega
        refine ih (t + 1) (digit - 1) (rest + d1) _ (by omega) (by omega) (by omega) (by omega) (by omega) (by omega) (by omega) el ?_
        rw [Int.sub_add_cancel]
        exact g_test hD hU hD'.1 hU'.2 hP d0 hl (by omega)
