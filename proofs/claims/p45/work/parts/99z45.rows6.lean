/-! The reference's rows: the division. -/
theorem bs_mono {β : Int} (hβ : 0 < β) {f : Nat → Int} (hf : ∀ i, 0 ≤ f i) {a b : Nat} (h : a ≤ b) : bs β f a ≤ bs β f b := by
  obtain ⟨c, rfl⟩ := Nat.exists_eq_add_of_le h
  rw [bs_split]
  have h1 : 0 ≤ bs β (fun i => f (a + i)) c := bs_nonneg hβ fun i _ => hf (a + i)
  have h2 := Int.mul_nonneg (Int.le_of_lt (pw_pos hβ a)) h1
  omega
theorem top_le {f : Nat → Int} (hf : Dg 10000 f) {R : Int} {L m : Nat} (hR : R = bs 10000 f L) (hm : m + 3 ≤ L) : ((f (m + 2) * 10000 + f (m + 1)) * 10000 + f m) * 10000 ^ m ≤ R := by
  have h1 := bs_mono DD0 (fun i => (hf i).1) hm
  have h2 := hf.bs0 DD0 m
  have h3 : bs 10000 f (m + 3) = bs 10000 f m + f m * 10000 ^ m + f (m + 1) * 10000 ^ (m + 1) + f (m + 2) * 10000 ^ (m + 2) := rfl
  rw [Int.pow_succ, Int.pow_succ, Int.pow_succ] at h3
  have h4 : ((f (m + 2) * 10000 + f (m + 1)) * 10000 + f m) * 10000 ^ m = f m * 10000 ^ m + f (m + 1) * (10000 ^ m * 10000) + f (m + 2) * (10000 ^ m * 10000 * 10000) := by grind
  omega
/-- what is taken at once is never too much -/
theorem take_ok {take w R lead top3 Pn Ps : Int} (h1 : w * 100000000 ≤ (lead + 1) * Pn) (h2 : top3 * (Pn * Ps) ≤ R * 100000000) (h3 : take * (lead + 1) ≤ top3) (h0 : 0 ≤ take) (hn : 0 < Pn) (hs : 0 < Ps) : take * w * Ps ≤ R := by
  have a1 : take * (w * 100000000) ≤ take * ((lead + 1) * Pn) := Int.mul_le_mul_of_nonneg_left h1 h0
  have a2 : (take * (lead + 1)) * (Pn * Ps) ≤ top3 * (Pn * Ps) := Int.mul_le_mul_of_nonneg_right h3 (Int.le_of_lt (Int.mul_pos hn hs))
  have a3 : take * (w * 100000000) * Ps ≤ take * ((lead + 1) * Pn) * Ps := Int.mul_le_mul_of_nonneg_right a1 (Int.le_of_lt hs)
  have e1 : take * (w * 100000000) * Ps = (take * w * Ps) * 100000000 := by grind
  have e2 : take * ((lead + 1) * Pn) * Ps = (take * (lead + 1)) * (Pn * Ps) := by grind
  omega
def atI (M : Mem) (r : Nat) (i : Int) : Int := if i < 0 then 0 else rd M r i.toNat
theorem atI_nat {M : Mem} {r i : Nat} : atI M r (i : Int) = rd M r i := by
  unfold atI
  rw [if_neg (by omega), Int.toNat_natCast]
theorem atI_bd {M : Mem} {r : Nat} {i : Int} (h : Dg 10000 (rd M r)) : 0 ≤ atI M r i ∧ atI M r i < 10000 := by
  unfold atI
  by_cases q : i < 0
  · rw [if_pos q]; exact ⟨by decide, by decide⟩
  · rw [if_neg q]; exact h _
theorem lead_ok {M : Mem} {b n : Nat} {w : Int} (hw : Row M b w) (hn : M 164 b = n) (hn1 : 0 < n) : w * 100000000 ≤ (atI M b ((n : Int) - 1) * 10000 + atI M b ((n : Int) - 2) + 1) * 10000 ^ n := by
  obtain ⟨q1, q2, q3⟩ := hw.range hn
  rcases (show n = 1 ∨ 2 ≤ n by omega) with e | e
  · subst e
    rw [show (((1 : Nat) : Int) - 1) = ((0 : Nat) : Int) by omega, atI_nat]
    have e1 : atI M b (((1 : Nat) : Int) - 2) = 0 := if_pos (by omega)
    rw [e1, q3]
    have x := hw.1 0
    simp [bs]
    omega
  · obtain ⟨m, rfl⟩ : ∃ m, n = m + 2 := ⟨n - 2, by omega⟩
    rw [show (((m + 2 : Nat) : Int) - 1) = ((m + 1 : Nat) : Int) by omega, show (((m + 2 : Nat) : Int) - 2) = ((m : Nat) : Int) by omega, atI_nat, atI_nat]
    have e1 : w = bs 10000 (rd M b) m + rd M b m * 10000 ^ m + rd M b (m + 1) * 10000 ^ (m + 1) := q3
    have l := hw.1.bsl DD0 m
    rw [Int.pow_succ] at e1
    have e2 : (10000 : Int) ^ (m + 2) = 10000 ^ m * 100000000 := by rw [Int.pow_add]; rfl
    have e3 : (rd M b (m + 1) * 10000 + rd M b m + 1) * (10000 ^ m * 100000000) = (10000 ^ m + rd M b m * 10000 ^ m + rd M b (m + 1) * (10000 ^ m * 10000)) * 100000000 := by grind
    rw [e2, e3]
    omega
theorem top3_ok {M : Mem} {n s : Nat} {R : Int} (hR : Row M 196 R) (hn1 : 0 < n) : ((atI M 196 ((n : Int) + (s : Int)) * 10000 + atI M 196 ((n : Int) - 1 + (s : Int))) * 10000 + atI M 196 ((n : Int) - 2 + (s : Int))) * (10000 ^ n * 10000 ^ s) ≤ R * 100000000 := by
  have sz := hR.size
  have hL := hR.at_ (m := n + s + 303) (by omega)
  rw [← Int.pow_add]
  rcases (show n + s = 1 ∨ 2 ≤ n + s by omega) with e | e
  · have e1 : n = 1 := by omega
    have e2 : s = 0 := by omega
    subst e1 e2
    have z : atI M 196 (((1 : Nat) : Int) - 2 + ((0 : Nat) : Int)) = 0 := if_pos (by omega)
    rw [z, show ((1 : Nat) : Int) + ((0 : Nat) : Int) = ((1 : Nat) : Int) by omega, show ((1 : Nat) : Int) - 1 + ((0 : Nat) : Int) = ((0 : Nat) : Int) by omega, atI_nat, atI_nat]
    have h1 := bs_mono DD0 (fun i => (hR.1 i).1) (show 2 ≤ 1 + 0 + 303 by omega)
    rw [← hL] at h1
    have h2 : bs 10000 (rd M 196) 2 = 0 + rd M 196 0 * 10000 ^ 0 + rd M 196 1 * 10000 ^ 1 := rfl
    simp at h2 ⊢
    omega
  · obtain ⟨m, hm⟩ : ∃ m, n + s = m + 2 := ⟨n + s - 2, by omega⟩
    rw [show (n : Int) + (s : Int) = ((m + 2 : Nat) : Int) by omega, show (n : Int) - 1 + (s : Int) = ((m + 1 : Nat) : Int) by omega, show (n : Int) - 2 + (s : Int) = ((m : Nat) : Int) by omega, atI_nat, atI_nat, atI_nat, hm]
    have h1 := top_le (m := m) hR.1 hL (by omega)
    have e2 : (10000 : Int) ^ (m + 2) = 10000 ^ m * 100000000 := by rw [Int.pow_add]; rfl
    rw [e2, ← Int.mul_assoc]
    omega