/-! The reference's rows: multiplying. -/
/-- only this row's digits have changed -/
def MO (r : Nat) (M0 M : Mem) : Prop := (∀ a, a ≠ 163 → M a = M0 a) ∧ ∀ p, (p < 300 * r ∨ 300 * r + 300 ≤ p) → M 163 p = M0 163 p
theorem MO.rf {r : Nat} {M0 M : Mem} (h : MO r M0 M) : RF [r] M0 M := by
  refine ⟨fun a h1 _ => h.1 a h1, fun q _ => by rw [h.1 164 (by decide)], fun q k hq hk => h.2 _ ?_⟩
  have : q ≠ r := by simpa using hq
  omega
theorem MO.rdE {r q i : Nat} {M0 M : Mem} (h : MO r M0 M) (hq : q ≠ r) (hs : M0 164 q ≤ 300) : rd M q i = rd M0 q i := by
  rw [rd_kept h.rf (by simpa using hq) hs]
theorem MO.step {r i : Nat} {M0 M : Mem} {v : Int} (h : MO r M0 M) (hi : i < 300) : MO r M0 (upd2 M 163 (300 * r + i) v) := by
  refine ⟨fun a h1 => by rw [u2_off h1]; exact h.1 a h1, fun p hp => ?_⟩
  rw [u2_ne (by omega)]
  exact h.2 p hp
def raw (M : Mem) (r p : Nat) : Int := M 163 (300 * r + p)
theorem raw_up {M : Mem} {r q : Nat} {x : Int} : raw (upd2 M 163 (300 * r + q) x) r = sr (raw M r) q x := funext fun p => by
  unfold raw
  by_cases e : p = q
  · rw [e, sr_same, u2_same]
  · rw [sr_ne e, u2_ne (by omega)]
theorem mr_step {Z old x y c t q B Pi Pj A b2 : Int} (ih : Z + c * (Pi * Pj) = A + x * b2 * Pi) (hs : t + B * q = old + x * y + c) : Z + (t - old) * (Pi * Pj) + q * (Pi * (Pj * B)) = A + x * (b2 + y * Pj) * Pi := by
  have h : (t + B * q) * (Pi * Pj) = (old + x * y + c) * (Pi * Pj) := by rw [hs]
  grind
theorem mr_bound {old x y c : Int} (ho : 0 ≤ old ∧ old < 10000) (hx : 0 ≤ x ∧ x < 10000) (hy : 0 ≤ y ∧ y < 10000) (hc : 0 ≤ c ∧ c ≤ 9999) : 0 ≤ old + x * y + c ∧ old + x * y + c ≤ 99999999 := by
  have a1 : 0 ≤ x * y := Int.mul_nonneg hx.1 hy.1
  have a3 : x * y ≤ 9999 * 9999 := Int.mul_le_mul (by omega) (by omega) hy.1 (by decide)
  omega
theorem bs_zero {β : Int} {f : Nat → Int} {n : Nat} (h : ∀ p, p < n → f p = 0) : bs β f n = 0 := by
  have := bs_top (β := β) (f := f) (n := 0) (m := n) (Nat.zero_le n) fun i _ hi => h i hi
  rw [this]
  rfl