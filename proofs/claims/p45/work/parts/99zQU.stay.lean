/-! The shares of a closed net stay. -/
theorem mv_dig : ∀ n, n < 5 → ∀ s, s < 4 ^ n → ∀ to, to < n → ∀ fr, fr < n → ∀ k, k < n → (!(jS s n == 2) || (jA s to == 0) || (jA (mvS s to fr) k + (if k = to then 1 else 0) == jA s k + (if k = fr then 1 else 0))) = true := by decide +kernel
theorem shN_mv {w : Nat → Nat} {s s' to fr n : Nat} (h : ∀ k, k < n → jA s' k + (if k = to then 1 else 0) = jA s k + (if k = fr then 1 else 0)) : ∀ m, m ≤ n → shN w s' m * (if to < m then w to else 1) = shN w s m * (if fr < m then w fr else 1)
  | 0, _ => rfl
  | m + 1, hm => by
    have ih := shN_mv h m (by omega)
    have hk := h m (by omega)
    have e : ∀ c, (if c < m + 1 then w c else 1) = (if c < m then w c else 1) * w m ^ (if m = c then 1 else 0) := fun c => by
      by_cases z : m = c
      · rw [if_pos z, if_neg (show ¬ c < m by omega), if_pos (show c < m + 1 by omega), z, Nat.pow_one, Nat.one_mul]
      · rw [if_neg z, Nat.pow_zero, Nat.mul_one]
        by_cases y : c < m
        · rw [if_pos y, if_pos (by omega)]
        · rw [if_neg y, if_neg (by omega)]
    show shN w s' m * w m ^ jA s' m * _ = shN w s m * w m ^ jA s m * _
    rw [e, e, Nat.mul_mul_mul_comm, ← Nat.pow_add, ih, hk, Nat.pow_add, ← Nat.mul_mul_mul_comm]
theorem ct_bal {n to : Nat} {C S : Nat → Int} {A : Nat → Nat → Int} (hO : nOk n C S A) (hcl : closedOk n C A) (hto : to < n) : sumT (fun k => ((ctN n A k : Nat) : Int) * A k to) n = 100 * ((ctN n A to : Nat) : Int) := by
  sorry
