/-! Big: one step of the division. -/
/-- guess: the digit, or one more -/
theorem s_guess {d : Nat} {M : Mem} {r0 r1 s n : Nat} (hr0 : IsBig r0) (hr1 : IsBig r1) (hf : Dg BB (M (r0 + 1))) (hg : Dg BB (M (r1 + 1))) (hn : M r1 1 = n) (hn2 : 2 ≤ n) (hs : s + n < 20)
    (htop : 500000000 ≤ M (r1 + 1) (n - 1)) {U D : Int} (hU : U = bs BB (fun j => M (r0 + 1) (s + j)) (n + 1)) (hD : D = bs BB (M (r1 + 1)) n) (hUD : U < 1000000000 * D) :
    Post (d + 1) cB_guess [oB r0, oB r1, .inl (s : Int)] M (fun b M' => M' = M ∧ 0 ≤ b ∧ b < 1000000000 ∧ (b - 1) * D ≤ U ∧ U < (b + 1) * D) := by
  intro Q hQ
  obtain ⟨m, rfl⟩ : ∃ m, n = m + 2 := ⟨n - 2, by omega⟩
  have eD : D = (M (r1 + 1) (m + 1) * 1000000000 + M (r1 + 1) m) * BB ^ m + bs BB (M (r1 + 1)) m := by
    rw [hD]
    show bs BB _ m + _ * BB ^ m + _ * BB ^ (m + 1) = _
    rw [Int.pow_succ, show (1000000000 : Int) = BB from rfl]
    grind
  have eU : U = ((M (r0 + 1) (s + (m + 2)) * 1000000000 + M (r0 + 1) (s + (m + 1))) * 1000000000 + M (r0 + 1) (s + m)) * BB ^ m + bs BB (fun j => M (r0 + 1) (s + j)) m := by
    rw [hU]
    show bs BB _ m + _ * BB ^ m + _ * BB ^ (m + 1) + _ * BB ^ (m + 2) = _
    rw [Int.pow_succ, Int.pow_succ, Int.pow_succ, show (1000000000 : Int) = BB from rfl]
    grind
  have hf' : Dg BB (fun j => M (r0 + 1) (s + j)) := fun j => hf (s + j)
  have i2 := hf.i32 (s + (m + 2))
  have i1 := hf.i32 (s + (m + 1))
  have i0 := hf.i32 (s + m)
  have k1 := hg.i32 (m + 1)
  have k0 := hg.i32 m
  have hP := pw_pos BB0 m
  have bD := hg.bs0 BB0 m
  have bD' := hg.bsl BB0 m
  have bU := hf'.bs0 BB0 m
  have bU' := hf'.bsl BB0 m
  rw [show m + 2 - 1 = m + 1 by omega] at htop
  have t1 : ((s : Int) + ((m + 2 : Nat) : Int)).toNat = s + (m + 2) := by omega
  have t2 : ((s : Int) + ((m + 2 : Nat) : Int) - 1).toNat = s + (m + 1) := by omega
  have t3 : ((s : Int) + ((m + 2 : Nat) : Int) - 2).toNat = s + m := by omega
  have t4 : (((m + 2 : Nat) : Int) - 1).toNat = m + 1 := by omega
  have t5 : (((m + 2 : Nat) : Int) - 2).toNat = m := by omega
  have hDp : 0 < D := by
    have : 1 * BB ^ m ≤ (M (r1 + 1) (m + 1) * 1000000000 + M (r1 + 1) m) * BB ^ m := Int.mul_le_mul_of_nonneg_right (by omega) (Int.le_of_lt hP)
    omega
  have hl1 : M (r0 + 1) (s + (m + 2)) ≤ M (r1 + 1) (m + 1) := by
    rcases Int.lt_or_le (M (r1 + 1) (m + 1)) (M (r0 + 1) (s + (m + 2))) with h | h
    · exfalso
      have a1 : ((M (r1 + 1) (m + 1) + 1) * 1000000000 * 1000000000) * BB ^ m ≤ ((M (r0 + 1) (s + (m + 2)) * 1000000000 + M (r0 + 1) (s + (m + 1))) * 1000000000 + M (r0 + 1) (s + m)) * BB ^ m := Int.mul_le_mul_of_nonneg_right (by omega) (Int.le_of_lt hP)
      have a2 : (M (r1 + 1) (m + 1) * 1000000000 + M (r1 + 1) m + 1) * BB ^ m ≤ ((M (r1 + 1) (m + 1) + 1) * 1000000000) * BB ^ m := Int.mul_le_mul_of_nonneg_right (by omega) (Int.le_of_lt hP)
      have e1 : (M (r1 + 1) (m + 1) * 1000000000 + M (r1 + 1) m + 1) * BB ^ m = (M (r1 + 1) (m + 1) * 1000000000 + M (r1 + 1) m) * BB ^ m + BB ^ m := by grind
      have e2 : ((M (r1 + 1) (m + 1) + 1) * 1000000000 * 1000000000) * BB ^ m = 1000000000 * (((M (r1 + 1) (m + 1) + 1) * 1000000000) * BB ^ m) := by grind
      omega
    · exact h
  refine e_B_guess hr0 hr1 (b_B_guess_0 hr0 hr1 ?_)
  rw [hn, t1, t2, t4, t5]
  refine ⟨⟨by omega, by omega⟩, fun h => absurd h (by omega), fun _ => ⟨⟨by omega, by omega⟩, fun _ => ⟨⟨by omega, by omega⟩, ⟨by omega, by omega⟩, ⟨by omega, by omega⟩, ⟨by omega, by omega⟩, ⟨by omega, by omega⟩, fun _ => ?_, fun h => absurd h (by omega)⟩, fun h => absurd (by omega) h⟩⟩
  refine ⟨⟨by omega, by omega⟩, ⟨by omega, by omega⟩, ⟨by omega, by omega⟩, ⟨by omega, by omega⟩, ⟨by omega, by omega⟩, ⟨by omega, by omega⟩, ?_⟩
  generalize hld : M (r0 + 1) (s + (m + 2)) * 1000000000 + M (r0 + 1) (s + (m + 1)) = lead at *
  have hq0 : 0 ≤ lead / M (r1 + 1) (m + 1) := Int.ediv_nonneg (by omega) (by omega)
  have hq1 : lead / M (r1 + 1) (m + 1) < 1000000002 := Int.ediv_lt_of_lt_mul (by omega) (by
    have : 1000000002 * M (r1 + 1) (m + 1) = 1000000000 * M (r1 + 1) (m + 1) + 2 * M (r1 + 1) (m + 1) := by grind
    omega)
  have hm0 : 0 ≤ lead % M (r1 + 1) (m + 1) := Int.emod_nonneg _ (by omega)
  have hm1 : lead % M (r1 + 1) (m + 1) < M (r1 + 1) (m + 1) := Int.emod_lt_of_pos _ (by omega)
  have hde : lead = lead / M (r1 + 1) (m + 1) * M (r1 + 1) (m + 1) + lead % M (r1 + 1) (m + 1) := by
    have := Int.mul_ediv_add_emod lead (M (r1 + 1) (m + 1))
    rw [Int.mul_comm] at this
    exact this.symm
  refine guess_loop (u2 := M (r0 + 1) (s + m)) (lead := lead) (U := U) (D := D) (P := BB ^ m) hr0 ⟨by omega, by omega⟩ (by rw [t3]) i0 ⟨by omega, by omega⟩ k0 (by omega) eD eU ⟨bD, bD'⟩ ⟨bU, bU'⟩ hP hDp hUD (fun dg g1 g2 g3 g4 => hQ dg M ⟨rfl, g1, g2, g3, g4⟩) 2 0 _ _ _ (by omega) (by omega) (by omega) hm0 hq0 (by omega) (by omega) hde ?_
  refine g_init eD eU k0.1 bD i0.2 bU' hP (by decide) hq0 ?_
  have : (lead / M (r1 + 1) (m + 1) + 1) * M (r1 + 1) (m + 1) = lead / M (r1 + 1) (m + 1) * M (r1 + 1) (m + 1) + M (r1 + 1) (m + 1) := by grind
  omega
theorem pb_step {a b c x y B P t q r : Int} (ih : r + c * P = a + b) (hs : t + B * q = x + y + c) : r + t * P + q * (P * B) = a + x * P + (b + y * P) := by grind
theorem pb_loop {d : Nat} {Q : Rs → Mem → Prop} {r0 r1 s n : Nat} {M0 : Mem} (hr0 : IsBig r0) (hr1 : IsBig r1) (hne : r0 ≠ r1) (hf0 : Dg BB (M0 (r0 + 1))) (hg : Dg BB (M0 (r1 + 1))) (hn : M0 r1 1 = n) (hs : s + n < 20)
    (hQ : ∀ M' c, Fr [r0 + 1] M0 M' → Dg BB (M' (r0 + 1)) → (∀ j, j < s ∨ s + n ≤ j → M' (r0 + 1) j = M0 (r0 + 1) j) → (0 ≤ c ∧ c ≤ 1) → bs BB (fun j => M' (r0 + 1) (s + j)) n + c * BB ^ n = bs BB (fun j => M0 (r0 + 1) (s + j)) n + bs BB (M0 (r1 + 1)) n → Q (.inl 0) M') :
    ∀ (k i : Nat) (M : Mem) (c : Int) (o6 o7 : Option PV), i + k = n → Fr [r0 + 1] M0 M → Dg BB (M (r0 + 1)) → (∀ j, j < s ∨ s + i ≤ j → M (r0 + 1) j = M0 (r0 + 1) j) → (0 ≤ c ∧ c ≤ 1) →
    bs BB (fun j => M (r0 + 1) (s + j)) i + c * BB ^ i = bs BB (fun j => M0 (r0 + 1) (s + j)) i + bs BB (M0 (r1 + 1)) i → L_B_putBack_4 d Q M r0 r1 (s : Int) c (i : Int) o6 o7 := by
  have e0 : r0 % 2 = 0 := hr0.2
  have e1 : r1 % 2 = 0 := hr1.2
  intro k
  induction k with
  | zero =>
    intro i M c o6 o7 hi hfr hD hsame hc hI
    have ei : i = n := by omega
    subst ei
    have hm : M r1 1 = i := by rw [hfr r1 (by simp; omega)]; exact hn
    refine b_B_putBack_4 hr0 hr1 ⟨⟨by omega, by omega⟩, ?_⟩
    rw [hm]
    exact ⟨⟨by omega, by omega⟩, fun _ => hQ M c hfr hD hsame hc hI, fun h => absurd (Int.le_refl _) h⟩
  | succ k ih =>
    intro i M c o6 o7 hi hfr hD hsame hc hI
    have hm : M r1 1 = n := by rw [hfr r1 (by simp; omega)]; exact hn
    have hgr : M (r1 + 1) = M0 (r1 + 1) := hfr _ (by simp; omega)
    have hx := hD.i32 (s + i)
    have hy := hg.i32 i
    have et : ((s : Int) + (i : Int)).toNat = s + i := by omega
    refine b_B_putBack_4 hr0 hr1 ⟨⟨by omega, by omega⟩, ?_⟩
    rw [hm, et, Int.toNat_natCast, hgr]
    refine ⟨⟨by omega, by omega⟩, fun h => absurd h (by omega), fun _ => ⟨⟨by omega, by omega⟩, fun h => absurd h (by omega), fun _ => ⟨⟨by omega, by omega⟩, ⟨by omega, by omega⟩, ⟨by omega, by omega⟩, ⟨by omega, by omega⟩, ⟨by omega, by omega⟩, ?_⟩⟩⟩
    refine ih (i + 1) _ _ _ _ (by omega) (hfr.u2 (by simp)) ?_ ?_ ⟨by omega, by omega⟩ ?_
    · rw [u2_row]
      exact srB hD ⟨by omega, by omega⟩
    · intro j hj
      rw [u2_ne (by omega)]
      exact hsame j (by omega)
    · rw [u2_row]
      show bs BB (fun j => sr _ _ _ (s + j)) i + sr _ _ _ (s + i) * BB ^ i + _ * BB ^ (i + 1) = bs BB (fun j => M0 (r0 + 1) (s + j)) i + M0 (r0 + 1) (s + i) * BB ^ i + (bs BB (M0 (r1 + 1)) i + M0 (r1 + 1) i * BB ^ i)
      rw [show bs BB (fun j => sr (M (r0 + 1)) (s + i) ((M (r0 + 1) (s + i) + M0 (r1 + 1) i + c) % 1000000000) (s + j)) i = bs BB (fun j => M (r0 + 1) (s + j)) i from bs_congr fun j hj => sr_ne (by omega), sr_same, Int.pow_succ, ← hsame (s + i) (by omega)]
      exact pb_step hI (Int.emod_add_mul_ediv _ _)
theorem s_putBack {d : Nat} {M : Mem} {r0 r1 s n : Nat} (hr0 : IsBig r0) (hr1 : IsBig r1) (hne : r0 ≠ r1) (hf0 : Dg BB (M (r0 + 1))) (hg : Dg BB (M (r1 + 1))) (hn : M r1 1 = n) (hs : s + n < 20) :
    Post (d + 1) cB_putBack [oB r0, oB r1, .inl (s : Int)] M (fun _ M' => Fr [r0 + 1] M M' ∧ Dg BB (M' (r0 + 1)) ∧ (∀ j, j < s ∨ s + n ≤ j → M' (r0 + 1) j = M (r0 + 1) j) ∧ ∃ c : Int, (0 ≤ c ∧ c ≤ 1) ∧ bs BB (fun j => M' (r0 + 1) (s + j)) n + c * BB ^ n = bs BB (fun j => M (r0 + 1) (s + j)) n + bs BB (M (r1 + 1)) n) := by
  intro Q hQ
  exact e_B_putBack hr0 hr1 (b_B_putBack_0 hr0 hr1 (pb_loop (M0 := M) hr0 hr1 hne hf0 hg hn hs (fun M' c h1 h2 h3 h4 h5 => hQ 0 M' ⟨h1, h2, h3, c, h4, h5⟩) n 0 M 0 _ _ (by omega) Fr.rfl' hf0 (fun _ _ => rfl) ⟨by omega, by omega⟩ (by simp [bs])))
