/-! The reference's rows: setting, copying, comparing, adding, subtracting. -/
theorem set_loop {d : Nat} {Q : Rs → Mem → Prop} {r : Nat} {v : Int} {M0 : Mem} (hr : r < 200) (hQ : ∀ M', RF [r] M0 M' → Row M' r v → Q (.inl 0) M') : ∀ (k n : Nat) (M : Mem) (j : Int) (o2 o3 : Option PV), n + k ≤ 6 → 0 ≤ j → j < 10000 ^ k → j < 9223372036854775808 → RF [r] M0 M → M 164 r = n → (∀ i, i < n → 0 ≤ M 163 (300 * r + i) ∧ M 163 (300 * r + i) < 10000) → (0 < j ∨ n = 0 ∨ M 163 (300 * r + (n - 1)) ≠ 0) →
    v = bs 10000 (fun i => M 163 (300 * r + i)) n + j * 10000 ^ n → L_M_setRow_7 d Q M (r : Int) o2 o3 j := by
  have fin : ∀ (n : Nat) (M : Mem) (j : Int), n ≤ 6 → j = 0 → RF [r] M0 M → M 164 r = n → (∀ i, i < n → 0 ≤ M 163 (300 * r + i) ∧ M 163 (300 * r + i) < 10000) → (0 < j ∨ n = 0 ∨ M 163 (300 * r + (n - 1)) ≠ 0) → v = bs 10000 (fun i => M 163 (300 * r + i)) n + j * 10000 ^ n → Q (.inl 0) M := by
    intro n M j hn hj hf hs hd ht hv
    subst hj
    rw [Int.zero_mul, Int.add_zero] at hv
    refine hQ M hf ?_
    rw [hv]
    exact Row.mk (by omega) hs hd (ht.resolve_left (by omega))
  intro k
  induction k with
  | zero =>
    intro n M j o2 o3 hn h0 hj hj2 hf hs hd ht hv
    have hj1 : j < 1 := by simpa using hj
    exact b_M_setRow_7 ⟨⟨by omega, by omega⟩, fun _ => fin n M j (by omega) (by omega) hf hs hd ht hv, fun h => absurd (by omega) h⟩
  | succ k ih =>
    intro n M j o2 o3 hn h0 hj hj2 hf hs hd ht hv
    refine b_M_setRow_7 ⟨⟨by omega, by omega⟩, fun h => fin n M j (by omega) (by omega) hf hs hd ht hv, fun h => ?_⟩
    have et : (300 * (r : Int) + (n : Int)).toNat = 300 * r + n := by omega
    rw [Int.toNat_natCast, hs, et]
    refine ⟨⟨by omega, by omega⟩, ⟨by omega, by omega⟩, ⟨by omega, by omega⟩, ?_⟩
    have hrow : (upd2 (upd2 M 163 (300 * r + n) (j % 10000)) 164 r ((n : Int) + 1)) 163 = sr (M 163) (300 * r + n) (j % 10000) := by rw [u2_off (by decide), u2_row]
    refine ih (n + 1) _ (j / 10000) _ _ (by omega) (by omega) ?_ (by omega) ((hf.digit (by simp) (by omega)).size (by simp)) (by rw [u2_same]; omega) (fun i hi => ?_) ?_ ?_
    · rw [Int.pow_succ] at hj
      exact Int.ediv_lt_of_lt_mul (by decide) hj
    · rw [hrow]
      by_cases e : i = n
      · rw [e, sr_same]; omega
      · rw [sr_ne (by omega)]; exact hd i (by omega)
    · rw [hrow, Nat.add_sub_cancel, sr_same]
      omega
    · rw [hrow]
      show v = bs 10000 (fun i => sr (M 163) (300 * r + n) (j % 10000) (300 * r + i)) n + sr (M 163) (300 * r + n) (j % 10000) (300 * r + n) * 10000 ^ n + j / 10000 * 10000 ^ (n + 1)
      rw [show bs 10000 (fun i => sr (M 163) (300 * r + n) (j % 10000) (300 * r + i)) n = bs 10000 (fun i => M 163 (300 * r + i)) n from bs_congr fun i hi => sr_ne (by omega), sr_same, hv, Int.pow_succ]
      have e := Int.emod_add_mul_ediv j 10000
      have e2 : j * 10000 ^ n = (j % 10000 + 10000 * (j / 10000)) * 10000 ^ n := by rw [e]
      rw [e2]
      grind
theorem copy_loop {d : Nat} {Q : Rs → Mem → Prop} {a b n : Nat} {v : Int} {M0 : Mem} (ha : a < 200) (hb : b < 200) (hab : a ≠ b) (hv : Row M0 a v) (hn : M0 164 a = n) (hQ : ∀ M', RF [b] M0 M' → Row M' b v → Q (.inl 0) M') :
    ∀ (k i : Nat) (M : Mem), i + k = n → RF [b] M0 M → M 164 b = n → (∀ j, j < i → M 163 (300 * b + j) = M0 163 (300 * a + j)) → L_M_copyRow_10 d Q M (a : Int) (b : Int) (i : Int) := by
  have hsz := hv.size
  have hd : ∀ i, i < n → 0 ≤ M0 163 (300 * a + i) ∧ M0 163 (300 * a + i) < 10000 := fun i hi => by
    have := hv.1 i
    unfold rd at this
    rwa [if_pos (by omega)] at this
  intro k
  induction k with
  | zero =>
    intro i M hi hf hs hc
    have ha' : M 164 a = n := by rw [hf.2.1 a (by simpa using hab)]; exact hn
    have hin : i = n := by omega
    refine b_M_copyRow_10 ?_
    rw [Int.toNat_natCast, ha']
    refine ⟨⟨by omega, by omega⟩, ⟨by omega, by omega⟩, ⟨by omega, by omega⟩, fun _ => hQ M hf ?_, fun h => absurd (by omega) h⟩
    subst hin
    obtain ⟨q1, q2, q3⟩ := hv.range hn
    have hr : v = bs 10000 (fun j => M 163 (300 * b + j)) i := by
      rw [q3]
      exact bs_congr fun j hj => by
        rw [hc j hj]
        exact if_pos (by omega)
    rw [hr]
    refine Row.mk (by omega) hs (fun j hj => by rw [hc j hj]; exact hd j hj) ?_
    by_cases e : i = 0
    · exact Or.inl e
    · refine Or.inr ?_
      rw [hc _ (by omega)]
      obtain ⟨h1, n', h2, h3, h4, h5⟩ := hv
      have en : n' = i := by omega
      subst en
      rcases h4 with h4 | h4
      · exact absurd h4 e
      · unfold rd at h4
        rwa [if_pos (by omega)] at h4
  | succ k ih =>
    intro i M hi hf hs hc
    have ha' : M 164 a = n := by rw [hf.2.1 a (by simpa using hab)]; exact hn
    refine b_M_copyRow_10 ?_
    rw [Int.toNat_natCast, ha', show (300 * (b : Int) + (i : Int)).toNat = 300 * b + i by omega, show (300 * (a : Int) + (i : Int)).toNat = 300 * a + i by omega]
    refine ⟨⟨by omega, by omega⟩, ⟨by omega, by omega⟩, ⟨by omega, by omega⟩, fun h => absurd h (by omega), fun _ => ⟨⟨by omega, by omega⟩, ⟨by omega, by omega⟩, ?_⟩⟩
    refine ih (i + 1) _ (by omega) (hf.digit (by simp) (by omega)) (by rw [u2_off (by decide)]; exact hs) fun j hj => ?_
    by_cases e : j = i
    · rw [e, u2_same]
      exact hf.2.2 a i (by simpa using hab) (by omega)
    · rw [u2_ne (by omega)]
      exact hc j (by omega)
theorem cmpR_loop {d : Nat} {Q : Rs → Mem → Prop} {a b n : Nat} {M : Mem} (ha : a < 200) (hb : b < 200) (hna : M 164 a = n) (hnb : M 164 b = n) (hn : n ≤ 300) (h0 : Dg 10000 (rd M a)) (h1 : Dg 10000 (rd M b))
    (hl : (∃ k, k < n ∧ rd M a k < rd M b k ∧ ∀ i, k < i → i < n → rd M a i = rd M b i) → Q (.inl (-1)) M)
    (hg : (∃ k, k < n ∧ rd M b k < rd M a k ∧ ∀ i, k < i → i < n → rd M a i = rd M b i) → Q (.inl 1) M)
    (he : (∀ i, i < n → rd M a i = rd M b i) → Q (.inl 0) M) : ∀ (m : Nat), m ≤ n → (∀ i, m ≤ i → i < n → rd M a i = rd M b i) → L_M_compareRows_29 d Q M (a : Int) (b : Int) ((m : Int) - 1)
  | 0, hm, hh => by
    exact b_M_compareRows_29 ⟨⟨by omega, by omega⟩, fun _ => he fun i hi => hh i (Nat.zero_le _) hi, fun h => absurd (by omega) h⟩
  | m + 1, hm, hh => by
    have d0 := h0 m
    have d1 := h1 m
    have ea : M 163 (300 * (a : Int) + (((m + 1 : Nat) : Int) - 1)).toNat = rd M a m := by
      unfold rd
      rw [if_pos (by omega)]
      congr 1
      omega
    have eb : M 163 (300 * (b : Int) + (((m + 1 : Nat) : Int) - 1)).toNat = rd M b m := by
      unfold rd
      rw [if_pos (by omega)]
      congr 1
      omega
    refine b_M_compareRows_29 ⟨⟨by omega, by omega⟩, fun h => absurd h (by omega), fun _ => ⟨⟨by omega, by omega⟩, ⟨by omega, by omega⟩, ?_⟩⟩
    rw [ea, eb]
    refine ⟨⟨by omega, by omega⟩, ⟨by omega, by omega⟩, fun h => ?_, fun h => ⟨fun h2 => hg ⟨m, by omega, by omega, fun i q1 q2 => hh i (by omega) q2⟩, fun h2 => hl ⟨m, by omega, by omega, fun i q1 q2 => hh i (by omega) q2⟩⟩⟩
    rw [show (((m + 1 : Nat) : Int) - 1) + (-1) = (m : Int) - 1 by omega]
    refine cmpR_loop ha hb hna hnb hn h0 h1 hl hg he m (by omega) fun i q1 q2 => ?_
    by_cases e : i = m
    · rw [e]; exact h
    · exact hh i (by omega) q2