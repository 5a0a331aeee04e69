/-! Big: comparing, multiplying, adding, dividing by a limb. -/
theorem Dg.i32 {f : Nat → Int} (h : Dg BB f) (i : Nat) : 0 ≤ f i ∧ f i < 1000000000 := h i
theorem cmp_loop {d : Nat} {Q : Rs → Mem → Prop} {r0 r1 : Nat} {M : Mem} (hr0 : IsBig r0) (hr1 : IsBig r1) (h0 : Dg BB (M (r0 + 1))) (h1 : Dg BB (M (r1 + 1)))
    (hl : (∃ k, k < 20 ∧ M (r0 + 1) k < M (r1 + 1) k ∧ ∀ i, k < i → i < 20 → M (r0 + 1) i = M (r1 + 1) i) → Q (.inl (-1)) M)
    (hg : (∃ k, k < 20 ∧ M (r1 + 1) k < M (r0 + 1) k ∧ ∀ i, k < i → i < 20 → M (r0 + 1) i = M (r1 + 1) i) → Q (.inl 1) M)
    (he : (∀ i, i < 20 → M (r0 + 1) i = M (r1 + 1) i) → Q (.inl 0) M) : ∀ (n : Nat), n ≤ 20 → (∀ i, n ≤ i → i < 20 → M (r0 + 1) i = M (r1 + 1) i) → L_B_compareWith_19 d Q M r0 r1 ((n : Int) - 1)
  | 0, hn, hh => by
    refine b_B_compareWith_19 hr0 hr1 ⟨⟨by omega, by omega⟩, fun _ => he fun i hi => hh i (Nat.zero_le _) hi, fun h => absurd h (by omega)⟩
  | n + 1, hn, hh => by
    have et : (((n + 1 : Nat) : Int) - 1).toNat = n := by omega
    have d0 := h0.i32 n
    have d1 := h1.i32 n
    refine b_B_compareWith_19 hr0 hr1 ⟨⟨by omega, by omega⟩, fun h => absurd h (by omega), fun _ => ⟨⟨by omega, by omega⟩, ?_⟩⟩
    rw [et]
    refine ⟨⟨by omega, by omega⟩, ⟨by omega, by omega⟩, fun h => ?_, fun h => ⟨fun h2 => hg ⟨n, by omega, by omega, fun i q1 q2 => hh i (by omega) q2⟩, fun h2 => hl ⟨n, by omega, by omega, fun i q1 q2 => hh i (by omega) q2⟩⟩⟩
    rw [show (((n + 1 : Nat) : Int) - 1) + (-1) = (n : Int) - 1 by omega]
    refine cmp_loop hr0 hr1 h0 h1 hl hg he n (by omega) fun i q1 q2 => ?_
    by_cases e : i = n
    · rw [e]; exact h
    · exact hh i (by omega) q2
theorem s_compareWith {d : Nat} {M : Mem} {r0 r1 : Nat} {v w : Int} (hr0 : IsBig r0) (hr1 : IsBig r1) (hv : Big M r0 v) (hw : Big M r1 w) :
    Post (d + 1) cB_compareWith [oB r0, oB r1] M (fun b M' => M' = M ∧ b = if v < w then -1 else if v = w then 0 else 1) := by
  intro Q hQ
  have ev := hv.bs20
  have ew := hw.bs20
  have s0 := hv.size
  have s1 := hw.size
  have z0 : ∀ i : Nat, M r0 1 ≤ i → M (r0 + 1) i = 0 := by
    obtain ⟨h1, n, h2, h4, h5, h6, h7⟩ := hv
    exact fun i hi => h5 i (by omega)
  have z1 : ∀ i : Nat, M r1 1 ≤ i → M (r1 + 1) i = 0 := by
    obtain ⟨h1, n, h2, h4, h5, h6, h7⟩ := hw
    exact fun i hi => h5 i (by omega)
  have hl : v < w → Q (.inl (-1)) M := fun h => by
    have := hQ (-1) M ⟨rfl, (if_pos h).symm⟩
    exact this
  have hg : w < v → Q (.inl 1) M := fun h => hQ 1 M ⟨rfl, by rw [if_neg (by omega), if_neg (by omega)]⟩
  have he : v = w → Q (.inl 0) M := fun h => hQ 0 M ⟨rfl, by rw [if_neg (by omega), if_pos h]⟩
  obtain ⟨m, hm⟩ : ∃ m : Nat, M r0 1 = m := ⟨(M r0 1).toNat, by omega⟩
  obtain ⟨n, hn⟩ : ∃ n : Nat, M r1 1 = n := ⟨(M r1 1).toNat, by omega⟩
  have rv := hv.range hm
  have rw' := hw.range hn
  refine e_B_compareWith hr0 hr1 (b_B_compareWith_0 hr0 hr1 ⟨⟨by omega, by omega⟩, ⟨by omega, by omega⟩, fun h => ?_, fun h => ⟨fun h2 => ?_, fun h2 => ?_⟩⟩)
  · rw [hm]
    refine cmp_loop hr0 hr1 hv.1 hw.1 (fun q => hl ?_) (fun q => hg ?_) (fun k => he ?_) m (by omega) (fun i q1 q2 => by rw [z0 i (by omega), z1 i (by omega)])
    · obtain ⟨k, k1, k2, k3⟩ := q
      rw [ev, ew]
      exact bs_cmp BB0 hv.1 hw.1 k2 k1 k3
    · obtain ⟨k, k1, k2, k3⟩ := q
      rw [ev, ew]
      exact bs_cmp BB0 hw.1 hv.1 k2 k1 fun i q1 q2 => (k3 i q1 q2).symm
    · rw [ev, ew]
      exact bs_congr k
  · refine hg ?_
    have h3 := rv.2.1 (by omega)
    have h4 : BB ^ n ≤ BB ^ (m - 1) := pw_mono (by decide) (by omega)
    omega
  · refine hl ?_
    have h3 := rw'.2.1 (by omega)
    have h4 : BB ^ m ≤ BB ^ (n - 1) := pw_mono (by decide) (by omega)
    omega
theorem mul_step (b0 x l hi lo c B P t q r : Int) (ih : r + (c + l * hi) * P = b0 * (lo + hi * B)) (hs : t + B * q = x * lo + l * hi + c) :
    r + t * P + (q + x * hi) * (P * B) = (b0 + x * P) * (lo + hi * B) := by grind
theorem mul_bound {x l lo hi c : Int} (hx : 0 ≤ x ∧ x < 1000000000) (hl : 0 ≤ l ∧ l < 1000000000) (h1 : 0 ≤ lo ∧ lo < 1000000000) (h2 : 0 ≤ hi ∧ hi < 1000000000) (hc : 0 ≤ c ∧ c ≤ 1999999998) :
    0 ≤ x * lo + l * hi + c ∧ x * lo + l * hi + c ≤ 1999999998000000000 := by
  have a1 : 0 ≤ x * lo := Int.mul_nonneg hx.1 h1.1
  have a2 : 0 ≤ l * hi := Int.mul_nonneg hl.1 h2.1
  have a3 : x * lo ≤ 999999999 * 999999999 := Int.mul_le_mul (by omega) (by omega) h1.1 (by decide)
  have a4 : l * hi ≤ 999999999 * 999999999 := Int.mul_le_mul (by omega) (by omega) h2.1 (by decide)
  omega
theorem mul_loop {d : Nat} {Q : Rs → Mem → Prop} {r0 : Nat} {lo hi : Int} {e : Nat} {f0 : Nat → Int} {M0 : Mem} (hr0 : IsBig r0) (hlo : 0 ≤ lo ∧ lo < 1000000000) (hhi : 0 ≤ hi ∧ hi < 1000000000) (he : e ≤ 20)
    (hd : 1 ≤ d) (hf0 : Dg BB f0) (hz : ∀ i, e ≤ i → f0 i = 0) (hfit : bs BB f0 e * (lo + hi * BB) < BB ^ e)
    (hQ : ∀ M', Fr [r0, r0 + 1] M0 M' → Big M' r0 (bs BB f0 e * (lo + hi * BB)) → Q (.inl 0) M') : ∀ (k i : Nat) (M : Mem) (c l : Int) (o1 o2 o13 o14 o15 o16 : Option PV), i + k = e → Fr [r0, r0 + 1] M0 M → Dg BB (M (r0 + 1)) →
    (∀ j, i ≤ j → M (r0 + 1) j = f0 j) → (0 ≤ c ∧ c ≤ 1999999998) → (0 ≤ l ∧ l < 1000000000) → bs BB (M (r0 + 1)) i + (c + l * hi) * BB ^ i = bs BB f0 i * (lo + hi * BB) →
    L_B_multiply_21 d Q M r0 o1 o2 lo hi c l (e : Int) (i : Int) o13 o14 o15 o16
  | 0, i, M, c, l, _, _, _, _, _, _, hi', hfr, hD, hs, hc, hl, hI => by
    have ei : i = e := by omega
    subst ei
    obtain ⟨d', rfl⟩ : ∃ d', d = d' + 1 := ⟨d - 1, by omega⟩
    refine b_B_multiply_21 hr0 ⟨⟨by omega, by omega⟩, ⟨by omega, by omega⟩, fun _ => ?_, fun h => absurd (Int.le_refl _) h⟩
    refine (s_trim (d := d') hr0 he hD fun j hj => by rw [hs j hj, hz j hj]).cal fun v M' ⟨f1, g1⟩ => hQ M' (hfr.tr (f1.mono (by simp))) ?_
    have h0 : 0 ≤ l * hi := Int.mul_nonneg hl.1 hhi.1
    have h1 := hD.bs0 BB0 i
    have hp := pw_pos BB0 i
    have : c + l * hi = 0 := by
      rcases Int.lt_or_le 0 (c + l * hi) with h | h
      · have h2 : 1 * BB ^ i ≤ (c + l * hi) * BB ^ i := Int.mul_le_mul_of_nonneg_right h (Int.le_of_lt hp)
        omega
      · omega
    rw [this, Int.zero_mul, Int.add_zero] at hI
    rwa [hI] at g1
  | k + 1, i, M, c, l, _, _, _, _, _, _, hi', hfr, hD, hs, hc, hl, hI => by
    have hx := hD.i32 i
    have hb := mul_bound hx hl hlo hhi hc
    refine b_B_multiply_21 hr0 ⟨⟨by omega, by omega⟩, ⟨by omega, by omega⟩, fun h => absurd h (by omega), fun _ => ⟨⟨by omega, by omega⟩, ?_⟩⟩
    rw [Int.toNat_natCast]
    refine ⟨⟨by omega, by omega⟩, ⟨by omega, by omega⟩, ?_⟩
    refine mul_loop hr0 hlo hhi he hd hf0 hz hfit hQ k (i + 1) _ _ _ _ _ _ _ _ _ (by omega) (hfr.u2 (by simp)) ?_ ?_ ⟨by omega, by omega⟩ hx ?_
    · rw [u2_row]
      exact hD.sr ⟨by omega, by simp only [BB]; omega⟩
    · intro j hj
      rw [u2_ne (by omega)]
      exact hs j (by omega)
    · rw [u2_row]
      show bs BB (sr _ _ _) i + sr _ _ _ i * BB ^ i + _ * BB ^ (i + 1) = (bs BB f0 i + f0 i * BB ^ i) * (lo + hi * BB)
      rw [Int.pow_succ]
      rw [bs_sr_ge (Nat.le_refl i), sr_same, ← hs i (Nat.le_refl i)]
      exact mul_step _ _ _ _ _ _ _ _ _ _ _ hI (Int.emod_add_mul_ediv _ _)
/-- multiply: by a factor of at most two limbs, if the outcome has a place -/
theorem s_multiply {d : Nat} {M : Mem} {r0 : Nat} {v j : Int} (hr0 : IsBig r0) (hv : Big M r0 v) (h0 : 0 ≤ j) (h1 : j < 1000000000000000000) (hfit : v * j < BB ^ 20) :
    Post (d + 2) cB_multiply [oB r0, .inr (.inl j)] M (fun _ M' => Fr [r0, r0 + 1] M M' ∧ Big M' r0 (v * j)) := by
  intro Q hQ
  have hs := hv.size
  have hD := hv.1
  obtain ⟨n, hn⟩ : ∃ n : Nat, M r0 1 = n := ⟨(M r0 1).toNat, by omega⟩
  have z0 : ∀ i : Nat, n ≤ i → M (r0 + 1) i = 0 := by
    obtain ⟨h1, n', h2, h4, h5, h6, h7⟩ := hv
    exact fun i hi => h5 i (by omega)
  obtain ⟨q1, q2, q3⟩ := hv.range hn
  have ej : j % 1000000000 + j / 1000000000 * BB = j := by simp only [BB]; omega
  have hv0 := hv.nonneg
  obtain ⟨e, he1, he2⟩ : ∃ e : Nat, (e : Int) = min (M r0 1 + 2) 20 ∧ n ≤ e ∧ e ≤ 20 ∧ (e = n + 2 ∨ e = 20) := ⟨(min (M r0 1 + 2) 20).toNat, by omega, by omega, by omega, by omega⟩
  have ev : bs BB (M (r0 + 1)) e = v := by rw [q3]; exact bs_top he2.1 fun i hi _ => z0 i hi
  refine e_B_multiply hr0 (b_B_multiply_0 hr0 ⟨⟨h0, by omega⟩, ⟨by omega, by omega⟩, ?_⟩)
  rw [← he1]
  refine mul_loop (M0 := M) (f0 := M (r0 + 1)) hr0 ⟨by omega, by omega⟩ ⟨by omega, by omega⟩ he2.2.1 (by omega) hD (fun i hi => z0 i (by omega)) ?_ ?_ e 0 M 0 0 _ _ _ _ _ _ (by omega) Fr.rfl' hD (fun _ _ => rfl) ⟨by omega, by omega⟩ ⟨by omega, by omega⟩ ?_
  · rw [ej, ev]
    rcases he2.2.2 with e1 | e1
    · rw [e1]
      have h2 : v * j ≤ v * (BB ^ 2) := Int.mul_le_mul_of_nonneg_left (by have : (BB : Int) ^ 2 = 1000000000000000000 := by decide
                                                                          omega) hv0
      have h3 : v * BB ^ 2 < BB ^ n * BB ^ 2 := Int.mul_lt_mul_of_pos_right q1 (by decide)
      rw [Int.pow_add]
      omega
    · rw [e1]; exact hfit
  · intro M' f1 g1
    rw [ej, ev] at g1
    exact hQ 0 M' ⟨f1, g1⟩
  · simp [bs]
