/-! The reference's rows: parts of the division. -/
theorem irl_loop {d : Nat} {Q : Rs → Mem → Prop} {b s n : Nat} {M : Mem} (hd : 1 ≤ d) (hb : b < 200) (hs1 : 0 ≤ M 164 196 ∧ M 164 196 ≤ 300) (hs2 : 0 ≤ M 164 b ∧ M 164 b ≤ 300) (hs : s ≤ 1000) (hn : n ≤ 300) (h0 : Dg 10000 (rd M 196)) (h1 : Dg 10000 (rd M b))
    (hl : (∃ k, k < n ∧ rd M 196 (s + k) < rd M b k ∧ ∀ i, k < i → i < n → rd M 196 (s + i) = rd M b i) → Q (.inl 1) M)
    (hg : ((∀ i, i < n → rd M 196 (s + i) = rd M b i) ∨ ∃ k, k < n ∧ rd M b k < rd M 196 (s + k) ∧ ∀ i, k < i → i < n → rd M 196 (s + i) = rd M b i) → Q (.inl 0) M) :
    ∀ (m : Nat), m ≤ n → (∀ i, m ≤ i → i < n → rd M 196 (s + i) = rd M b i) → L_M_isRestLess_33 d Q M (b : Int) (s : Int) ((s : Int) + (m : Int) - 1)
  | 0, hm, hh => by
    exact b_M_isRestLess_33 ⟨⟨by omega, by omega⟩, ⟨by omega, by omega⟩, fun _ => hg (Or.inl fun i hi => hh i (Nat.zero_le _) hi), fun h => absurd (by omega) h⟩
  | m + 1, hm, hh => by
    obtain ⟨d', rfl⟩ : ∃ d', d = d' + 1 := ⟨d - 1, by omega⟩
    have x0 := h0 (s + m)
    have x1 := h1 m
    have hr : (196 : Nat) < 200 := by decide
    rw [show (s : Int) + ((m + 1 : Nat) : Int) - 1 = ((s + m : Nat) : Int) by omega]
    refine b_M_isRestLess_33 ?_
    rw [show ((s + m : Nat) : Int) - (s : Int) = (m : Int) by omega]
    refine ⟨⟨by omega, by omega⟩, ⟨by omega, by omega⟩, fun h => absurd h (by omega), fun _ => ?_⟩
    refine (s_at' (d := d') (r := 196) hr hs1 (by omega)).cal fun v1 M1 hM1 => ?_
    obtain ⟨rfl, rfl⟩ := hM1
    refine (s_at' (d := d') hb hs2 (by omega)).cal fun v2 M2 hM2 => ?_
    obtain ⟨rfl, rfl⟩ := hM2
    refine ⟨⟨by omega, by omega⟩, ⟨by omega, by omega⟩, fun h => ?_, fun h => ?_⟩
    · rw [show ((s + m : Nat) : Int) + (-1) = (s : Int) + (m : Int) - 1 by omega]
      refine irl_loop (by omega) hb hs1 hs2 hs hn h0 h1 hl hg m (by omega) fun i q1 q2 => ?_
      by_cases e : i = m
      · rw [e]; exact h
      · exact hh i (by omega) q2
    · refine (s_at' (d := d') (r := 196) hr hs1 (by omega)).cal fun v3 M3 hM3 => ?_
      obtain ⟨rfl, rfl⟩ := hM3
      refine (s_at' (d := d') hb hs2 (by omega)).cal fun v4 M4 hM4 => ?_
      obtain ⟨rfl, rfl⟩ := hM4
      exact ⟨⟨by omega, by omega⟩, ⟨by omega, by omega⟩, fun h2 => hg (Or.inr ⟨m, by omega, by omega, fun i q1 q2 => hh i (by omega) q2⟩), fun h2 => hl ⟨m, by omega, by omega, fun i q1 q2 => hh i (by omega) q2⟩⟩
/-- isRestLess -/
theorem s_isRestLess {d : Nat} {M : Mem} {b s : Nat} {R D : Int} (hb : b < 200) (hR : Row M 196 R) (hD : Row M b D) (hD0 : 0 < D) (hs : s ≤ 300) :
    Post (d + 2) cM_isRestLess [oM, .inl (b : Int), .inl (s : Int)] M (fun x M' => M' = M ∧ x = if R < D * 10000 ^ s then 1 else 0) := by
  intro Q hQ
  have s0 := hR.size
  have s1 := hD.size
  obtain ⟨N, hN⟩ : ∃ N : Nat, M 164 196 = N := ⟨(M 164 196).toNat, by omega⟩
  obtain ⟨n, hn⟩ : ∃ n : Nat, M 164 b = n := ⟨(M 164 b).toNat, by omega⟩
  obtain ⟨p1, p2, p3⟩ := hR.range hN
  obtain ⟨q1, q2, q3⟩ := hD.range hn
  have hl : R < D * 10000 ^ s → Q (.inl 1) M := fun h => hQ 1 M ⟨rfl, (if_pos h).symm⟩
  have hg : D * 10000 ^ s ≤ R → Q (.inl 0) M := fun h => hQ 0 M ⟨rfl, by rw [if_neg (by omega)]⟩
  have hps := pw_pos DD0 s
  have hn1 : 0 < n := by
    rcases Nat.eq_zero_or_pos n with e | e
    · exfalso
      have := hD.zero_iff.mp (by omega)
      omega
    · exact e
  refine e_M_isRestLess (b_M_isRestLess_0 ?_)
  rw [Int.toNat_natCast, hN, hn]
  refine ⟨⟨by omega, by omega⟩, ⟨by omega, by omega⟩, ⟨by omega, by omega⟩, fun h => ?_, fun h => ⟨fun h2 => ?_, fun h2 => ?_⟩⟩
  · have eN : N = s + n := by omega
    have eR : R = bs 10000 (rd M 196) s + 10000 ^ s * bs 10000 (fun i => rd M 196 (s + i)) n := by rw [p3, eN, bs_split]
    have hf : Dg 10000 (fun i => rd M 196 (s + i)) := fun i => hR.1 (s + i)
    have l0 := hR.1.bs0 DD0 s
    have l1 := hR.1.bsl DD0 s
    rw [show (N : Int) - 1 = (s : Int) + (n : Int) - 1 by omega]
    have less : bs 10000 (fun i => rd M 196 (s + i)) n < D → Q (.inl 1) M := fun z => hl (by
      have : (bs 10000 (fun i => rd M 196 (s + i)) n + 1) * 10000 ^ s ≤ D * 10000 ^ s := Int.mul_le_mul_of_nonneg_right z (Int.le_of_lt hps)
      have e2 : (bs 10000 (fun i => rd M 196 (s + i)) n + 1) * 10000 ^ s = 10000 ^ s * bs 10000 (fun i => rd M 196 (s + i)) n + 10000 ^ s := by grind
      omega)
    have geq : D ≤ bs 10000 (fun i => rd M 196 (s + i)) n → Q (.inl 0) M := fun z => hg (by
      have : D * 10000 ^ s ≤ bs 10000 (fun i => rd M 196 (s + i)) n * 10000 ^ s := Int.mul_le_mul_of_nonneg_right z (Int.le_of_lt hps)
      have e2 : bs 10000 (fun i => rd M 196 (s + i)) n * 10000 ^ s = 10000 ^ s * bs 10000 (fun i => rd M 196 (s + i)) n := Int.mul_comm _ _
      omega)
    refine irl_loop (by omega) hb s0 s1 (by omega) (by omega) hR.1 hD.1 (fun z => less ?_) (fun z => geq ?_) n (Nat.le_refl n) fun i z1 z2 => absurd z1 (by omega)
    · obtain ⟨k, k1, k2, k3⟩ := z
      rw [q3]
      exact bs_cmp DD0 hf hD.1 k2 k1 k3
    · rw [q3]
      rcases z with z | ⟨k, k1, k2, k3⟩
      · exact Int.le_of_eq (bs_congr fun i hi => (z i hi).symm)
      · exact Int.le_of_lt (bs_cmp DD0 hD.1 hf k2 k1 fun i z1 z2 => (k3 i z1 z2).symm)
  · refine hg ?_
    have h3 := p2 (by omega)
    have h4 : (10000 : Int) ^ (n + s) ≤ 10000 ^ (N - 1) := pw_mono (by decide) (by omega)
    have h5 : D * 10000 ^ s ≤ 10000 ^ n * 10000 ^ s := Int.mul_le_mul_of_nonneg_right (Int.le_of_lt q1) (Int.le_of_lt hps)
    rw [Int.pow_add] at h4
    omega
  · refine hl ?_
    have h3 := q2 hn1
    have h4 : (10000 : Int) ^ N ≤ 10000 ^ (n - 1 + s) := pw_mono (by decide) (by omega)
    have h5 : (10000 : Int) ^ (n - 1) * 10000 ^ s ≤ D * 10000 ^ s := Int.mul_le_mul_of_nonneg_right h3 (Int.le_of_lt hps)
    rw [Int.pow_add] at h4
    omega
theorem tf_step {Z R t y b c z old c' B Ps Pj : Int} (ih : Z = R - t * b * Ps + c * (Ps * Pj)) (hs : z = old - t * y - c + c' * B) : Z + (z - old) * (Ps * Pj) = R - t * (b + y * Pj) * Ps + c' * (Ps * (Pj * B)) := by
  rw [ih, hs]; grind
theorem tf_loop {d : Nat} {Q : Rs → Mem → Prop} {b s N : Nat} {t R D : Int} {M0 : Mem} (hd : 1 ≤ d) (hb : b < 200) (hb6 : b ≠ 196) (hR : Row M0 196 R) (hD : Row M0 b D) (hN : M0 164 196 = N) (hsN : s ≤ N) (ht : 0 ≤ t ∧ t ≤ 9999) (hfit : t * D * 10000 ^ s ≤ R) (hnN : M0 164 b + s ≤ N)
    (hQ : ∀ M', RF [196] M0 M' → Row M' 196 (R - t * D * 10000 ^ s) → Q (.inl 0) M') : ∀ (k j : Nat) (M : Mem) (c : Int) (o7 o8 o9 o10 : Option PV), s + j + k = N → MO 196 M0 M → (∀ p, p < N → 0 ≤ raw M 196 p ∧ raw M 196 p < 10000) → (0 ≤ c ∧ c ≤ 9999) →
    bs 10000 (raw M 196) N = R - t * bs 10000 (rd M0 b) j * 10000 ^ s + c * (10000 ^ s * 10000 ^ j) → L_M_takesFromRest_4 d Q M (b : Int) (s : Int) t c ((s : Int) + (j : Int)) o7 o8 o9 o10 := by
  obtain ⟨d', rfl⟩ : ∃ d', d = d' + 1 := ⟨d - 1, by omega⟩
  have s0 := hR.size
  have s1 := hD.size
  have hr : (196 : Nat) < 200 := by decide
  intro k
  induction k with
  | zero =>
    intro j M c o7 o8 o9 o10 hj hM hG hc hI
    have e164 : M 164 = M0 164 := hM.1 164 (by decide)
    refine b_M_takesFromRest_4 ?_
    rw [e164, hN]
    refine ⟨⟨by omega, by omega⟩, ⟨by omega, by omega⟩, fun _ => ?_, fun h => absurd (by omega) h⟩
    refine (s_trims (d := d') (r := 196) (n := N) hr (by omega) hG).cal fun x M' hM' => ?_
    obtain ⟨f1, g1⟩ := hM'
    have g2 : Row M' 196 (bs 10000 (raw M 196) N) := g1
    have z1 := bs_lt DD0 (n := N) (fun p hp => (hG p hp).2) fun p hp => (hG p hp).1
    have hp := pw_pos DD0 N
    rw [← hD.at_ (by omega), ← Int.pow_add, show s + j = N by omega] at hI
    have : c = 0 := by
      rcases Int.lt_or_le 0 c with h | h
      · have : 1 * 10000 ^ N ≤ c * 10000 ^ N := Int.mul_le_mul_of_nonneg_right h (Int.le_of_lt hp)
        omega
      · omega
    rw [this, Int.zero_mul, Int.add_zero] at hI
    rw [hI] at g2
    exact hQ M' (hM.rf.tr f1) g2
  | succ k ih =>
    intro j M c o7 o8 o9 o10 hj hM hG hc hI
    have e164 : M 164 = M0 164 := hM.1 164 (by decide)
    have x2 := hD.1 j
    have hold := hG (s + j) (by omega)
    have er : rd M 196 (s + j) = raw M 196 (s + j) := by
      unfold rd
      rw [if_pos (by rw [e164, hN]; omega)]
      rfl
    have m0 : 0 ≤ t * rd M0 b j := Int.mul_nonneg ht.1 x2.1
    have m1 : t * rd M0 b j ≤ 9999 * 9999 := Int.mul_le_mul ht.2 (by omega) x2.1 (by decide)
    refine b_M_takesFromRest_4 ?_
    rw [e164, hN, show (s : Int) + (j : Int) - (s : Int) = (j : Int) by omega, show (s : Int) + (j : Int) = ((s + j : Nat) : Int) by omega]
    refine ⟨⟨by omega, by omega⟩, ⟨by omega, by omega⟩, fun h => absurd h (by omega), fun _ => ?_⟩
    refine (s_at' (d := d') (r := 196) hr (by rw [e164]; exact s0) (by omega)).cal fun v1 M1 hM1 => ?_
    obtain ⟨rfl, rfl⟩ := hM1
    rw [er]
    refine ⟨⟨by omega, by omega⟩, ⟨by omega, by omega⟩, ?_⟩
    refine (s_at' (d := d') hb (by rw [e164]; exact s1) (by omega)).cal fun v2 M2 hM2 => ?_
    obtain ⟨rfl, rfl⟩ := hM2
    rw [hM.rdE hb6 s1.2]
    have key : ∀ (z vv c' : Int) (p4 p5 : Option PV), (0 ≤ z ∧ z < 10000) → (0 ≤ c' ∧ c' ≤ 9999) → vv + c' * 10000 = z → z = raw M2 196 (s + j) - t * rd M0 b j - c + c' * 10000 → L_M_takesFromRest_44 (d' + 1) Q M2 (b : Int) (s : Int) t p4 p5 ((s + j : Nat) : Int) vv c' := by
      intro z vv c' p4 p5 hz hc' hv hs
      refine b_M_takesFromRest_44 ⟨⟨by omega, by omega⟩, ?_⟩
      rw [hv, show (58800 + ((s + j : Nat) : Int)).toNat = 300 * 196 + (s + j) by omega, show ((s + j : Nat) : Int) + 1 = (s : Int) + ((j + 1 : Nat) : Int) by omega]
      refine ih (j + 1) _ _ _ _ _ _ (by omega) (hM.step (by omega)) (fun p hp => ?_) hc' ?_
      · rw [raw_up]
        by_cases e : p = s + j
        · rw [e, sr_same]; exact hz
        · rw [sr_ne e]; exact hG p hp
      · rw [raw_up, bs_sr (by omega), Int.pow_add, Int.pow_succ 10000 j]
        exact tf_step hI hs
    refine ⟨⟨by omega, by omega⟩, ⟨by omega, by omega⟩, fun h => ?_, fun h => ⟨⟨by omega, by omega⟩, ?_⟩⟩
    · exact key _ _ 0 _ _ ⟨h, by omega⟩ ⟨by omega, by omega⟩ (by omega) (by omega)
    · exact key _ _ _ _ _ ⟨by omega, by omega⟩ ⟨by omega, by omega⟩ rfl (by omega)
/-- takesFromRest -/
theorem s_takesFromRest {d : Nat} {M : Mem} {b s : Nat} {t R D : Int} (hb : b < 200) (hb6 : b ≠ 196) (hR : Row M 196 R) (hD : Row M b D) (hD0 : 0 < D) (ht : 1 ≤ t ∧ t ≤ 9999) (hs : s ≤ 300) (hfit : t * D * 10000 ^ s ≤ R) :
    Post (d + 2) cM_takesFromRest [oM, .inl (b : Int), .inl (s : Int), .inl t] M (fun _ M' => RF [196] M M' ∧ Row M' 196 (R - t * D * 10000 ^ s)) := by
  intro Q hQ
  have s0 := hR.size
  have s1 := hD.size
  obtain ⟨N, hN⟩ : ∃ N : Nat, M 164 196 = N := ⟨(M 164 196).toNat, by omega⟩
  obtain ⟨n, hn⟩ : ∃ n : Nat, M 164 b = n := ⟨(M 164 b).toNat, by omega⟩
  obtain ⟨p1, p2, p3⟩ := hR.range hN
  obtain ⟨q1, q2, q3⟩ := hD.range hn
  have hps := pw_pos DD0 s
  have hn1 : 0 < n := by
    rcases Nat.eq_zero_or_pos n with e | e
    · exfalso
      have := hD.zero_iff.mp (by omega)
      omega
    · exact e
  have hnN : n + s ≤ N := by
    rcases Nat.lt_or_ge N (n + s) with q | q
    · exfalso
      have h3 := q2 hn1
      have h4 : (10000 : Int) ^ N ≤ 10000 ^ (n - 1 + s) := pw_mono (by decide) (by omega)
      have h5 : (10000 : Int) ^ (n - 1) * 10000 ^ s ≤ D * 10000 ^ s := Int.mul_le_mul_of_nonneg_right h3 (Int.le_of_lt hps)
      have h6 : 1 * (D * 10000 ^ s) ≤ t * (D * 10000 ^ s) := Int.mul_le_mul_of_nonneg_right ht.1 (Int.mul_nonneg (by omega) (Int.le_of_lt hps))
      have h7 : t * (D * 10000 ^ s) = t * D * 10000 ^ s := (Int.mul_assoc _ _ _).symm
      rw [Int.pow_add] at h4
      omega
    · exact q
  refine e_M_takesFromRest (b_M_takesFromRest_0 ?_)
  have := tf_loop (d := d + 1) (Q := Q) (M0 := M) (by omega) hb hb6 hR hD hN (by omega) ⟨by omega, ht.2⟩ hfit (by omega) (fun M' f g => hQ 0 M' ⟨f, g⟩) (N - s) 0 M 0 none none none none (by omega) ⟨fun _ _ => rfl, fun _ _ => rfl⟩ (fun p hp => by
    have := hR.1 p
    unfold rd at this
    rwa [if_pos (by omega)] at this) ⟨by omega, by omega⟩ (by
    rw [show bs 10000 (raw M 196) N = R by
      rw [p3]
      exact bs_congr fun p hp => by
        unfold rd raw
        rw [if_pos (by omega)]]
    simp [bs])
  simpa using this
