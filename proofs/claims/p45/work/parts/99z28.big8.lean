/-! Big: the whole division. -/
theorem scale_ok {c sc : Int} (h1 : 1 ≤ c) (h2 : c < 1000000000) (hs : sc = 1000000000 / (c + 1)) : 1 ≤ sc ∧ sc ≤ 500000000 ∧ 1000000000 ≤ 2 * (c * sc) ∧ (c + 1) * sc ≤ 1000000000 := by
  have e1 : (c + 1) * sc + 1000000000 % (c + 1) = 1000000000 := by rw [hs]; exact Int.mul_ediv_add_emod _ _
  have r0 : 0 ≤ 1000000000 % (c + 1) := Int.emod_nonneg _ (by omega)
  have r1 : 1000000000 % (c + 1) < c + 1 := Int.emod_lt_of_pos _ (by omega)
  have hs1 : 1 ≤ sc := by rw [hs]; exact Int.le_ediv_of_mul_le (by omega) (by omega)
  have e2 : (c + 1) * sc = c * sc + sc := by grind
  have e3 : 1 * sc ≤ c * sc := Int.mul_le_mul_of_nonneg_right h1 (by omega)
  refine ⟨hs1, by omega, ?_, by omega⟩
  rcases Int.lt_or_le sc 2 with q | q
  · have : sc = 1 := by omega
    rw [this] at e1 ⊢
    omega
  · rcases Int.lt_or_le c 2 with q2 | q2
    · have : c = 1 := by omega
      subst this
      omega
    · have e4 : 2 * (c - 1) ≤ sc * (c - 1) := Int.mul_le_mul_of_nonneg_right q (by omega)
      have e5 : sc * (c - 1) = c * sc - sc := by grind
      omega
theorem Big.size_eq {M : Mem} {r : Nat} {v : Int} {n : Nat} (h : Big M r v) (hn : 0 < n) (h1 : BB ^ (n - 1) ≤ v) (h2 : v < BB ^ n) : M r 1 = n := by
  have hs := h.size
  obtain ⟨m, hm⟩ : ∃ m : Nat, M r 1 = m := ⟨(M r 1).toNat, by omega⟩
  obtain ⟨a1, a2, a3⟩ := h.range hm
  rcases Nat.lt_trichotomy m n with q | q | q
  · exfalso
    have : BB ^ m ≤ BB ^ (n - 1) := pw_mono (by decide) (by omega)
    omega
  · rw [hm, q]
  · exfalso
    have h3 := a2 (by omega)
    have : BB ^ n ≤ BB ^ (m - 1) := pw_mono (by decide) (by omega)
    omega
theorem Big.zeros {M : Mem} {r : Nat} {v : Int} (h : Big M r v) : ∀ i : Nat, M r 1 ≤ i → M (r + 1) i = 0 := by
  obtain ⟨h1, n, h2, h4, h5, h6, h7⟩ := h
  exact fun i hi => h5 i (by omega)
theorem dv_step {Vs qv D fs P U v2 R : Int} (h : Vs = qv * D + (fs + P * U)) (hU : D * v2 + R = U) : Vs = (qv + (v2 - 0) * P) * D + (fs + P * R) := by
  rw [h, ← hU]; grind
theorem dv_loop {d : Nat} {Q : Rs → Mem → Prop} {r0 r1 r2 n H N : Nat} {Vs D sc : Int} {M0 : Mem} (hr0 : IsBig r0) (hr1 : IsBig r1) (hr2 : IsBig r2) (h01 : r0 ≠ r1) (h02 : r0 ≠ r2) (h12 : r1 ≠ r2) (hd : 2 ≤ d)
    (hDb : Big M0 r1 D) (hn : M0 r1 1 = n) (hn2 : 2 ≤ n) (htop : 500000000 ≤ M0 (r1 + 1) (n - 1)) (hN : M0 r0 1 = N) (hN20 : N ≤ 20) (hnN : n ≤ N) (hHn : H + n ≤ 20) (hH : 1 ≤ H) (hsc : 1 ≤ sc ∧ sc ≤ 1000000000)
    (hQ : ∀ M', Fr [r0, r0 + 1, r1, r1 + 1, r2, r2 + 1] M0 M' → Big M' r0 (Vs % D / sc) → Big M' r1 (D / sc) → Big M' r2 (Vs / D) → Q (.inl 0) M') :
    ∀ (k : Nat) (M : Mem) (o7 o8 : Option PV), k ≤ H → Fr [r0 + 1, r2 + 1] M0 M → Dg BB (M (r0 + 1)) → Dg BB (M (r2 + 1)) → (∀ j, k + n ≤ j → M (r0 + 1) j = 0) → bs BB (fun j => M (r0 + 1) (k + j)) n < D → (∀ j, j < k ∨ H ≤ j → M (r2 + 1) j = 0) →
    Vs = bs BB (M (r2 + 1)) 20 * D + bs BB (M (r0 + 1)) (k + n) → L_B_divide_57 d Q M r0 r1 r2 sc ((H : Int) - 1) ((k : Int) - 1) o7 o8 := by
  have e0 : r0 % 2 = 0 := hr0.2
  have e1 : r1 % 2 = 0 := hr1.2
  have e2 : r2 % 2 = 0 := hr2.2
  obtain ⟨d', rfl⟩ : ∃ d', d = d' + 2 := ⟨d - 2, by omega⟩
  intro k
  induction k with
  | zero =>
    intro M o7 o8 hk hfr hD0 hD2 hz hlt hq hV
    simp only [Nat.zero_add] at hz hlt hV
    have hlt : bs BB (M (r0 + 1)) n < D := hlt
    refine b_B_divide_57 hr0 hr1 hr2 ⟨⟨by omega, by omega⟩, fun _ => ?_, fun h => absurd (by omega) h⟩
    rw [show ((H : Int) - 1 + 1) = (H : Int) by omega]
    refine (s_trim (d := d' + 1) (n := H) hr2 (by omega) hD2 fun i hi => hq i (Or.inr hi)).cal fun v1 M1 hM1 => ?_
    obtain ⟨f1, g1⟩ := hM1
    have eH : bs BB (M (r2 + 1)) 20 = bs BB (M (r2 + 1)) H := bs_top (by omega) fun i hi _ => hq i (Or.inr hi)
    rw [← eH] at g1
    have hs1 : M1 r0 1 = N := by rw [f1 r0 (by simp; omega), hfr r0 (by simp; omega)]; exact hN
    have hrow1 : M1 (r0 + 1) = M (r0 + 1) := f1 _ (by simp; omega)
    rw [hs1]
    refine (s_trim (d := d' + 1) (n := N) hr0 hN20 (by rw [hrow1]; exact hD0) fun i hi => by rw [hrow1]; exact hz i (by omega)).cal fun v2 M2 hM2 => ?_
    obtain ⟨f2, g2⟩ := hM2
    rw [hrow1, bs_top hnN fun i hi _ => hz i hi] at g2
    have hR0 := hD0.bs0 BB0 n
    obtain ⟨q1, q2⟩ := divq (U := Vs) (D := D) (b := bs BB (M (r2 + 1)) 20) (by omega) (by rw [Int.add_mul, Int.one_mul]; omega)
    have eR : bs BB (M (r0 + 1)) n = Vs % D := by rw [q2]; omega
    rw [eR] at g2
    rw [← q1] at g1
    refine (s_divideByLimb (d := d') hr0 g2 ⟨by omega, by omega⟩).cal fun v3 M3 hM3 => ?_
    obtain ⟨f3, g3, -⟩ := hM3
    have hD1 : Big M3 r1 D := ((hDb.kept hfr (by simp; omega) (by simp; omega)).kept f1 (by simp; omega) (by simp; omega)).kept f2 (by simp; omega) (by simp; omega) |>.kept f3 (by simp; omega) (by simp; omega)
    refine (s_divideByLimb (d := d') hr1 hD1 ⟨by omega, by omega⟩).cal fun v4 M4 hM4 => ?_
    obtain ⟨f4, g4, -⟩ := hM4
    refine hQ M4 ((((hfr.mono (by simp)).tr (f1.mono (by simp))).tr (f2.mono (by simp))).tr (f3.mono (by simp)) |>.tr (f4.mono (by simp))) (g3.kept f4 (by simp; omega) (by simp; omega)) g4 ((g1.kept f2 (by simp; omega) (by simp; omega)).kept f3 (by simp; omega) (by simp; omega) |>.kept f4 (by simp; omega) (by simp; omega))
  | succ k ih =>
    intro M o7 o8 hk hfr hD0 hD2 hz hlt hq hV
    refine b_B_divide_57 hr0 hr1 hr2 ⟨⟨by omega, by omega⟩, fun h => absurd h (by omega), fun _ => ?_⟩
    rw [show (((k + 1 : Nat) : Int) - 1) = (k : Int) by omega]
    have hrow1 : M (r1 + 1) = M0 (r1 + 1) := hfr _ (by simp; omega)
    have hm : M r1 1 = n := by rw [hfr r1 (by simp; omega)]; exact hn
    have eD : D = bs BB (M (r1 + 1)) n := by rw [hrow1]; exact (hDb.range hn).2.2
    have hg : Dg BB (M (r1 + 1)) := by rw [hrow1]; exact hDb.1
    have hfk := hD0.i32 k
    obtain ⟨U, hU⟩ : ∃ U, U = bs BB (fun j => M (r0 + 1) (k + j)) (n + 1) := ⟨_, rfl⟩
    have hseg : Dg BB (fun j => M (r0 + 1) (k + j)) := fun j => hD0 (k + j)
    have hU0 : 0 ≤ U := by rw [hU]; exact hseg.bs0 BB0 (n + 1)
    have hUD : U < 1000000000 * D := by
      rw [hU, sg_head]
      have : (1000000000 : Int) = BB := rfl
      have h3 : BB * bs BB (fun j => M (r0 + 1) (k + 1 + j)) n ≤ BB * (D - 1) := Int.mul_le_mul_of_nonneg_left (by omega) (by decide)
      have h4 : BB * (D - 1) = 1000000000 * D - 1000000000 := by rw [← this]; grind
      omega
    have hDpos : 0 < D := by omega
    refine (s_guess (d := d' + 1) (s := k) (n := n) hr0 hr1 hD0 hg hm hn2 (by omega) (by rw [hrow1]; exact htop) hU eD hUD).cal fun v1 M1 hM1 => ?_
    obtain ⟨rfl, b1, b2, b3, b4⟩ := hM1
    refine (s_takeAway (d := d') (s := k) (n := n) hr0 hr1 h01 hD0 hg hm (by omega) ⟨b1, b2⟩ hU eD b3 b4).cal fun v2 M2 hM2 => ?_
    obtain ⟨rfl, f2, c1, c2, c3⟩ := hM2
    refine ⟨⟨by omega, by omega⟩, ?_⟩
    rw [Int.toNat_natCast, show ((k : Int) + (-1)) = (k : Int) - 1 by omega]
    have hrq : M2 (r2 + 1) = M1 (r2 + 1) := f2 _ (by simp; omega)
    have hr0row : (upd2 M2 (r2 + 1) k (U / D)) (r0 + 1) = M2 (r0 + 1) := u2_off (by omega)
    have hr2row : (upd2 M2 (r2 + 1) k (U / D)) (r2 + 1) = sr (M1 (r2 + 1)) k (U / D) := by rw [u2_row, hrq]
    have hm0 : 0 ≤ U % D := Int.emod_nonneg _ (by omega)
    have hm1 : U % D < D := Int.emod_lt_of_pos _ hDpos
    have hv0 : 0 ≤ U / D := Int.ediv_nonneg hU0 (by omega)
    have hv1 : U / D < 1000000000 := Int.ediv_lt_of_lt_mul hDpos hUD
    have hseg2 : Dg BB (fun j => M2 (r0 + 1) (k + j)) := fun j => c1 (k + j)
    have w0 := hseg2.bs0 BB0 n
    have hDl : D < BB ^ n := by rw [eD]; exact hg.bsl BB0 n
    have hPn := pw_pos BB0 n
    have hsum : bs BB (fun j => M2 (r0 + 1) (k + j)) n + M2 (r0 + 1) (k + n) * BB ^ n = U % D := c3
    have hkn := c1.i32 (k + n)
    have ht0 : M2 (r0 + 1) (k + n) = 0 := by
      rcases Int.lt_or_le 0 (M2 (r0 + 1) (k + n)) with q | q
      · exfalso
        have : 1 * BB ^ n ≤ M2 (r0 + 1) (k + n) * BB ^ n := Int.mul_le_mul_of_nonneg_right q (Int.le_of_lt hPn)
        omega
      · omega
    rw [ht0, Int.zero_mul, Int.add_zero] at hsum
    refine ih _ _ _ (by omega) ((hfr.tr (f2.mono (by simp))).u2 (by simp)) (by rw [hr0row]; exact c1) (by rw [hr2row]; exact srB hD2 ⟨hv0, hv1⟩) (fun j hj => ?_) ?_ (fun j hj => ?_) ?_
    · rw [hr0row]
      by_cases e : j = k + n
      · rw [e]; exact ht0
      · rw [c2 j (by omega)]
        exact hz j (by omega)
    · rw [hr0row, hsum]
      exact hm1
    · rw [hr2row, sr_ne (by omega)]
      exact hq j (by omega)
    · rw [hr0row, hr2row, bs_sr (by omega), hq k (by omega), bs_split, hsum, show bs BB (M2 (r0 + 1)) k = bs BB (M1 (r0 + 1)) k from bs_congr fun j hj => c2 j (by omega)]
      refine dv_step (U := U) ?_ (Int.mul_ediv_add_emod _ _)
      rw [hV, hU, ← bs_split, show k + (n + 1) = k + 1 + n by omega]
