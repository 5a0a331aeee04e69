/-! Big: divide. -/
theorem Fr.big {l : List Nat} {M M' : Mem} {r : Nat} {v : Int} (hf : Fr l M M') (h : Big M r v) (h1 : r ∉ l) (h2 : r + 1 ∉ l) : Big M' r v := h.kept hf h1 h2
/-- divide: quotient and rest, also by 0 as the integers have it -/
theorem s_divide {d : Nat} {M : Mem} {r0 r1 r2 : Nat} {v w : Int} (hr0 : IsBig r0) (hr1 : IsBig r1) (hr2 : IsBig r2) (h01 : r0 ≠ r1) (h02 : r0 ≠ r2) (h12 : r1 ≠ r2) (hv : Big M r0 v) (hw : Big M r1 w) (hz : RZ M r2) (hfit : v < BB ^ 18) :
    Post (d + 4) cB_divide [oB r0, oB r1, oB r2] M (fun _ M' => Fr [r0, r0 + 1, r1, r1 + 1, r2, r2 + 1] M M' ∧ Big M' r0 (v % w) ∧ Big M' r1 w ∧ Big M' r2 (v / w)) := by
  intro Q hQ
  have e0 : r0 % 2 = 0 := hr0.2
  have e1 : r1 % 2 = 0 := hr1.2
  have e2 : r2 % 2 = 0 := hr2.2
  have hv0 := hv.nonneg
  have hw0 := hw.nonneg
  refine e_B_divide hr0 hr1 hr2 (b_B_divide_0 hr0 hr1 hr2 ?_)
  refine (s_setLong (d := d + 1) (j := 0) hr2 hz (by decide) (by decide)).cal fun x1 M1 hM1 => ?_
  obtain ⟨f1, q1⟩ := hM1
  have v1 : Big M1 r0 v := f1.big hv (by simp; omega) (by simp; omega)
  have w1 : Big M1 r1 w := f1.big hw (by simp; omega) (by simp; omega)
  have sw := w1.size
  have sv := v1.size
  refine ⟨⟨by omega, by omega⟩, fun h => ?_, fun h => ?_⟩
  · have ew : w = 0 := w1.zero_iff.mp h
    refine hQ 0 M1 ⟨f1.mono (by simp), ?_, w1, ?_⟩
    · rw [ew, Int.emod_zero]; exact v1
    · rw [ew, Int.ediv_zero]; exact q1
  have hwne : w ≠ 0 := fun q => h (w1.zero_iff.mpr q)
  refine (s_compareWith (d := d + 2) hr0 hr1 v1 w1).cal fun c M2 hM2 => ?_
  obtain ⟨rfl, hc⟩ := hM2
  have bc : -1 ≤ c ∧ c ≤ 1 := by
    rw [hc]
    by_cases q : v < w
    · rw [if_pos q]; omega
    · rw [if_neg q]
      by_cases q2 : v = w
      · rw [if_pos q2]; omega
      · rw [if_neg q2]; omega
  refine ⟨⟨by omega, by omega⟩, fun hc0 => ?_, fun hc0 => ?_⟩
  rotate_left
  · have hlt : v < w := by
      rcases Int.lt_or_le v w with q | q
      · exact q
      · exfalso
        rw [if_neg (by omega)] at hc
        by_cases q2 : v = w
        · rw [if_pos q2] at hc; omega
        · rw [if_neg q2] at hc; omega
    refine hQ 0 M2 ⟨f1.mono (by simp), ?_, w1, ?_⟩
    · rw [Int.emod_eq_of_lt hv0 hlt]; exact v1
    · rw [Int.ediv_eq_zero_of_lt hv0 hlt]; exact q1
  have hge : w ≤ v := by
    rcases Int.lt_or_le v w with q | q
    · exfalso
      rw [if_pos q] at hc
      omega
    · exact q
  obtain ⟨n, hn⟩ : ∃ n : Nat, M2 r1 1 = n := ⟨(M2 r1 1).toNat, by omega⟩
  obtain ⟨p1, p2, p3⟩ := w1.range hn
  refine ⟨⟨by omega, by omega⟩, fun h1 => ?_, fun h1 => ?_⟩
  rotate_left
  · have en : M2 r1 1 = 1 := Classical.not_not.mp h1
    have ew : w = M2 (r1 + 1) 0 := by
      have : n = 1 := by omega
      subst this
      rw [p3]
      simp [bs]
    have lw := w1.1.i32 0
    refine (s_copy (d := d + 2) hr2 hr0 (by omega) q1.rz v1).cal fun x3 M3 hM3 => ?_
    obtain ⟨f3, q3⟩ := hM3
    have w3 : Big M3 r1 w := f3.big w1 (by simp; omega) (by simp; omega)
    have v3 : Big M3 r0 v := f3.big v1 (by simp; omega) (by simp; omega)
    have er : M3 (r1 + 1) 0 = w := by rw [f3 (r1 + 1) (by simp; omega), ew]
    rw [er]
    refine ⟨⟨by omega, by omega⟩, ?_⟩
    refine (s_divideByLimb (d := d + 1) hr2 q3 ⟨by omega, by omega⟩).cal fun x4 M4 hM4 => ?_
    obtain ⟨f4, q4, rfl⟩ := hM4
    have hm0 : 0 ≤ v % w := Int.emod_nonneg _ hwne
    have hm1 : v % w < w := Int.emod_lt_of_pos _ (by omega)
    have v4 : Big M4 r0 v := f4.big v3 (by simp; omega) (by simp; omega)
    refine (s_setLong (d := d + 1) hr0 v4.rz hm0 (by omega)).cal fun x5 M5 hM5 => ?_
    obtain ⟨f5, q5⟩ := hM5
    refine hQ 0 M5 ⟨?_, q5, ?_, ?_⟩
    · exact (((f1.mono (by simp)).tr (f3.mono (by simp))).tr (f4.mono (by simp))).tr (f5.mono (by simp))
    · exact f5.big (f4.big w3 (by simp; omega) (by simp; omega)) (by simp; omega) (by simp; omega)
    · exact f5.big q4 (by simp; omega) (by simp; omega)
  have hn2 : 2 ≤ n := by omega
  obtain ⟨m, rfl⟩ : ∃ m, n = m + 1 := ⟨n - 1, by omega⟩
  have et : (M2 r1 1 - 1).toNat = m := by omega
  rw [et]
  have lw := w1.1.i32 m
  have hPm := pw_pos BB0 m
  have ew : w = bs BB (M2 (r1 + 1)) m + M2 (r1 + 1) m * BB ^ m := p3
  have bm0 := w1.1.bs0 BB0 m
  have bm1 := w1.1.bsl BB0 m
  have htl : 1 ≤ M2 (r1 + 1) m := by
    rcases Int.lt_or_le (M2 (r1 + 1) m) 1 with q | q
    · exfalso
      have : M2 (r1 + 1) m = 0 := by omega
      rw [this, Int.zero_mul, Int.add_zero] at ew
      have := p2 (by omega)
      rw [Nat.add_sub_cancel] at this
      omega
    · exact q
  obtain ⟨sc, hsc⟩ : ∃ sc, sc = 1000000000 / (M2 (r1 + 1) m + 1) := ⟨_, rfl⟩
  obtain ⟨s1, s2, s3, s4⟩ := scale_ok htl lw.2 hsc
  rw [← hsc]
  have hwl : w + 1 ≤ (M2 (r1 + 1) m + 1) * BB ^ m := by
    have : (M2 (r1 + 1) m + 1) * BB ^ m = M2 (r1 + 1) m * BB ^ m + BB ^ m := by grind
    omega
  have hDs : w * sc < BB ^ (m + 1) := by
    have h1 : (w + 1) * sc ≤ ((M2 (r1 + 1) m + 1) * BB ^ m) * sc := Int.mul_le_mul_of_nonneg_right hwl (by omega)
    have h2 : ((M2 (r1 + 1) m + 1) * sc) * BB ^ m ≤ 1000000000 * BB ^ m := Int.mul_le_mul_of_nonneg_right s4 (Int.le_of_lt hPm)
    have h3 : ((M2 (r1 + 1) m + 1) * BB ^ m) * sc = ((M2 (r1 + 1) m + 1) * sc) * BB ^ m := by grind
    have h4 : (BB : Int) ^ (m + 1) = 1000000000 * BB ^ m := by rw [Int.pow_succ, Int.mul_comm]
    have h5 : (w + 1) * sc = w * sc + sc := by grind
    omega
  have hDs1 : w ≤ w * sc := by
    have : w * 1 ≤ w * sc := Int.mul_le_mul_of_nonneg_left s1 hw0
    omega
  have hVs : v * sc < BB ^ 19 := by
    have h1 : v * sc ≤ v * 1000000000 := Int.mul_le_mul_of_nonneg_left (by omega) hv0
    have h2 : (BB : Int) ^ 19 = BB ^ 18 * 1000000000 := by rw [Int.pow_succ]
    omega
  have h1920 : (BB : Int) ^ 19 ≤ BB ^ 20 := pw_mono (by decide) (by decide)
  have hm20 : (BB : Int) ^ (m + 1) ≤ BB ^ 20 := pw_mono (by decide) (by omega)
  refine ⟨⟨by omega, by omega⟩, ⟨by omega, by omega⟩, ⟨by omega, by omega⟩, ?_⟩
  refine (s_multiply (d := d + 1) hr0 v1 (by omega) (by omega) (by omega)).cal fun x3 M3 hM3 => ?_
  obtain ⟨f3, v3⟩ := hM3
  have w3 : Big M3 r1 w := f3.big w1 (by simp; omega) (by simp; omega)
  refine (s_multiply (d := d + 1) hr1 w3 (by omega) (by omega) (by omega)).cal fun x4 M4 hM4 => ?_
  obtain ⟨f4, w4⟩ := hM4
  have v4 : Big M4 r0 (v * sc) := f4.big v3 (by simp; omega) (by simp; omega)
  have q4 : Big M4 r2 0 := f4.big (f3.big q1 (by simp; omega) (by simp; omega)) (by simp; omega) (by simp; omega)
  have sv4 := v4.size
  have hn4 : M4 r1 1 = ((m + 1 : Nat) : Int) := w4.size_eq (by omega) (by have := p2 (by omega); omega) hDs
  obtain ⟨N, hN⟩ : ∃ N : Nat, M4 r0 1 = N := ⟨(M4 r0 1).toNat, by omega⟩
  obtain ⟨t1, t2, t3⟩ := v4.range hN
  have hle : w * sc ≤ v * sc := Int.mul_le_mul_of_nonneg_right hge (by omega)
  have hNm : m + 1 ≤ N := by
    rcases Nat.lt_or_ge N (m + 1) with q | q
    · exfalso
      have h1 : BB ^ N ≤ BB ^ m := pw_mono (by decide) (by omega)
      have h2 := p2 (by omega)
      rw [Nat.add_sub_cancel] at h2
      omega
    · exact q
  have hN19 : N ≤ 19 := by
    rcases Nat.lt_or_ge 19 N with q | q
    · exfalso
      have h1 : BB ^ 19 ≤ BB ^ (N - 1) := pw_mono (by decide) (by omega)
      have h2 := t2 (by omega)
      omega
    · exact q
  refine ⟨⟨by omega, by omega⟩, ?_⟩
  rw [show (min (M4 r0 1) 19 - M4 r1 1 : Int) = ((N - m : Nat) : Int) - 1 by omega]
  have htop : 500000000 ≤ M4 (r1 + 1) m := by
    obtain ⟨_, _, u3⟩ := w4.range hn4
    have u4 : w * sc = bs BB (M4 (r1 + 1)) m + M4 (r1 + 1) m * BB ^ m := u3
    have u5 := w4.1.bsl BB0 m
    have u6 : (M2 (r1 + 1) m * BB ^ m) * sc ≤ w * sc := Int.mul_le_mul_of_nonneg_right (by omega) (by omega)
    have u7 : (M2 (r1 + 1) m * BB ^ m) * sc = (M2 (r1 + 1) m * sc) * BB ^ m := by grind
    rcases Int.lt_or_le (M4 (r1 + 1) m) (M2 (r1 + 1) m * sc) with q | q
    · exfalso
      have u8 : (M4 (r1 + 1) m + 1) * BB ^ m ≤ (M2 (r1 + 1) m * sc) * BB ^ m := Int.mul_le_mul_of_nonneg_right q (Int.le_of_lt hPm)
      have u9 : (M4 (r1 + 1) m + 1) * BB ^ m = M4 (r1 + 1) m * BB ^ m + BB ^ m := by grind
      omega
    · omega
  have zv := v4.zeros
  have zq := q4.zeros
  have zq0 : M4 r2 1 = 0 := q4.zero_iff.mpr rfl
  have hPw : (BB : Int) ^ m ≤ w * sc := by
    have := p2 (by omega)
    rw [Nat.add_sub_cancel] at this
    omega
  refine dv_loop (M0 := M4) (n := m + 1) (H := N - m) (N := N) (Vs := v * sc) (D := w * sc) hr0 hr1 hr2 h01 h02 h12 (by omega) w4 hn4 (by omega) (by rw [Nat.add_sub_cancel]; exact htop) hN (by omega) hNm (by omega) (by omega) ⟨s1, by omega⟩ ?_ (N - m) M4 _ _ (Nat.le_refl _) Fr.rfl' v4.1 q4.1 (fun j hj => zv j (by omega)) ?_ (fun j _ => zq j (by omega)) ?_
  · intro M' g1 g2 g3 g4
    have hsc0 : sc ≠ 0 := by omega
    rw [Int.mul_ediv_cancel _ hsc0] at g3
    rw [Int.mul_ediv_mul_of_pos_left _ _ (by omega)] at g4
    rw [Int.mul_comm v sc, Int.mul_comm w sc, Int.mul_emod_mul_of_pos _ _ (by omega), Int.mul_ediv_cancel_left _ hsc0] at g2
    refine hQ 0 M' ⟨?_, g2, g3, g4⟩
    exact (((f1.mono (by simp)).tr (f3.mono (by simp))).tr (f4.mono (by simp))).tr g1
  · show bs BB (fun j => M4 (r0 + 1) (N - m + j)) m + M4 (r0 + 1) (N - m + m) * BB ^ m < w * sc
    rw [zv (N - m + m) (by omega), Int.zero_mul, Int.add_zero]
    have hD' : Dg BB (fun j => M4 (r0 + 1) (N - m + j)) := fun j => v4.1 (N - m + j)
    have := hD'.bsl BB0 m
    omega
  · have hb : bs BB (M4 (r2 + 1)) 20 = 0 := q4.bs20.symm
    rw [hb, Int.zero_mul, Int.zero_add, t3]
    exact (bs_top (by omega) fun i hi _ => zv i (by omega)).symm
