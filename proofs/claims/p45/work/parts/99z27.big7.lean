/-! Big: taking away; the whole division. -/
theorem ta_step {a b c x y f qd B P r c' : Int} (ih : r = a - qd * b + c * P) (hs : x + (y * qd + c) = f + c' * B) : r + x * P = a + f * P - qd * (b + y * P) + c' * (P * B) := by
  have h : x * P + (y * qd + c) * P = f * P + c' * B * P := by rw [← Int.add_mul, hs, Int.add_mul]
  grind
theorem ta_loop {d : Nat} {Q : Rs → Mem → Prop} {r0 r1 s n : Nat} {qd : Int} {M0 : Mem} (hr0 : IsBig r0) (hr1 : IsBig r1) (hne : r0 ≠ r1) (hg : Dg BB (M0 (r1 + 1))) (hn : M0 r1 1 = n) (hs : s + n < 20) (hqd : 0 ≤ qd ∧ qd < 1000000000)
    (hQ : ∀ M' c o9 o10 o11 o12, Fr [r0 + 1] M0 M' → Dg BB (M' (r0 + 1)) → (∀ j, j < s ∨ s + n ≤ j → M' (r0 + 1) j = M0 (r0 + 1) j) → (0 ≤ c ∧ c ≤ 1000000000) → bs BB (fun j => M' (r0 + 1) (s + j)) n = bs BB (fun j => M0 (r0 + 1) (s + j)) n - qd * bs BB (M0 (r1 + 1)) n + c * BB ^ n →
      L_B_takeAway_14 d Q M' r0 r1 (s : Int) qd ((s : Int) + (n : Int)) c (n : Int) o9 o10 o11 o12) :
    ∀ (k i : Nat) (M : Mem) (c : Int) (o9 o10 o11 o12 : Option PV), i + k = n → Fr [r0 + 1] M0 M → Dg BB (M (r0 + 1)) → (∀ j, j < s ∨ s + i ≤ j → M (r0 + 1) j = M0 (r0 + 1) j) → (0 ≤ c ∧ c ≤ 1000000000) →
    bs BB (fun j => M (r0 + 1) (s + j)) i = bs BB (fun j => M0 (r0 + 1) (s + j)) i - qd * bs BB (M0 (r1 + 1)) i + c * BB ^ i → L_B_takeAway_14 d Q M r0 r1 (s : Int) qd ((s : Int) + (n : Int)) c (i : Int) o9 o10 o11 o12 := by
  have e0 : r0 % 2 = 0 := hr0.2
  have e1 : r1 % 2 = 0 := hr1.2
  intro k
  induction k with
  | zero =>
    intro i M c o9 o10 o11 o12 hi hfr hD hsame hc hI
    have ei : i = n := by omega
    subst ei
    exact hQ M c o9 o10 o11 o12 hfr hD hsame hc hI
  | succ k ih =>
    intro i M c o9 o10 o11 o12 hi hfr hD hsame hc hI
    have hm : M r1 1 = n := by rw [hfr r1 (by simp; omega)]; exact hn
    have hgr : M (r1 + 1) = M0 (r1 + 1) := hfr _ (by simp; omega)
    have hx := hD.i32 (s + i)
    have hy := hg.i32 i
    have m0 : 0 ≤ M0 (r1 + 1) i * qd := Int.mul_nonneg hy.1 hqd.1
    have m1 : M0 (r1 + 1) i * qd ≤ 999999999 * 999999999 := Int.mul_le_mul (by omega) (by omega) hqd.1 (by decide)
    have et : ((s : Int) + (i : Int)).toNat = s + i := by omega
    have key : ∀ (x c' : Int) (p9 p10 p11 p12 : Option PV), (0 ≤ x ∧ x < 1000000000) → (0 ≤ c' ∧ c' ≤ 1000000000) → x + (M0 (r1 + 1) i * qd + c) = M (r0 + 1) (s + i) + c' * 1000000000 → L_B_takeAway_14 d Q (upd2 M (r0 + 1) (s + i) x) r0 r1 (s : Int) qd ((s : Int) + (n : Int)) c' ((i : Int) + 1) p9 p10 p11 p12 := by
      intro x c' p9 p10 p11 p12 hx' hc' he
      refine ih (i + 1) _ _ _ _ _ _ (by omega) (hfr.u2 (by simp)) ?_ ?_ hc' ?_
      · rw [u2_row]
        exact srB hD hx'
      · intro j hj
        rw [u2_ne (by omega)]
        exact hsame j (by omega)
      · rw [u2_row]
        show bs BB (fun j => sr _ _ _ (s + j)) i + sr _ _ _ (s + i) * BB ^ i = bs BB (fun j => M0 (r0 + 1) (s + j)) i + M0 (r0 + 1) (s + i) * BB ^ i - qd * (bs BB (M0 (r1 + 1)) i + M0 (r1 + 1) i * BB ^ i) + c' * BB ^ (i + 1)
        rw [show bs BB (fun j => sr (M (r0 + 1)) (s + i) x (s + j)) i = bs BB (fun j => M (r0 + 1) (s + j)) i from bs_congr fun j hj => sr_ne (by omega), sr_same, Int.pow_succ, ← hsame (s + i) (by omega)]
        exact ta_step hI he
    refine b_B_takeAway_14 hr0 hr1 ⟨⟨by omega, by omega⟩, ?_⟩
    rw [hm, et, Int.toNat_natCast, hgr]
    refine ⟨⟨by omega, by omega⟩, fun h => absurd h (by omega), fun _ => ⟨⟨by omega, by omega⟩, ⟨by omega, by omega⟩, ⟨by omega, by omega⟩, ⟨by omega, by omega⟩, ⟨by omega, by omega⟩, ⟨by omega, by omega⟩, fun h => ?_, fun h => ?_⟩⟩
    · refine b_B_takeAway_56 hr0 hr1 ⟨⟨by omega, by omega⟩, ⟨by omega, by omega⟩, fun _ => key _ _ _ _ _ _ ⟨h, by omega⟩ ⟨by omega, by omega⟩ (by omega), fun h2 => absurd h h2⟩
    · refine b_B_takeAway_56 hr0 hr1 ⟨⟨by omega, by omega⟩, ⟨by omega, by omega⟩, fun h2 => absurd h2 h, fun _ => key _ _ _ _ _ _ ⟨by omega, by omega⟩ ⟨by omega, by omega⟩ (by omega)⟩
/-- takeAway: after it, the rest stands there -/
theorem s_takeAway {d : Nat} {M : Mem} {r0 r1 s n : Nat} {qd U D : Int} (hr0 : IsBig r0) (hr1 : IsBig r1) (hne : r0 ≠ r1) (hf : Dg BB (M (r0 + 1))) (hg : Dg BB (M (r1 + 1))) (hn : M r1 1 = n) (hs : s + n < 20) (hqd : 0 ≤ qd ∧ qd < 1000000000)
    (hU : U = bs BB (fun j => M (r0 + 1) (s + j)) (n + 1)) (hD : D = bs BB (M (r1 + 1)) n) (h1 : (qd - 1) * D ≤ U) (h2 : U < (qd + 1) * D) :
    Post (d + 2) cB_takeAway [oB r0, oB r1, .inl (s : Int), .inr (.inl qd)] M (fun b M' => b = U / D ∧ Fr [r0 + 1] M M' ∧ Dg BB (M' (r0 + 1)) ∧ (∀ j, j < s ∨ s + n < j → M' (r0 + 1) j = M (r0 + 1) j) ∧ bs BB (fun j => M' (r0 + 1) (s + j)) (n + 1) = U % D) := by
  intro Q hQ
  have e0 : r0 % 2 = 0 := hr0.2
  have e1 : r1 % 2 = 0 := hr1.2
  have hU0 : U = bs BB (fun j => M (r0 + 1) (s + j)) n + M (r0 + 1) (s + n) * BB ^ n := hU
  have hf' : Dg BB (fun j => M (r0 + 1) (s + j)) := fun j => hf (s + j)
  have hUn := hf'.bs0 BB0 (n + 1)
  rw [← hU] at hUn
  have hDl := hg.bsl BB0 n
  have hD0 := hg.bs0 BB0 n
  rw [← hD] at hDl hD0
  have hP := pw_pos BB0 n
  refine e_B_takeAway hr0 hr1 (b_B_takeAway_0 hr0 hr1 ?_)
  rw [hn]
  refine ⟨⟨by omega, by omega⟩, fun _ => ?_, fun h => absurd (by omega) h⟩
  refine ta_loop (M0 := M) hr0 hr1 hne hg hn hs hqd ?_ n 0 M 0 _ _ _ _ (by omega) Fr.rfl' hf (fun _ _ => rfl) ⟨by omega, by omega⟩ (by simp [bs])
  intro M' c o9 o10 o11 o12 hfr hD' hsame hc hI
  rw [← hD] at hI
  have hm : M' r1 1 = n := by rw [hfr r1 (by simp; omega)]; exact hn
  have et : ((s : Int) + (n : Int)).toNat = s + n := by omega
  have hx := hD'.i32 (s + n)
  have ex : M' (r0 + 1) (s + n) = M (r0 + 1) (s + n) := hsame (s + n) (by omega)
  have hD'' : Dg BB (fun j => M' (r0 + 1) (s + j)) := fun j => hD' (s + j)
  have w0 := hD''.bs0 BB0 n
  have w1 := hD''.bsl BB0 n
  -- U - qd * D = here + (top - c) * P
  have eT : U - qd * D = bs BB (fun j => M' (r0 + 1) (s + j)) n + (M (r0 + 1) (s + n) - c) * BB ^ n := by rw [hU0, hI]; grind
  have eq1 : (qd - 1) * D = qd * D - D := by grind
  have eq2 : (qd + 1) * D = qd * D + D := by grind
  refine b_B_takeAway_14 hr0 hr1 ⟨⟨by omega, by omega⟩, ?_⟩
  rw [hm, et]
  refine ⟨⟨by omega, by omega⟩, fun _ => ⟨⟨by omega, by omega⟩, ⟨by omega, by omega⟩, ⟨by omega, by omega⟩, fun h => ?_, fun h => ?_⟩, fun h => absurd (Int.le_refl _) h⟩
  · rw [Int.max_eq_left h]
    have hge : 0 ≤ (M (r0 + 1) (s + n) - c) * BB ^ n := Int.mul_nonneg (by omega) (Int.le_of_lt hP)
    obtain ⟨q1, q2⟩ := divq (b := qd) (by omega) h2
    refine hQ _ _ ⟨q1.symm, hfr.u2 (by simp), ?_, fun j hj => ?_, ?_⟩
    · rw [u2_row]
      exact srB hD' ⟨h, by omega⟩
    · rw [u2_ne (by omega)]
      exact hsame j (by omega)
    · rw [u2_row]
      show bs BB (fun j => sr _ _ _ (s + j)) n + sr _ _ _ (s + n) * BB ^ n = U % D
      rw [show bs BB (fun j => sr (M' (r0 + 1)) (s + n) (M' (r0 + 1) (s + n) - c) (s + j)) n = bs BB (fun j => M' (r0 + 1) (s + j)) n from bs_congr fun j hj => sr_ne (by omega), sr_same, q2, eT, ex]
  · rw [Int.max_eq_right (by omega)]
    have hlt : (M (r0 + 1) (s + n) - c) * BB ^ n ≤ (-1) * BB ^ n := Int.mul_le_mul_of_nonneg_right (by omega) (Int.le_of_lt hP)
    have hrow : ∀ j, (upd2 M' (r0 + 1) (s + n) 0) (r0 + 1) j = if j = s + n then 0 else M' (r0 + 1) j := fun j => by
      by_cases e : j = s + n
      · rw [if_pos e, e, u2_same]
      · rw [if_neg e, u2_ne e]
    refine (s_putBack (d := d) (s := s) (n := n) hr0 hr1 hne ?_ ?_ ?_ hs).cal fun v M2 hM2 => ?_
    · rw [u2_row]
      exact srB hD' ⟨by omega, by omega⟩
    · rw [u2_off (by omega), hfr (r1 + 1) (by simp; omega)]
      exact hg
    · rw [u2_off (by omega)]
      exact hm
    · obtain ⟨f1, f2, f3, c2, f4, f5⟩ := hM2
      have g1 : bs BB (fun j => (upd2 M' (r0 + 1) (s + n) 0) (r0 + 1) (s + j)) n = bs BB (fun j => M' (r0 + 1) (s + j)) n := bs_congr fun j hj => u2_ne (by omega)
      have g2 : (upd2 M' (r0 + 1) (s + n) 0) (r1 + 1) = M (r1 + 1) := by rw [u2_off (by omega), hfr (r1 + 1) (by simp; omega)]
      rw [g1, g2, ← hD] at f5
      have f2' : Dg BB (fun j => M2 (r0 + 1) (s + j)) := fun j => f2 (s + j)
      have y0 := f2'.bs0 BB0 n
      have y1 := f2'.bsl BB0 n
      have eh : (M (r0 + 1) (s + n) - c) = -1 := by
        rcases Int.lt_or_le (M (r0 + 1) (s + n) - c) (-1) with q | q
        · exfalso
          have : (M (r0 + 1) (s + n) - c) * BB ^ n ≤ (-2) * BB ^ n := Int.mul_le_mul_of_nonneg_right (by omega) (Int.le_of_lt hP)
          omega
        · omega
      rw [eh] at eT
      have ec : c2 = 1 := by
        rcases (show c2 = 0 ∨ c2 = 1 by omega) with q | q
        · exfalso
          rw [q, Int.zero_mul] at f5
          omega
        · exact q
      rw [ec] at f5
      obtain ⟨q1, q2⟩ := divq (U := U) (D := D) (b := qd - 1) h1 (by rw [Int.sub_add_cancel]; omega)
      refine hQ _ M2 ⟨q1.symm, (hfr.u2 (by simp)).tr f1, f2, fun j hj => ?_, ?_⟩
      · rw [f3 j (by omega), hrow j, if_neg (by omega)]
        exact hsame j (by omega)
      · show bs BB (fun j => M2 (r0 + 1) (s + j)) n + M2 (r0 + 1) (s + n) * BB ^ n = U % D
        rw [f3 (s + n) (by omega), hrow (s + n), if_pos rfl, q2, eq1]
        omega
