/-! Big: its digits; gcd. -/
theorem BBp (k : Nat) : (BB : Int) ^ k = 10 ^ (9 * k) := by
  rw [Int.pow_mul, show (10 : Int) ^ 9 = BB by decide]
theorem pw10n (i : Nat) : pw10 (i : Int) = 10 ^ i := by
  unfold pw10
  rw [Int.toNat_natCast]
theorem ten_pos (i : Nat) : (0 : Int) < 10 ^ i := Int.pow_pos (by decide)
theorem dc_loop {d : Nat} {Q : Rs → Mem → Prop} {r0 n : Nat} {M : Mem} {t : Int} (hr0 : IsBig r0) (hn : M r0 1 = n) (hn1 : 1 ≤ n) (hn20 : n ≤ 20) (ht : M (r0 + 1) (n - 1) = t) (ht9 : 0 < t ∧ t < 1000000000)
    (hQ : ∀ i : Nat, 1 ≤ i → i ≤ 9 → 10 ^ (i - 1) ≤ t → t < 10 ^ i → Q (.inl ((((n : Int) - 1) * 9) + (i : Int))) M) : ∀ (k i : Nat), i + k = 9 → 1 ≤ i → 10 ^ (i - 1) ≤ t → L_B_digitCount_7 d Q M r0 (i : Int)
  | 0, i, hi, h1, hl => by
    have : i = 9 := by omega
    subst this
    refine b_B_digitCount_7 hr0 ⟨⟨by omega, by omega⟩, fun _ => ?_, fun h => absurd (by omega) h⟩
    rw [hn]
    exact hQ 9 (by omega) (by omega) hl (by have : (10 : Int) ^ 9 = 1000000000 := by decide
                                            omega)
  | k + 1, i, hi, h1, hl => by
    have et : (((n : Int) - 1)).toNat = n - 1 := by omega
    have hp : (10 : Int) ^ i ≤ 10 ^ 8 := pw_mono (by decide) (by omega)
    have h8 : (10 : Int) ^ 8 = 100000000 := by decide
    have hp0 := ten_pos i
    refine b_B_digitCount_7 hr0 ⟨⟨by omega, by omega⟩, fun h => absurd h (by omega), fun _ => ?_⟩
    rw [hn, et, ht, pw10n]
    refine ⟨⟨by omega, by omega⟩, ⟨by omega, by omega⟩, ⟨by omega, by omega⟩, ⟨by omega, by omega⟩, fun h => hQ i h1 (by omega) hl h, fun h => ?_⟩
    exact dc_loop hr0 hn hn1 hn20 ht ht9 hQ k (i + 1) (by omega) (by omega) (by rw [Nat.add_sub_cancel]; omega)
theorem dc_math {n i : Nat} {t low v : Int} (hi : 1 ≤ i) (h1 : 10 ^ (i - 1) ≤ t) (h2 : t < 10 ^ i) (hl : 0 ≤ low ∧ low < 10 ^ (9 * n)) (hv : v = low + t * 10 ^ (9 * n)) : v < 10 ^ (9 * n + i) ∧ 10 ^ (9 * n + i - 1) ≤ v := by
  have hp := ten_pos (9 * n)
  constructor
  · rw [Int.pow_add, Int.mul_comm]
    have h3 : (t + 1) * 10 ^ (9 * n) ≤ 10 ^ i * 10 ^ (9 * n) := Int.mul_le_mul_of_nonneg_right h2 (Int.le_of_lt hp)
    rw [Int.add_mul, Int.one_mul] at h3
    omega
  · rw [show 9 * n + i - 1 = 9 * n + (i - 1) by omega, Int.pow_add, Int.mul_comm]
    have h3 : 10 ^ (i - 1) * 10 ^ (9 * n) ≤ t * 10 ^ (9 * n) := Int.mul_le_mul_of_nonneg_right h1 (Int.le_of_lt hp)
    omega
/-- digitCount -/
theorem s_digitCount {d : Nat} {M : Mem} {r0 : Nat} {v : Int} (hr0 : IsBig r0) (hv : Big M r0 v) :
    Post (d + 1) cB_digitCount [oB r0] M (fun b M' => M' = M ∧ ∃ c : Nat, b = c ∧ 1 ≤ c ∧ c ≤ 180 ∧ v < 10 ^ c ∧ (v = 0 → c = 1) ∧ (v ≠ 0 → 10 ^ (c - 1) ≤ v)) := by
  intro Q hQ
  have hs := hv.size
  obtain ⟨n, hn⟩ : ∃ n : Nat, M r0 1 = n := ⟨(M r0 1).toNat, by omega⟩
  obtain ⟨p1, p2, p3⟩ := hv.range hn
  refine e_B_digitCount hr0 (b_B_digitCount_0 hr0 ⟨⟨by omega, by omega⟩, fun h => ?_, fun h => ?_⟩)
  · obtain ⟨m, rfl⟩ : ∃ m, n = m + 1 := ⟨n - 1, by omega⟩
    have hv0 : v ≠ 0 := fun e => h (hv.zero_iff.mpr e)
    have lt := hv.1.i32 m
    have b0 := hv.1.bs0 BB0 m
    have b1 := hv.1.bsl BB0 m
    have ev : v = bs BB (M (r0 + 1)) m + M (r0 + 1) m * BB ^ m := p3
    have htl : 1 ≤ M (r0 + 1) m := by
      rcases Int.lt_or_le (M (r0 + 1) m) 1 with q | q
      · exfalso
        have : M (r0 + 1) m = 0 := by omega
        rw [this, Int.zero_mul, Int.add_zero] at ev
        have := p2 (by omega)
        rw [Nat.add_sub_cancel] at this
        omega
      · exact q
    rw [BBp] at b1 ev
    refine dc_loop (n := m + 1) (t := M (r0 + 1) m) hr0 hn (by omega) (by omega) (by rw [Nat.add_sub_cancel]) ⟨by omega, by omega⟩ (fun i i1 i2 i3 i4 => ?_) 8 1 (by omega) (Nat.le_refl 1) (by simpa using htl)
    obtain ⟨k1, k2⟩ := dc_math i1 i3 i4 ⟨b0, b1⟩ ev
    refine hQ _ M ⟨rfl, 9 * m + i, by omega, by omega, by omega, k1, fun e => absurd e hv0, fun _ => k2⟩
  · have h0 : M r0 1 = 0 := Classical.not_not.mp h
    have e := hv.zero_iff.mp h0
    exact hQ 1 M ⟨rfl, 1, rfl, Nat.le_refl 1, by omega, by rw [e]; decide, fun _ => rfl, fun q => absurd e q⟩
theorem da_math {a rest low v : Int} {k m : Nat} (hm : m < 9) (hv : v = low + 10 ^ (9 * k) * (a + 10 ^ 9 * rest)) (hl : 0 ≤ low ∧ low < 10 ^ (9 * k)) : v / 10 ^ (9 * k + m) % 10 = a / 10 ^ m % 10 := by
  have hp := ten_pos (9 * k)
  have hq := ten_pos m
  have e9 : (10 : Int) ^ 9 = 10 ^ (8 - m) * 10 * 10 ^ m := by
    rw [← Int.pow_succ, ← Int.pow_add]
    congr 1
    omega
  have ea : 10 ^ m * (a / 10 ^ m) + a % 10 ^ m = a := Int.mul_ediv_add_emod _ _
  have m0 : 0 ≤ a % 10 ^ m := Int.emod_nonneg _ (by omega)
  have m1 : a % 10 ^ m < 10 ^ m := Int.emod_lt_of_pos _ hq
  generalize hx : a / 10 ^ m = x at *
  generalize hy : a % 10 ^ m = y at *
  have e1 : v = (x + 10 * (10 ^ (8 - m) * rest)) * (10 ^ (9 * k) * 10 ^ m) + (low + 10 ^ (9 * k) * y) := by
    rw [hv, e9, ← ea]; grind
  have y0 : 0 ≤ 10 ^ (9 * k) * y := Int.mul_nonneg (Int.le_of_lt hp) m0
  have y1 : 10 ^ (9 * k) * (y + 1) ≤ 10 ^ (9 * k) * 10 ^ m := Int.mul_le_mul_of_nonneg_left m1 (Int.le_of_lt hp)
  have y2 : 10 ^ (9 * k) * (y + 1) = 10 ^ (9 * k) * y + 10 ^ (9 * k) := by grind
  obtain ⟨q1, -⟩ := divq (U := v) (D := 10 ^ (9 * k) * 10 ^ m) (b := x + 10 * (10 ^ (8 - m) * rest)) (by omega) (by rw [Int.add_mul, Int.one_mul]; omega)
  rw [Int.pow_add, q1, Int.add_mul_emod_self_left]
/-- digitAt -/
theorem s_digitAt {d : Nat} {M : Mem} {r0 p : Nat} {v : Int} (hr0 : IsBig r0) (hv : Big M r0 v) (hp : p < 180) :
    Post (d + 1) cB_digitAt [oB r0, .inl (p : Int)] M (fun b M' => M' = M ∧ b = v / 10 ^ p % 10) := by
  intro Q hQ
  have t1 : ((p : Int) / 9).toNat = p / 9 := by omega
  have t2 : (p : Int) % 9 = ((p % 9 : Nat) : Int) := by omega
  have hx := hv.1.i32 (p / 9)
  have hq := ten_pos (p % 9)
  have h8 : (10 : Int) ^ 8 = 100000000 := by decide
  have hle : (10 : Int) ^ (p % 9) ≤ 10 ^ 8 := pw_mono (by decide) (by omega)
  have d0 : 0 ≤ M (r0 + 1) (p / 9) / 10 ^ (p % 9) := Int.ediv_nonneg hx.1 (by omega)
  have d1 : M (r0 + 1) (p / 9) / 10 ^ (p % 9) ≤ M (r0 + 1) (p / 9) := Int.ediv_le_self _ hx.1
  refine e_B_digitAt hr0 (b_B_digitAt_0 hr0 ?_)
  rw [t1, t2, pw10n]
  refine ⟨⟨by omega, by omega⟩, fun h => absurd h (by omega), fun _ => ⟨fun _ => ⟨⟨by omega, by omega⟩, ⟨by omega, by omega⟩, ⟨by omega, by omega⟩, ⟨by omega, by omega⟩, ⟨by omega, by omega⟩, ⟨by omega, by omega⟩, hQ _ M ⟨rfl, ?_⟩⟩, fun h => absurd (by omega) h⟩⟩
  have ep : 9 * (p / 9) + p % 9 = p := by omega
  have e20 := hv.bs20
  rw [show 20 = p / 9 + (19 - p / 9 + 1) by omega, bs_split, sg_head, BBp] at e20
  have b1 := hv.1.bsl BB0 (p / 9)
  rw [BBp] at b1
  have := da_math (k := p / 9) (m := p % 9) (by omega) e20 ⟨hv.1.bs0 BB0 _, b1⟩
  rw [ep] at this
  exact this.symm
theorem mod_half {b r : Nat} (h : 0 < r) (hr : r < b) : 2 * (b % r) < b := by
  rcases Nat.lt_or_ge b (2 * r) with q | q
  · rw [Nat.mod_eq_sub_mod (by omega), Nat.mod_eq_of_lt (by omega)]
    omega
  · have := Nat.mod_lt b h
    omega
theorem gcd_loop {d : Nat} {Q : Rs → Mem → Prop} {M : Mem} : ∀ (h : Nat) (x y i : Nat) (o0 o1 o2 o3 o9 o10 : Option PV), y < 2 ^ h → x < 9223372036854775808 → y < 9223372036854775808 → i + 2 * h ≤ 9999 → Q (.inl (Nat.gcd x y : Nat)) M → L_F_gcd_6 d Q M o0 o1 o2 o3 (x : Int) (y : Int) (i : Int) o9 o10
  | 0, x, y, i, o0, o1, o2, o3, o9, o10, hy, hx, hy2, hi, hQ => by
    have : y = 0 := by omega
    subst this
    rw [Nat.gcd_zero_right] at hQ
    exact b_F_gcd_6 ⟨⟨by omega, by omega⟩, fun h => absurd h (by omega), fun _ => ⟨⟨by omega, by omega⟩, fun _ => hQ, fun h => absurd rfl h⟩⟩
  | h + 1, x, y, i, o0, o1, o2, o3, o9, o10, hy, hx, hy2, hi, hQ => by
    refine b_F_gcd_6 ⟨⟨by omega, by omega⟩, fun h => absurd h (by omega), fun _ => ⟨⟨by omega, by omega⟩, fun h0 => ?_, fun h0 => ⟨⟨by omega, by omega⟩, ⟨by omega, by omega⟩, ?_⟩⟩⟩
    · have : y = 0 := by omega
      subst this
      rwa [Nat.gcd_zero_right] at hQ
    · have hyp : 0 < y := by omega
      have hm := Nat.mod_lt x hyp
      have e1 : (x : Int) % (y : Int) = ((x % y : Nat) : Int) := rfl
      have hg1 : Nat.gcd x y = Nat.gcd y (x % y) := by rw [Nat.gcd_comm x y, Nat.gcd_rec y x, Nat.gcd_comm]
      rw [e1, show (i : Int) + 1 = ((i + 1 : Nat) : Int) by omega]
      refine b_F_gcd_6 ⟨⟨by omega, by omega⟩, fun h => absurd h (by omega), fun _ => ⟨⟨by omega, by omega⟩, fun h1 => ?_, fun h1 => ⟨⟨by omega, by omega⟩, ⟨by omega, by omega⟩, ?_⟩⟩⟩
      · have : x % y = 0 := by omega
        rw [hg1, this, Nat.gcd_zero_right] at hQ
        exact hQ
      · have hmp : 0 < x % y := by omega
        have e2 : (y : Int) % ((x % y : Nat) : Int) = ((y % (x % y) : Nat) : Int) := rfl
        have hg2 : Nat.gcd y (x % y) = Nat.gcd (x % y) (y % (x % y)) := by rw [Nat.gcd_comm y (x % y), Nat.gcd_rec (x % y) y, Nat.gcd_comm]
        have hh := mod_half hmp hm
        have hm2 := Nat.mod_lt y hmp
        rw [e2, show ((i + 1 : Nat) : Int) + 1 = ((i + 2 : Nat) : Int) by omega]
        refine gcd_loop h _ _ (i + 2) _ _ _ _ _ _ (by rw [Nat.pow_succ] at hy; omega) (by omega) (by omega) (by omega) ?_
        rw [← hg2, ← hg1]
        exact hQ
theorem s_gcd {d : Nat} {M : Mem} {x y : Nat} (hx : x < 9223372036854775808) (hy : y < 9223372036854775808) :
    Post (d + 1) cF_gcd [.inr (.inl (x : Int)), .inr (.inl (y : Int))] M (fun b M' => M' = M ∧ b = (Nat.gcd x y : Nat)) := by
  intro Q hQ
  exact e_F_gcd (b_F_gcd_0 (gcd_loop 63 x y 0 _ _ _ _ _ _ (by have : (2 : Nat) ^ 63 = 9223372036854775808 := by decide
                                                              omega) hx hy (by omega) (hQ _ M ⟨rfl, rfl⟩)))
