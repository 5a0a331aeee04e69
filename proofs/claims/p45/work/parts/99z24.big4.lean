/-! Big: adding, dividing by a limb, digits. -/
theorem add_bound {x y j c : Int} (hx : 0 ≤ x ∧ x < 1000000000) (hy : 0 ≤ y ∧ y < 1000000000) (hj : 0 ≤ j ∧ j ≤ 1000000000) (hc : 0 ≤ c ∧ c ≤ 1000000000) :
    0 ≤ x + y * j + c ∧ x + y * j + c ≤ 1000000000999999999 := by
  have a1 : 0 ≤ y * j := Int.mul_nonneg hy.1 hj.1
  have a3 : y * j ≤ 999999999 * 1000000000 := Int.mul_le_mul (by omega) hj.2 hj.1 (by decide)
  omega
theorem add_step (b0 b1 x y j c B P t q r : Int) (ih : r + c * P = b0 + b1 * j) (hs : t + B * q = x + y * j + c) :
    r + t * P + q * (P * B) = b0 + x * P + (b1 + y * P) * j := by grind
theorem add_loop {d : Nat} {Q : Rs → Mem → Prop} {r0 r1 : Nat} {j : Int} {e : Nat} {f0 g : Nat → Int} {M0 : Mem} (hr0 : IsBig r0) (hr1 : IsBig r1) (hne : r0 ≠ r1) (hj : 0 ≤ j ∧ j ≤ 1000000000) (he : e ≤ 20)
    (hd : 1 ≤ d) (hg0 : Dg BB g) (hg : M0 (r1 + 1) = g) (hz : ∀ i, e ≤ i → f0 i = 0) (hfit : bs BB f0 e + bs BB g e * j < BB ^ e)
    (hQ : ∀ M', Fr [r0, r0 + 1] M0 M' → Big M' r0 (bs BB f0 e + bs BB g e * j) → Q (.inl 0) M') : ∀ (k i : Nat) (M : Mem) (c : Int) (o8 o9 : Option PV), i + k = e → Fr [r0, r0 + 1] M0 M → Dg BB (M (r0 + 1)) →
    (∀ j, i ≤ j → M (r0 + 1) j = f0 j) → (0 ≤ c ∧ c ≤ 1000000000) → bs BB (M (r0 + 1)) i + c * BB ^ i = bs BB f0 i + bs BB g i * j →
    L_B_addScaled_14 d Q M r0 r1 j c (e : Int) (i : Int) o8 o9
  | 0, i, M, c, _, _, hi', hfr, hD, hs, hc, hI => by
    have ei : i = e := by omega
    subst ei
    obtain ⟨d', rfl⟩ : ∃ d', d = d' + 1 := ⟨d - 1, by omega⟩
    refine b_B_addScaled_14 hr0 hr1 ⟨⟨by omega, by omega⟩, ⟨by omega, by omega⟩, fun _ => ?_, fun h => absurd (Int.le_refl _) h⟩
    refine (s_trim (d := d') hr0 he hD fun j hj => by rw [hs j hj, hz j hj]).cal fun v M' ⟨f1, g1⟩ => hQ M' (hfr.tr (f1.mono (by simp))) ?_
    have h1 := hD.bs0 BB0 i
    have hp := pw_pos BB0 i
    have : c = 0 := by
      rcases Int.lt_or_le 0 c with h | h
      · have h2 : 1 * BB ^ i ≤ c * BB ^ i := Int.mul_le_mul_of_nonneg_right h (Int.le_of_lt hp)
        omega
      · omega
    rw [this, Int.zero_mul, Int.add_zero] at hI
    rwa [hI] at g1
  | k + 1, i, M, c, _, _, hi', hfr, hD, hs, hc, hI => by
    have e0 : r0 % 2 = 0 := hr0.2
    have e1 : r1 % 2 = 0 := hr1.2
    have hrow : M (r1 + 1) = g := by rw [hfr _ (by simp; omega)]; exact hg
    have hx := hD.i32 i
    have hy := hg0.i32 i
    have hb := add_bound hx hy hj hc
    refine b_B_addScaled_14 hr0 hr1 ⟨⟨by omega, by omega⟩, ⟨by omega, by omega⟩, fun h => absurd h (by omega), fun _ => ⟨⟨by omega, by omega⟩, ?_⟩⟩
    rw [Int.toNat_natCast, hrow]
    refine ⟨⟨by omega, by omega⟩, ⟨by omega, by omega⟩, ⟨by omega, by omega⟩, ?_⟩
    refine add_loop hr0 hr1 hne hj he hd hg0 hg hz hfit hQ k (i + 1) _ _ _ _ (by omega) (hfr.u2 (by simp)) ?_ ?_ ⟨by omega, by omega⟩ ?_
    · rw [u2_row]
      exact hD.sr ⟨by omega, by simp only [BB]; omega⟩
    · intro j hj
      rw [u2_ne (by omega)]
      exact hs j (by omega)
    · rw [u2_row]
      show bs BB (sr _ _ _) i + sr _ _ _ i * BB ^ i + _ * BB ^ (i + 1) = bs BB f0 i + f0 i * BB ^ i + (bs BB g i + g i * BB ^ i) * j
      rw [Int.pow_succ]
      rw [bs_sr_ge (Nat.le_refl i), sr_same, ← hs i (Nat.le_refl i)]
      exact add_step _ _ _ _ _ _ _ _ _ _ _ hI (Int.emod_add_mul_ediv _ _)
/-- addScaled: if the outcome has a place -/
theorem s_addScaled {d : Nat} {M : Mem} {r0 r1 : Nat} {v w j : Int} (hr0 : IsBig r0) (hr1 : IsBig r1) (hne : r0 ≠ r1) (hv : Big M r0 v) (hw : Big M r1 w) (hj : 0 ≤ j ∧ j ≤ 1000000000) (hfit : v + w * j < BB ^ 20) :
    Post (d + 2) cB_addScaled [oB r0, oB r1, .inr (.inl j)] M (fun _ M' => Fr [r0, r0 + 1] M M' ∧ Big M' r0 (v + w * j)) := by
  intro Q hQ
  have s0 := hv.size
  have s1 := hw.size
  obtain ⟨m, hm⟩ : ∃ m : Nat, M r0 1 = m := ⟨(M r0 1).toNat, by omega⟩
  obtain ⟨n, hn⟩ : ∃ n : Nat, M r1 1 = n := ⟨(M r1 1).toNat, by omega⟩
  obtain ⟨p1, p2, p3⟩ := hv.range hm
  obtain ⟨q1, q2, q3⟩ := hw.range hn
  have z0 : ∀ i : Nat, m ≤ i → M (r0 + 1) i = 0 := by
    obtain ⟨h1, n', h2, h4, h5, h6, h7⟩ := hv
    exact fun i hi => h5 i (by omega)
  have z1 : ∀ i : Nat, n ≤ i → M (r1 + 1) i = 0 := by
    obtain ⟨h1, n', h2, h4, h5, h6, h7⟩ := hw
    exact fun i hi => h5 i (by omega)
  obtain ⟨e, he1, he2⟩ : ∃ e : Nat, (e : Int) = min (max (M r0 1) (M r1 1) + 2) 20 ∧ m ≤ e ∧ n ≤ e ∧ e ≤ 20 ∧ (e = max m n + 2 ∨ e = 20) := ⟨(min (max (M r0 1) (M r1 1) + 2) 20).toNat, by omega, by omega, by omega, by omega, by omega⟩
  have ev : bs BB (M (r0 + 1)) e = v := by rw [p3]; exact bs_top he2.1 fun i hi _ => z0 i hi
  have ew : bs BB (M (r1 + 1)) e = w := by rw [q3]; exact bs_top he2.2.1 fun i hi _ => z1 i hi
  refine e_B_addScaled hr0 hr1 (b_B_addScaled_0 hr0 hr1 ⟨⟨by omega, by omega⟩, ⟨by omega, by omega⟩, ⟨by omega, by omega⟩, ?_⟩)
  rw [← he1]
  refine add_loop (M0 := M) (f0 := M (r0 + 1)) (g := M (r1 + 1)) hr0 hr1 hne hj he2.2.2.1 (by omega) hw.1 rfl (fun i hi => z0 i (by omega)) ?_ ?_ e 0 M 0 _ _ (by omega) Fr.rfl' hv.1 (fun _ _ => rfl) ⟨by omega, by omega⟩ ?_
  · rw [ev, ew]
    rcases he2.2.2.2 with e1 | e1
    · rw [e1]
      have h1 : BB ^ m ≤ BB ^ (max m n) := pw_mono (by decide) (by omega)
      have h2 : BB ^ n ≤ BB ^ (max m n) := pw_mono (by decide) (by omega)
      have hw0 := hw.nonneg
      have h3 : w * j ≤ w * 1000000000 := Int.mul_le_mul_of_nonneg_left hj.2 hw0
      have h4 : (BB : Int) ^ (max m n + 2) = BB ^ (max m n) * 1000000000000000000 := by
        rw [Int.pow_add]
        congr 1
      have := pw_pos BB0 (max m n)
      omega
    · rw [e1]; exact hfit
  · intro M' f1 g1
    rw [ev, ew] at g1
    exact hQ 0 M' ⟨f1, g1⟩
  · simp [bs]
theorem dl_step {H q r rest x j B : Int} (hs : j * q + r = rest * B + x) (H' : Int) (h : H = H' * j + rest) : H * B + x = (H' * B + q) * j + r := by grind
theorem dl_row {b x q H P B Y : Int} (h : Y = b + x * P + H * (P * B)) : Y + (q - x) * P = b + (H * B + q) * P := by grind
theorem dl_top {b x H P B Y : Int} (h : Y = b + x * P + H * (P * B)) : Y = b + (H * B + x) * P := by grind
theorem dl_loop {d : Nat} {Q : Rs → Mem → Prop} {r0 : Nat} {j : Int} {n : Nat} {f0 : Nat → Int} {M0 : Mem} {v : Int} (hr0 : IsBig r0) (hj : 0 < j ∧ j ≤ 1000000000) (hn : n ≤ 20) (hd : 1 ≤ d) (hsz : M0 r0 1 = n)
    (hz : ∀ i, n ≤ i → f0 i = 0) (hv : v = bs BB f0 n)
    (hQ : ∀ M', Fr [r0, r0 + 1] M0 M' → Big M' r0 (v / j) → Q (.inl (v % j)) M') : ∀ (k : Nat) (M : Mem) (rest H H' : Int) (o6 o7 : Option PV), k ≤ n → Fr [r0 + 1] M0 M → Dg BB (M (r0 + 1)) →
    (∀ i, i < k → M (r0 + 1) i = f0 i) → (∀ i, n ≤ i → M (r0 + 1) i = 0) → (0 ≤ rest ∧ rest < j) → bs BB f0 n = bs BB f0 k + H * BB ^ k → bs BB (M (r0 + 1)) n = bs BB f0 k + H' * BB ^ k → H = H' * j + rest →
    L_B_divideByLimb_11 d Q M r0 j rest ((k : Int) - 1) o6 o7
  | 0, M, rest, H, H', _, _, hk, hfr, hD, hs, ht, hr, hI, hI2, hH => by
    obtain ⟨d', rfl⟩ : ∃ d', d = d' + 1 := ⟨d - 1, by omega⟩
    refine b_B_divideByLimb_11 hr0 ⟨⟨by omega, by omega⟩, fun _ => ?_, fun h => absurd (by omega) h⟩
    have hm : M r0 1 = n := by rw [hfr r0 (by simp)]; exact hsz
    rw [hm]
    refine (s_trim (d := d') hr0 hn hD ht).cal fun v' M' ⟨f1, g1⟩ => ?_
    have e1 : v = H := by rw [hv, hI]; simp [bs]
    have e2 : bs BB (M (r0 + 1)) n = H' := by rw [hI2]; simp [bs]
    have e3 : v = j * H' + rest := by rw [e1, hH, Int.mul_comm]
    have e4 : v / j = H' := by
      rw [e3, Int.mul_add_ediv_left _ _ (by omega), Int.ediv_eq_zero_of_lt hr.1 hr.2, Int.add_zero]
    have e5 : v % j = rest := by
      rw [e3, Int.mul_add_emod_self_left, Int.emod_eq_of_lt hr.1 hr.2]
    rw [e2, ← e4] at g1
    rw [← e5]
    exact hQ M' ((hfr.mono (by simp)).tr (f1.mono (by simp))) g1
  | k + 1, M, rest, H, H', _, _, hk, hfr, hD, hs, ht, hr, hI, hI2, hH => by
    have et : (((k + 1 : Nat) : Int) - 1).toNat = k := by omega
    have hx := hD.i32 k
    have hxe : M (r0 + 1) k = f0 k := hs k (by omega)
    have hpos : 0 ≤ rest * 1000000000 + M (r0 + 1) k := by omega
    have hq0 : 0 ≤ (rest * 1000000000 + M (r0 + 1) k) / j := Int.ediv_nonneg hpos (by omega)
    have hq1 : (rest * 1000000000 + M (r0 + 1) k) / j < 1000000000 := Int.ediv_lt_of_lt_mul hj.1 (by omega)
    have hr0' : 0 ≤ (rest * 1000000000 + M (r0 + 1) k) % j := Int.emod_nonneg _ (by omega)
    have hr1' : (rest * 1000000000 + M (r0 + 1) k) % j < j := Int.emod_lt_of_pos _ hj.1
    have hde : j * ((rest * 1000000000 + M (r0 + 1) k) / j) + (rest * 1000000000 + M (r0 + 1) k) % j = rest * BB + M (r0 + 1) k := Int.mul_ediv_add_emod _ _
    refine b_B_divideByLimb_11 hr0 ⟨⟨by omega, by omega⟩, fun h => absurd h (by omega), fun _ => ⟨⟨by omega, by omega⟩, ?_⟩⟩
    rw [et]
    refine ⟨⟨by omega, by omega⟩, ⟨by omega, by omega⟩, ⟨by omega, by omega⟩, ?_⟩
    rw [show (((k + 1 : Nat) : Int) - 1 + (-1)) = (k : Int) - 1 by omega]
    refine dl_loop hr0 hj hn hd hsz hz hv hQ k _ _ (H * BB + M (r0 + 1) k) (H' * BB + (rest * 1000000000 + M (r0 + 1) k) / j) _ _ (by omega) (hfr.u2 (by simp)) ?_ ?_ ?_ ⟨hr0', hr1'⟩ ?_ ?_ ?_
    · rw [u2_row]
      exact hD.sr ⟨hq0, hq1⟩
    · intro i hi
      rw [u2_ne (by omega)]
      exact hs i (by omega)
    · intro i hi
      rw [u2_ne (by omega)]
      exact ht i hi
    · rw [hxe]
      refine dl_top (B := BB) ?_
      rw [hI, Int.pow_succ]
      rfl
    · rw [u2_row, bs_sr (by omega)]
      refine dl_row ?_
      rw [hxe, hI2, Int.pow_succ]
      rfl
    · exact dl_step hde H' hH
/-- divideByLimb: the quotient stays, the rest is the answer -/
theorem s_divideByLimb {d : Nat} {M : Mem} {r0 : Nat} {v j : Int} (hr0 : IsBig r0) (hv : Big M r0 v) (hj : 0 < j ∧ j ≤ 1000000000) :
    Post (d + 2) cB_divideByLimb [oB r0, .inr (.inl j)] M (fun b M' => Fr [r0, r0 + 1] M M' ∧ Big M' r0 (v / j) ∧ b = v % j) := by
  intro Q hQ
  have s0 := hv.size
  have hD := hv.1
  obtain ⟨n, hn⟩ : ∃ n : Nat, M r0 1 = n := ⟨(M r0 1).toNat, by omega⟩
  obtain ⟨p1, p2, p3⟩ := hv.range hn
  have z0 : ∀ i : Nat, n ≤ i → M (r0 + 1) i = 0 := by
    obtain ⟨h1, n', h2, h4, h5, h6, h7⟩ := hv
    exact fun i hi => h5 i (by omega)
  refine e_B_divideByLimb hr0 (b_B_divideByLimb_0 hr0 ⟨⟨by omega, by omega⟩, fun h => absurd h (by omega), fun _ => ?_⟩)
  rw [hn]
  refine dl_loop (M0 := M) (f0 := M (r0 + 1)) (v := v) hr0 hj (by omega) (by omega) hn z0 p3 (fun M' f1 g1 => hQ _ M' ⟨f1, g1, rfl⟩) n M 0 0 0 _ _ (Nat.le_refl n) Fr.rfl' hD (fun _ _ => rfl) z0 ⟨by omega, by omega⟩ ?_ ?_ ?_
  · simp
  · simp
  · simp
