/-! The reference's rows: multiplying. -/
/-- only this row's digits have changed -/
def MO (r : Nat) (M0 M : Mem) : Prop := (∀ a, a ≠ 163 → M a = M0 a) ∧ ∀ p, (p < 300 * r ∨ 300 * r + 300 ≤ p) → M 163 p = M0 163 p
theorem MO.rf {r : Nat} {M0 M : Mem} (h : MO r M0 M) : RF [r] M0 M := by
  refine ⟨fun a h1 _ => h.1 a h1, fun q _ => by rw [h.1 164 (by decide)], fun q k hq hk => h.2 _ ?_⟩
  have : q ≠ r := by simpa using hq
  omega
theorem MO.rdE {r q i : Nat} {M0 M : Mem} (h : MO r M0 M) (hq : q ≠ r) (hs : M0 164 q ≤ 300) : rd M q i = rd M0 q i := by
  rw [rd_kept h.rf (by simpa using hq) hs]
theorem MO.step {r i : Nat} {M0 M : Mem} {v : Int} (h : MO r M0 M) (hi : i < 300) : MO r M0 (upd2 M 163 (300 * r + i) v) := by
  refine ⟨fun a h1 => by rw [u2_off h1]; exact h.1 a h1, fun p hp => ?_⟩
  rw [u2_ne (by omega)]
  exact h.2 p hp
def raw (M : Mem) (r p : Nat) : Int := M 163 (300 * r + p)
theorem raw_up {M : Mem} {r q : Nat} {x : Int} : raw (upd2 M 163 (300 * r + q) x) r = sr (raw M r) q x := funext fun p => by
  unfold raw
  by_cases e : p = q
  · rw [e, sr_same, u2_same]
  · rw [sr_ne e, u2_ne (by omega)]
theorem mr_step {Z old x y c t q B Pi Pj A b2 : Int} (ih : Z + c * (Pi * Pj) = A + x * b2 * Pi) (hs : t + B * q = old + x * y + c) : Z + (t - old) * (Pi * Pj) + q * (Pi * (Pj * B)) = A + x * (b2 + y * Pj) * Pi := by
  have h : (t + B * q) * (Pi * Pj) = (old + x * y + c) * (Pi * Pj) := by rw [hs]
  grind
theorem mr_bound {old x y c : Int} (ho : 0 ≤ old ∧ old < 10000) (hx : 0 ≤ x ∧ x < 10000) (hy : 0 ≤ y ∧ y < 10000) (hc : 0 ≤ c ∧ c ≤ 9999) : 0 ≤ old + x * y + c ∧ old + x * y + c ≤ 99999999 := by
  have a1 : 0 ≤ x * y := Int.mul_nonneg hx.1 hy.1
  have a3 : x * y ≤ 9999 * 9999 := Int.mul_le_mul (by omega) (by omega) hy.1 (by decide)
  omega
theorem mulR_in {d : Nat} {Q : Rs → Mem → Prop} {r1 r2 r3 n1 n2 i : Nat} {v w : Int} {M0 : Mem} (hd : 1 ≤ d) (h1 : r1 < 200) (h2 : r2 < 200) (h3 : r3 < 200) (h13 : r1 ≠ r3) (h23 : r2 ≠ r3) (hv : Row M0 r1 v) (hw : Row M0 r2 w) (hn1 : M0 164 r1 = n1) (hn2 : M0 164 r2 = n2) (he : n1 + n2 ≤ 300) (hi : i < n1)
    (hQ : ∀ M' o6 o7 o8, MO r3 M0 M' → (∀ p, p < n1 + n2 → 0 ≤ raw M' r3 p ∧ raw M' r3 p < 10000) → bs 10000 (raw M' r3) (n1 + n2) = bs 10000 (rd M0 r1) (i + 1) * w → L_M_multiplyRows_28 d Q M' (r1 : Int) (r2 : Int) (r3 : Int) ((n1 : Int) + (n2 : Int)) ((i : Int) + 1) o6 o7 o8) :
    ∀ (k j : Nat) (M : Mem) (c : Int) (o8 : Option PV), j + k = n2 + 1 → MO r3 M0 M → (∀ p, p < n1 + n2 → 0 ≤ raw M r3 p ∧ raw M r3 p < 10000) → (0 ≤ c ∧ c ≤ 9999) → bs 10000 (raw M r3) (n1 + n2) + c * (10000 ^ i * 10000 ^ j) = bs 10000 (rd M0 r1) i * w + rd M0 r1 i * bs 10000 (rd M0 r2) j * 10000 ^ i →
    L_M_multiplyRows_38 d Q M (r1 : Int) (r2 : Int) (r3 : Int) ((n1 : Int) + (n2 : Int)) (i : Int) c (j : Int) o8 := by
  obtain ⟨d', rfl⟩ : ∃ d', d = d' + 1 := ⟨d - 1, by omega⟩
  have s1 := hv.size
  have s2 := hw.size
  have x1 := hv.1 i
  have hw0 := hw.nonneg
  have exit : ∀ (j : Nat) (M : Mem) (c : Int) o6 o7 o8, n2 ≤ j → c = 0 → MO r3 M0 M → (∀ p, p < n1 + n2 → 0 ≤ raw M r3 p ∧ raw M r3 p < 10000) → bs 10000 (raw M r3) (n1 + n2) + c * (10000 ^ i * 10000 ^ j) = bs 10000 (rd M0 r1) i * w + rd M0 r1 i * bs 10000 (rd M0 r2) j * 10000 ^ i → L_M_multiplyRows_28 (d' + 1) Q M (r1 : Int) (r2 : Int) (r3 : Int) ((n1 : Int) + (n2 : Int)) ((i : Int) + 1) o6 o7 o8 := by
    intro j M c o6 o7 o8 hj hc hM hD hI
    rw [hc, Int.zero_mul, Int.add_zero, ← hw.at_ (by omega)] at hI
    refine hQ M o6 o7 o8 hM hD ?_
    rw [hI]
    show _ = (bs 10000 (rd M0 r1) i + rd M0 r1 i * 10000 ^ i) * w
    grind
  intro k
  induction k with
  | zero =>
    intro j M c o8 hj hM hD hc hI
    have ej : j = n2 + 1 := by omega
    have hc0 : c = 0 := by
      rcases Int.lt_or_le 0 c with h | h
      · exfalso
        have p1 := pw_pos DD0 i
        have p2 := pw_pos DD0 j
        have b0 := bs_nonneg DD0 (n := n1 + n2) fun p hp => (hD p hp).1
        have b1 := hv.1.bsl DD0 (i + 1)
        have b2 := (hw.range hn2).1
        have c1 : 1 * (10000 ^ i * 10000 ^ j) ≤ c * (10000 ^ i * 10000 ^ j) := Int.mul_le_mul_of_nonneg_right h (Int.le_of_lt (Int.mul_pos p1 p2))
        have c2 : bs 10000 (rd M0 r1) (i + 1) * w ≤ 10000 ^ (i + 1) * w := Int.mul_le_mul_of_nonneg_right (Int.le_of_lt b1) hw0
        have c3 : (10000 : Int) ^ (i + 1) * w < 10000 ^ (i + 1) * 10000 ^ n2 := Int.mul_lt_mul_of_pos_left b2 (pw_pos DD0 (i + 1))
        have c4 : (10000 : Int) ^ (i + 1) * 10000 ^ n2 = 10000 ^ i * 10000 ^ j := by rw [ej, Int.pow_succ, Int.pow_succ]; grind
        have c5 : bs 10000 (rd M0 r1) (i + 1) * w = bs 10000 (rd M0 r1) i * w + rd M0 r1 i * w * 10000 ^ i := by
          show (bs 10000 (rd M0 r1) i + rd M0 r1 i * 10000 ^ i) * w = _
          grind
        rw [← hw.at_ (by omega)] at hI
        omega
      · omega
    refine b_M_multiplyRows_38 ?_
    rw [Int.toNat_natCast, hM.1 164 (by decide), hn2]
    exact ⟨⟨by omega, by omega⟩, ⟨by omega, by omega⟩, ⟨by omega, by omega⟩, fun h => absurd h (by omega), fun _ => ⟨⟨by omega, by omega⟩, fun _ => exit j M c _ _ _ (by omega) hc0 hM hD hI, fun h => absurd (by omega) h⟩⟩
  | succ k ih =>
    intro j M c o8 hj hM hD hc hI
    have x2 := hw.1 j
    have hold := hD (i + j) (by omega)
    have hb := mr_bound hold x1 x2 hc
    have e164 : M 164 = M0 164 := hM.1 164 (by decide)
    have step : ∀ o8, L_M_multiplyRows_46 (d' + 1) Q M (r1 : Int) (r2 : Int) (r3 : Int) ((n1 : Int) + (n2 : Int)) (i : Int) c (j : Int) o8 := by
      intro o8
      have t1 : (300 * (r3 : Int) + (i : Int) + (j : Int)).toNat = 300 * r3 + (i + j) := by omega
      have t2 : (300 * (r1 : Int) + (i : Int)).toNat = 300 * r1 + i := by omega
      have ex : M 163 (300 * r1 + i) = rd M0 r1 i := by
        rw [← hM.rdE (i := i) h13 s1.2]
        unfold rd
        rw [if_pos (by rw [e164]; omega)]
      have eo : M 163 (300 * r3 + (i + j)) = raw M r3 (i + j) := rfl
      refine b_M_multiplyRows_46 ⟨⟨by omega, by omega⟩, ⟨by omega, by omega⟩, ?_⟩
      refine (s_at' (d := d') h2 (by rw [e164]; exact s2) (by omega)).cal fun v1 M1 hM1 => ?_
      obtain ⟨rfl, rfl⟩ := hM1
      rw [t1, t2, ex, eo, hM.rdE h23 s2.2]
      refine ⟨⟨by omega, by omega⟩, ?_⟩
      refine ih (j + 1) _ _ _ (by omega) (hM.step (by omega)) (fun p hp => ?_) ⟨by omega, by omega⟩ ?_
      · rw [raw_up]
        by_cases e : p = i + j
        · rw [e, sr_same]; omega
        · rw [sr_ne e]; exact hD p hp
      · rw [raw_up, bs_sr (by omega), Int.pow_add, Int.pow_succ 10000 j]
        show _ = _ + rd M0 r1 i * (bs 10000 (rd M0 r2) j + rd M0 r2 j * 10000 ^ j) * 10000 ^ i
        exact mr_step hI (Int.emod_add_mul_ediv _ _)
    refine b_M_multiplyRows_38 ?_
    rw [Int.toNat_natCast, e164, hn2]
    exact ⟨⟨by omega, by omega⟩, ⟨by omega, by omega⟩, ⟨by omega, by omega⟩, fun _ => step _, fun h => ⟨⟨by omega, by omega⟩, fun h2 => exit j M c _ _ _ (by omega) (by omega) hM hD hI, fun _ => step _⟩⟩
theorem mulR_out {d : Nat} {Q : Rs → Mem → Prop} {r1 r2 r3 n1 n2 : Nat} {v w : Int} {M0 : Mem} (hd : 1 ≤ d) (h1 : r1 < 200) (h2 : r2 < 200) (h3 : r3 < 200) (h13 : r1 ≠ r3) (h23 : r2 ≠ r3) (hv : Row M0 r1 v) (hw : Row M0 r2 w) (hn1 : M0 164 r1 = n1) (hn2 : M0 164 r2 = n2) (he : n1 + n2 ≤ 300)
    (hQ : ∀ M', RF [r3] M0 M' → Row M' r3 (v * w) → Q (.inl 0) M') : ∀ (k i : Nat) (M : Mem) (o6 o7 o8 : Option PV), i + k = n1 → MO r3 M0 M → (∀ p, p < n1 + n2 → 0 ≤ raw M r3 p ∧ raw M r3 p < 10000) → bs 10000 (raw M r3) (n1 + n2) = bs 10000 (rd M0 r1) i * w →
    L_M_multiplyRows_28 d Q M (r1 : Int) (r2 : Int) (r3 : Int) ((n1 : Int) + (n2 : Int)) (i : Int) o6 o7 o8 := by
  have s1 := hv.size
  have s2 := hw.size
  intro k
  induction k with
  | zero =>
    intro i M o6 o7 o8 hi hM hD hI
    obtain ⟨d', rfl⟩ : ∃ d', d = d' + 1 := ⟨d - 1, by omega⟩
    have ei : i = n1 := by omega
    subst ei
    refine b_M_multiplyRows_28 ?_
    rw [Int.toNat_natCast, hM.1 164 (by decide), hn1, show ((i : Int) + (n2 : Int)) = ((i + n2 : Nat) : Int) by omega]
    refine ⟨⟨by omega, by omega⟩, ⟨by omega, by omega⟩, ⟨by omega, by omega⟩, fun _ => ?_, fun h => absurd (Int.le_refl _) h⟩
    refine (s_trims (d := d') (n := i + n2) h3 he hD).cal fun x M' hM' => ?_
    obtain ⟨f1, g1⟩ := hM'
    have g2 : Row M' r3 (bs 10000 (raw M r3) (i + n2)) := g1
    rw [hI, ← (hv.range hn1).2.2] at g2
    exact hQ M' (hM.rf.tr f1) g2
  | succ k ih =>
    intro i M o6 o7 o8 hi hM hD hI
    refine b_M_multiplyRows_28 ?_
    rw [Int.toNat_natCast, hM.1 164 (by decide), hn1]
    refine ⟨⟨by omega, by omega⟩, ⟨by omega, by omega⟩, ⟨by omega, by omega⟩, fun h => absurd h (by omega), fun _ => ?_⟩
    refine mulR_in (M0 := M0) hd h1 h2 h3 h13 h23 hv hw hn1 hn2 he (by omega) (fun M' p6 p7 p8 a1 a2 a3 => ?_) (n2 + 1) 0 M 0 _ (by omega) hM hD ⟨by omega, by omega⟩ (by simp [bs, hI])
    exact ih (i + 1) M' _ _ _ (by omega) a1 a2 a3
theorem mulR_zero {d : Nat} {Q : Rs → Mem → Prop} {r1 r2 r3 e : Nat} {M0 : Mem} (h3 : r3 < 200) (he : e ≤ 300)
    (hQ : ∀ M' o6 o7 o8, MO r3 M0 M' → (∀ p, p < e → raw M' r3 p = 0) → L_M_multiplyRows_28 d Q M' (r1 : Int) (r2 : Int) (r3 : Int) (e : Int) 0 o6 o7 o8) : ∀ (k i : Nat) (M : Mem) (o6 o7 o8 : Option PV), i + k = e → MO r3 M0 M → (∀ p, p < i → raw M r3 p = 0) → L_M_multiplyRows_12 d Q M (r1 : Int) (r2 : Int) (r3 : Int) (e : Int) (i : Int) o6 o7 o8 := by
  intro k
  induction k with
  | zero =>
    intro i M o6 o7 o8 hi hM hz
    exact b_M_multiplyRows_12 ⟨⟨by omega, by omega⟩, ⟨by omega, by omega⟩, fun _ => hQ M _ _ _ hM fun p hp => hz p (by omega), fun h => absurd (by omega) h⟩
  | succ k ih =>
    intro i M o6 o7 o8 hi hM hz
    refine b_M_multiplyRows_12 ?_
    rw [show (300 * (r3 : Int) + (i : Int)).toNat = 300 * r3 + i by omega]
    refine ⟨⟨by omega, by omega⟩, ⟨by omega, by omega⟩, fun h => absurd h (by omega), fun _ => ⟨⟨by omega, by omega⟩, ?_⟩⟩
    refine ih (i + 1) _ _ _ _ (by omega) (hM.step (by omega)) fun p hp => ?_
    rw [raw_up]
    by_cases q : p = i
    · rw [q, sr_same]
    · rw [sr_ne q]; exact hz p (by omega)
theorem bs_zero {β : Int} {f : Nat → Int} {n : Nat} (h : ∀ p, p < n → f p = 0) : bs β f n = 0 := by
  have := bs_top (β := β) (f := f) (n := 0) (m := n) (Nat.zero_le n) fun i _ hi => h i hi
  rw [this]
  rfl
/-- multiplyRows: into a third row -/
theorem s_multiplyRows {d : Nat} {M : Mem} {r1 r2 r3 : Nat} {v w : Int} (h1 : r1 < 200) (h2 : r2 < 200) (h3 : r3 < 200) (h13 : r1 ≠ r3) (h23 : r2 ≠ r3) (hv : Row M r1 v) (hw : Row M r2 w) {a b : Nat} (hfv : v < 10000 ^ a) (hfw : w < 10000 ^ b) (hab : a + b ≤ 300) :
    Post (d + 2) cM_multiplyRows [oM, .inl (r1 : Int), .inl (r2 : Int), .inl (r3 : Int)] M (fun _ M' => RF [r3] M M' ∧ Row M' r3 (v * w)) := by
  intro Q hQ
  have s1 := hv.size
  have s2 := hw.size
  have t1 := hv.fits hfv
  have t2 := hw.fits hfw
  obtain ⟨m, hm⟩ : ∃ m : Nat, M 164 r1 = m := ⟨(M 164 r1).toNat, by omega⟩
  obtain ⟨n, hn⟩ : ∃ n : Nat, M 164 r2 = n := ⟨(M 164 r2).toNat, by omega⟩
  refine e_M_multiplyRows (b_M_multiplyRows_0 ⟨⟨by omega, by omega⟩, ⟨by omega, by omega⟩, ?_⟩)
  rw [Int.toNat_natCast, Int.toNat_natCast, hm, hn, show ((m : Int) + (n : Int)) = ((m + n : Nat) : Int) by omega]
  refine mulR_zero (M0 := M) h3 (by omega) (fun M' o6 o7 o8 a1 a2 => ?_) (m + n) 0 M _ _ _ (by omega) ⟨fun _ _ => rfl, fun _ _ => rfl⟩ fun p hp => absurd hp (by omega)
  have := mulR_out (d := d + 1) (Q := Q) (M0 := M) (by omega) h1 h2 h3 h13 h23 hv hw hm hn (by omega) (fun M' f g => hQ 0 M' ⟨f, g⟩) m 0 M' o6 o7 o8 (by omega) a1 (fun p hp => by rw [a2 p hp]; omega) (by rw [bs_zero a2]; simp [bs])
  rw [show ((m + n : Nat) : Int) = (m : Int) + (n : Int) by omega]
  exact this
