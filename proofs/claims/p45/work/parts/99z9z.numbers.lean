/-! Nets: numbers. -/
theorem Bd.mul {p q : Rat} {a b : Nat} (hp : Bd p a) (hq : Bd q b) : Bd (p * q) (a + b) := by
  refine ⟨?_, ?_⟩
  · have h1 : (p * q).num.natAbs ≤ (p.num * q.num).natAbs := by
      rw [Rat.num_mul]
      exact Int.natAbs_ediv_le_natAbs _ _
    rw [Int.natAbs_mul] at h1
    have h2 := fits_mul (v := ((p.num.natAbs : Nat) : Int)) (w := ((q.num.natAbs : Nat) : Int)) (by omega) hp.1 hq.1
    rw [← Int.natCast_mul] at h2
    omega
  · have h1 : (p * q).den ≤ p.den * q.den := by
      rw [Rat.den_mul]
      exact Nat.div_le_self _ _
    have h2 := fits_mul (v := ((p.den : Nat) : Int)) (w := ((q.den : Nat) : Int)) (by omega) hp.2 hq.2
    rw [← Int.natCast_mul] at h2
    omega
def numP (r : Rat) : Nat → Rat
  | 0 => 1 - r
  | k + 1 => numP r k * r
def nmQ (r : Rat) (m : Int) : Rat := if m = -1 then r / (1 - r) else numP r m.toNat
/-- the load -/
def ldQ (n : Nat) (C S : Nat → Int) (A : Nat → Nat → Int) (i : Nat) : Rat := rtQ n C S A i / ((S i : Int) : Rat)
theorem one_sub_mk {X T : Nat} (hT : 0 < T) (h : X ≤ T) : 1 - mkRat (X : Int) T = mkRat ((T - X : Nat) : Int) T := by
  have ht : (((T : Nat) : Int) : Rat) ≠ 0 := int_ne (by omega)
  rw [mkRat_ratio, mkRat_ratio, show ((T - X : Nat) : Int) = (T : Int) - (X : Int) by omega, Rat.intCast_sub]
  generalize (((X : Nat) : Int) : Rat) = x at *
  generalize (((T : Nat) : Int) : Rat) = t at *
  grind
theorem numP_mk {u w : Nat} (hw : 0 < w) (h : u ≤ w) : ∀ k, numP (mkRat (u : Int) w) k = mkRat (((w - u) * u ^ k : Nat) : Int) (w * w ^ k) := by
  intro k
  induction k with
  | zero =>
    show 1 - mkRat (u : Int) w = _
    rw [one_sub_mk hw h, Nat.pow_zero, Nat.pow_zero, Nat.mul_one, Nat.mul_one]
  | succ k ih =>
    show numP (mkRat (u : Int) w) k * mkRat (u : Int) w = _
    rw [ih, Rat.mkRat_mul_mkRat, ← Int.natCast_mul, Nat.pow_succ, Nat.pow_succ, Nat.mul_assoc, Nat.mul_assoc]
theorem mean_mk {X T : Nat} (hT : 0 < T) (h : X < T) : mkRat (X : Int) T / (1 - mkRat (X : Int) T) = mkRat (X : Int) (T - X) := by
  have ht : (((T : Nat) : Int) : Rat) ≠ 0 := int_ne (by omega)
  have hd : (((T - X : Nat) : Int) : Rat) ≠ 0 := int_ne (by omega)
  rw [one_sub_mk hT (by omega), mkRat_ratio, mkRat_ratio, mkRat_ratio]
  generalize (((X : Nat) : Int) : Rat) = x at *
  generalize (((T : Nat) : Int) : Rat) = t at *
  generalize (((T - X : Nat) : Int) : Rat) = u at *
  grind
/-- a load below 1, as numbers -/
theorem ld_mk {n i X Y : Nat} {C S : Nat → Int} {A : Nat → Nat → Int} (hO : nOk n C S A) (hi : i < n) (hY : 0 < Y) (e : mkRat (X : Int) Y = rtQ n C S A i) : ldQ n C S A i = mkRat (X : Int) (Y * (S i).toNat) ∧ (rtQ n C S A i < ((S i : Int) : Rat) ↔ X < Y * (S i).toNat) := by
  have h4 := hO.1
  have hS := hO.2.2.2.2 i (by omega)
  obtain ⟨T, hT⟩ : ∃ T : Nat, S i = T := ⟨(S i).toNat, by omega⟩
  refine ⟨?_, ?_⟩
  · show rtQ n C S A i / ((S i : Int) : Rat) = _
    rw [← e, mk_div1 hY (by omega)]
  · rw [← e, mk_lt hY, hT, Int.toNat_natCast, ← Int.natCast_mul, Nat.mul_comm]
    omega
theorem bI50 : IsBig 50 := ⟨by decide, by decide⟩
theorem bI52 : IsBig 52 := ⟨by decide, by decide⟩
theorem bI48 : IsBig 48 := ⟨by decide, by decide⟩
abbrev numC : List Nat := [0, 1, 2, 3, 4, 5, 6, 7, 8, 9, 50, 51, 52, 53]
theorem AZ.set {M M' : Mem} {l : List Nat} (h : AZ M) (hf : Fr l M M') (h2 : ∀ r, r < 54 → r % 2 = 0 → r + 1 ∈ l → RZ M' r) : AZ M' := h.fr hf fun r hr hm => h2 r hr.1 hr.2 hm
theorem s_meanNumber {d : Nat} {M : Mem} {n i : Nat} {C S : Nat → Int} {A : Nat → Nat → Int} (hN : NC M n C S A) (hO : nOk n C S A) (hs : NSol M n C S A (fun _ => false)) (hz : AZ M) (hi : i < n) (hl : rtQ n C S A i < ((S i : Int) : Rat)) : Post (d + 4) cN_meanNumber [oN, .inl (i : Int), oB 90] M (fun v M' => Fr numC M M' ∧ AZ M' ∧ CF M' (nmQ (ldQ n C S A i) (-1)) ∧ v = (nmQ (ldQ n C S A i) (-1)).num.sign) := by
  intro Q hQ
  have h4 := hO.1
  obtain ⟨X, Y, y1, y2, y3, hx⟩ := hs
  obtain ⟨x1, x2, x3⟩ := hx i hi
  obtain ⟨e1, e2⟩ := ld_mk hO hi y2 x3
  have hlt := e2.mp hl
  have hS := hO.2.2.2.2 i (by omega)
  obtain ⟨T, hT⟩ : ∃ T : Nat, S i = T := ⟨(S i).toNat, by omega⟩
  have eT : S i * (Y : Int) = ((Y * (S i).toNat : Nat) : Int) := by rw [hT, Int.toNat_natCast, Int.natCast_mul, Int.mul_comm]
  have bT : Y * (S i).toNat ≤ 25600000000 * 1000 := Nat.mul_le_mul y3 (by omega)
  refine e_N_meanNumber (b_N_meanNumber_0 ?_)
  rw [Int.toNat_natCast, hN.2.2.1 i (by omega), x1, y1, eT]
  generalize Y * (S i).toNat = D at *
  rw [show max ((D : Int) - (X i : Int)) 1 = ((D - X i : Nat) : Int) by omega]
  refine ⟨⟨by omega, by omega⟩, ⟨by omega, by omega⟩, ⟨by omega, by omega⟩, ?_⟩
  refine (s_setLongsQ (d := d) (x := X i) (y := D - X i) (by omega) (by omega) (by omega) (hz 0 (bIr (by decide) rfl)) (hz 2 (bIr (by decide) rfl))).cal fun v4 M4 hM4 => ?_
  obtain ⟨f4, g4, k4⟩ := hM4
  have ev : mkRat (X i : Int) (D - X i) = nmQ (ldQ n C S A i) (-1) := by
    unfold nmQ
    rw [if_pos rfl, e1, mean_mk (by omega) hlt]
  rw [ev] at g4 k4
  exact hQ _ _ ⟨f4.mono (by simp), hz.sol (f4.mono (by simp)) g4, g4, k4⟩
theorem p14 : (25600000000000 : Int) ^ 11 < BB ^ 18 ∧ (BB : Int) ^ 18 < BB ^ 20 := by decide +kernel
theorem w_pow {w k : Nat} (hw : w ≤ 25600000000000) (hk : k ≤ 10) : ((w * w ^ k : Nat) : Int) < BB ^ 18 := by
  have h1 : w * w ^ k ≤ 25600000000000 ^ 11 := by
    rw [Nat.mul_comm, ← Nat.pow_succ]
    exact Nat.le_trans (Nat.pow_le_pow_left hw _) (Nat.pow_le_pow_right (by decide) (by omega))
  have h2 := p14.1
  have e : ((25600000000000 ^ 11 : Nat) : Int) = (25600000000000 : Int) ^ 11 := by decide +kernel
  have := Int.ofNat_le.mpr h1
  rw [e] at this
  omega
theorem s_chanceOf {d : Nat} {M : Mem} {n i m : Nat} {C S : Nat → Int} {A : Nat → Nat → Int} (hN : NC M n C S A) (hO : nOk n C S A) (hs : NSol M n C S A (fun _ => false)) (hz : AZ M) (hi : i < n) (hl : rtQ n C S A i < ((S i : Int) : Rat)) (hm : m ≤ 9) : Post (d + 7) cN_chanceOf [oN, .inl (i : Int), .inl (m : Int), oB 90] M (fun v M' => Fr numC M M' ∧ AZ M' ∧ CF M' (nmQ (ldQ n C S A i) (m : Int)) ∧ v = (nmQ (ldQ n C S A i) (m : Int)).num.sign) := by
  intro Q hQ
  have h4 := hO.1
  obtain ⟨X, Y, y1, y2, y3, hx⟩ := hs
  obtain ⟨x1, x2, x3⟩ := hx i hi
  obtain ⟨e1, e2⟩ := ld_mk hO hi y2 x3
  have hlt := e2.mp hl
  have hS := hO.2.2.2.2 i (by omega)
  obtain ⟨T, hT⟩ : ∃ T : Nat, S i = T := ⟨(S i).toNat, by omega⟩
  have eT : S i * (Y : Int) = ((Y * (S i).toNat : Nat) : Int) := by rw [hT, Int.toNat_natCast, Int.natCast_mul, Int.mul_comm]
  have bT : Y * (S i).toNat ≤ 25600000000 * 1000 := Nat.mul_le_mul y3 (by omega)
  refine e_N_chanceOf (b_N_chanceOf_0 ?_)
  rw [Int.toNat_natCast, hN.2.2.1 i (by omega), x1, y1, eT]
  generalize Y * (S i).toNat = D at *
  have hg : 0 < Nat.gcd (X i) D := Nat.gcd_pos_of_pos_right _ (by omega)
  have hgD : Nat.gcd (X i) D ≤ D := Nat.gcd_le_right _ (by omega)
  have red := mk_red (x := X i) (y := D) (by omega)
  have hu := Nat.div_mul_cancel (Nat.gcd_dvd_left (X i) D)
  have hw := Nat.div_mul_cancel (Nat.gcd_dvd_right (X i) D)
  have uw : X i / Nat.gcd (X i) D < D / Nat.gcd (X i) D := by
    refine Nat.lt_of_mul_lt_mul_right (a := Nat.gcd (X i) D) ?_
    omega
  have wD : D / Nat.gcd (X i) D ≤ D := Nat.div_le_self _ _
  refine ⟨⟨by omega, by omega⟩, ⟨by omega, by omega⟩, ?_⟩
  refine (s_gcd (d := d + 5) (x := X i) (y := D) (by omega) (by omega)).cal fun v1 M1 hM1 => ?_
  obtain ⟨e3, rfl⟩ := hM1
  rw [e3, x1, show max ((Nat.gcd (X i) D : Nat) : Int) 1 = ((Nat.gcd (X i) D : Nat) : Int) by omega, show ((X i : Nat) : Int) / ((Nat.gcd (X i) D : Nat) : Int) = ((X i / Nat.gcd (X i) D : Nat) : Int) from rfl, show ((D : Nat) : Int) / ((Nat.gcd (X i) D : Nat) : Int) = ((D / Nat.gcd (X i) D : Nat) : Int) from rfl]
  rw [red] at e1
  generalize hug : X i / Nat.gcd (X i) D = u at *
  generalize hwg : D / Nat.gcd (X i) D = w at *
  generalize hgg : Nat.gcd (X i) D = g at *
  rw [show ((w : Int) - (u : Int)) = ((w - u : Nat) : Int) by omega]
  refine ⟨⟨by omega, by omega⟩, ⟨by omega, by omega⟩, ⟨by omega, by omega⟩, ⟨by omega, by omega⟩, ?_⟩
  refine (s_setLong (d := d + 4) (r0 := 50) (j := ((w - u : Nat) : Int)) bI50 (hz 50 bI50) (by omega) (by omega)).cal fun v2 M2 hM2 => ?_
  obtain ⟨f2, g2⟩ := hM2
  have z2 : AZ M2 := hz.big bI50 f2 g2
  refine (s_setLong (d := d + 4) (r0 := 52) (j := (w : Int)) bI52 (z2 52 bI52) (by omega) (by omega)).cal fun v3 M3 hM3 => ?_
  obtain ⟨f3, g3⟩ := hM3
  have z3 : AZ M3 := z2.big bI52 f3 g3
  have wb : w ≤ 25600000000000 := by omega
  have pb := p14.2
  have loop : ∀ (f k : Nat), k + f = m → ∀ M4, Fr [50, 51, 52, 53] M M4 → AZ M4 → Big M4 50 (((w - u) * u ^ k : Nat) : Int) → Big M4 52 ((w * w ^ k : Nat) : Int) → ∀ o1 o6 o7, L_N_chanceOf_41 (d + 6) Q M4 o1 (m : Int) (w : Int) o6 o7 (u : Int) (k : Int) := by
    intro f
    induction f with
    | zero =>
      intro k hk M4 f4 z4 b4 c4 o1 o6 o7
      have hk : k = m := by omega
      subst hk
      have pw := w_pow wb (show k ≤ 10 by omega)
      have pu : (w - u) * u ^ k ≤ w * w ^ k := Nat.mul_le_mul (by omega) (Nat.pow_le_pow_left (by omega) k)
      have hw0 : 0 < w * w ^ k := Nat.mul_pos (by omega) (Nat.pow_pos (by omega))
      refine b_N_chanceOf_41 ⟨⟨by omega, by omega⟩, ⟨by omega, by omega⟩, fun _ => ?_, fun z => absurd (Int.le_refl _) z⟩
      refine (s_setBigsQ (d := d) bI50 bI52 (by decide) (by decide) b4 c4 (fun r hr => z4 r (bIr (by omega) (by omega))) (by omega) pw hw0).cal fun v5 M5 hM5 => ?_
      obtain ⟨f5, g5, k5, e5⟩ := hM5
      have ev : mkRat (((w - u) * u ^ k : Nat) : Int) (w * w ^ k) = nmQ (ldQ n C S A i) (k : Int) := by
        unfold nmQ
        rw [if_neg (by omega), Int.toNat_natCast, e1, numP_mk (by omega) (by omega)]
      rw [ev] at g5 e5
      refine hQ _ _ ⟨(f4.mono (by simp)).tr (f5.mono (by simp)), z4.set f5 fun r hr h2 hm => ?_, g5, e5⟩
      rcases (show r = 0 ∨ r = 2 ∨ r = 4 ∨ r = 6 ∨ r = 8 by simp at hm; omega) with h | h | h | h | h
      · rw [h]; exact g5.rz0
      · rw [h]; exact g5.rz2
      · exact k5 r (by omega)
      · exact k5 r (by omega)
      · exact k5 r (by omega)
    | succ f ih =>
      intro k hk M4 f4 z4 b4 c4 o1 o6 o7
      have pw := w_pow wb (show k + 1 ≤ 10 by omega)
      have pu : (w - u) * u ^ (k + 1) ≤ w * w ^ (k + 1) := Nat.mul_le_mul (by omega) (Nat.pow_le_pow_left (by omega) (k + 1))
      have eu : (((w - u) * u ^ k : Nat) : Int) * (u : Int) = (((w - u) * u ^ (k + 1) : Nat) : Int) := by rw [← Int.natCast_mul, Nat.pow_succ, Nat.mul_assoc]
      have ew : ((w * w ^ k : Nat) : Int) * (w : Int) = ((w * w ^ (k + 1) : Nat) : Int) := by rw [← Int.natCast_mul, Nat.pow_succ, Nat.mul_assoc]
      refine b_N_chanceOf_41 ⟨⟨by omega, by omega⟩, ⟨by omega, by omega⟩, fun z => absurd z (by omega), fun _ => ?_⟩
      refine (s_multiply (d := d + 4) (r0 := 50) (j := (u : Int)) bI50 b4 (by omega) (by omega) (by rw [eu]; omega)).cal fun v5 M5 hM5 => ?_
      obtain ⟨f5, g5⟩ := hM5
      rw [eu] at g5
      refine (s_multiply (d := d + 4) (r0 := 52) (j := (w : Int)) bI52 (f5.big c4 (by decide) (by decide)) (by omega) (by omega) (by rw [ew]; omega)).cal fun v6 M6 hM6 => ?_
      obtain ⟨f6, g6⟩ := hM6
      rw [ew] at g6
      rw [show (k : Int) + 1 = ((k + 1 : Nat) : Int) by omega]
      exact ih (k + 1) (by omega) M6 ((f4.tr (f5.mono (by simp))).tr (f6.mono (by simp))) ((z4.big bI50 f5 g5).big bI52 f6 g6) (f6.big g5 (by decide) (by decide)) g6 _ _ _
  refine loop m 0 (by omega) M3 (((f2.mono (by simp)) : Fr [50, 51, 52, 53] M M2).tr (f3.mono (by simp))) z3 ?_ ?_ _ _ _
  · rw [Nat.pow_zero, Nat.mul_one]
    exact f3.big g2 (by decide) (by decide)
  · rw [Nat.pow_zero, Nat.mul_one]
    exact g3
abbrev nbC : List Nat := [0, 1, 2, 3, 4, 5, 6, 7, 8, 9, 50, 51, 52, 53, 139, 140, 142, 83, 84, 85, 86, 87, 88, 89]
theorem NC.num {M M' : Mem} {n : Nat} {C S : Nat → Int} {A : Nat → Nat → Int} (h : NC M n C S A) (hf : Fr numC M M') : NC M' n C S A := h.kept hf (by decide) (by decide) (by decide) fun i hi => by simp; omega
def nbOk (n : Nat) (C S : Nat → Int) (A : Nat → Nat → Int) (i : Nat) : Prop := ratesOk n A ∧ rtQ n C S A i < ((S i : Int) : Rat)
theorem s_Qnumbers {d : Nat} {M : Mem} {n : Nat} {C S : Nat → Int} {A : Nat → Nat → Int} {i m : Int} (hN : NC M n C S A) (hO : nOk n C S A) (hz : AZ M) (hi : R32 i) (hm : R32 m) : PostE (d + 8) cQ_numbers [oQ, .inl i, .inl m] M (fun r M' => (¬ inSt n i i ∧ r = .inr 4 ∧ M' = M) ∨ (inSt n i i ∧ ¬ (-1 ≤ m ∧ m ≤ 9) ∧ r = .inr 2 ∧ M' = M) ∨ (inSt n i i ∧ (-1 ≤ m ∧ m ≤ 9) ∧ ¬ nbOk n C S A i.toNat ∧ r = .inr 5 ∧ Fr (139 :: solN) M M' ∧ NC M' n C S A) ∨ (inSt n i i ∧ (-1 ≤ m ∧ m ≤ 9) ∧ nbOk n C S A i.toNat ∧ Fr nbC M M' ∧ NC M' n C S A ∧ AZ M' ∧ CF M' (nmQ (ldQ n C S A i.toNat) m) ∧ r = .inl (nmQ (ldQ n C S A i.toNat) m).num.sign)) := by
  intro Q hQ
  have h4 := hO.1
  refine e_Q_numbers (b_Q_numbers_0 ?_)
  refine (s_needNodes (d := d + 6) hN.1 h4.2 hi hi).cal fun r1 M1 hM1 => ?_
  rcases hM1 with ⟨h1, rfl, rfl⟩ | ⟨h1, rfl, rfl⟩
  · exact hQ _ _ (Or.inl ⟨h1, rfl, rfl⟩)
  refine ⟨hm, fun _ => hQ _ _ (Or.inr (Or.inl ⟨h1, by omega, rfl, rfl⟩)), fun m1 => ⟨fun m2 => ?_, fun _ => hQ _ _ (Or.inr (Or.inl ⟨h1, by omega, rfl, rfl⟩))⟩⟩
  have hm' : -1 ≤ m ∧ m ≤ 9 := by omega
  have hq := h1
  unfold inSt at hq
  obtain ⟨I, rfl⟩ : ∃ I : Nat, i = I := ⟨i.toNat, by omega⟩
  rw [Int.toNat_natCast] at hQ
  refine (s_needRates (d := d + 3) hN hO).cal fun r1 M2 hM2 => ?_
  obtain ⟨f2, ⟨h2, rfl⟩ | ⟨h2, rfl⟩⟩ := hM2
  · exact hQ _ _ (Or.inr (Or.inr (Or.inl ⟨h1, hm', fun h => h2 h.1, rfl, f2.mono (by simp), hN.lead f2⟩)))
  refine (s_Nsolve0 (d := d + 3) (hN.lead f2) hO h2).cal fun v3 M3 hM3 => ?_
  obtain ⟨f3, N3, s3⟩ := hM3
  have z3 := (hz.l139 f2).solN f3
  have F := (f2.mono (l' := 139 :: solN) (by simp)).tr (f3.mono (by simp))
  refine (s_isBelowService (d := d + 6) N3 hO s3 (show I < n by omega)).cal fun v4 M4 hM4 => ?_
  obtain ⟨rfl, ⟨rfl, g⟩ | ⟨rfl, g⟩⟩ := hM4
  · refine ⟨⟨by decide, by decide⟩, fun _ => ⟨fun z => ?_, fun z => ?_⟩, fun z => absurd (by decide) z⟩
    · obtain ⟨K, rfl⟩ : ∃ K : Nat, m = K := ⟨m.toNat, by omega⟩
      refine (s_chanceOf (d := d) (m := K) N3 hO s3 z3 (show I < n by omega) g (by omega)).cal fun v5 M5 hM5 => ?_
      obtain ⟨f5, z5, g5, k5⟩ := hM5
      exact hQ _ _ (Or.inr (Or.inr (Or.inr ⟨h1, hm', ⟨h2, g⟩, (F.mono (by simp)).tr (f5.mono (by simp)), N3.num f5, z5, g5, by rw [k5]⟩)))
    · have hm1 : m = -1 := Classical.not_not.mp z
      subst hm1
      refine (s_meanNumber (d := d + 3) N3 hO s3 z3 (show I < n by omega) g).cal fun v5 M5 hM5 => ?_
      obtain ⟨f5, z5, g5, k5⟩ := hM5
      exact hQ _ _ (Or.inr (Or.inr (Or.inr ⟨h1, hm', ⟨h2, g⟩, (F.mono (by simp)).tr (f5.mono (by simp)), N3.num f5, z5, g5, by rw [k5]⟩)))
  · exact ⟨⟨by decide, by decide⟩, fun z => absurd rfl z, fun _ => hQ _ _ (Or.inr (Or.inr (Or.inl ⟨h1, hm', fun h => g h.2, rfl, F, N3⟩)))⟩
/-! The reference. -/