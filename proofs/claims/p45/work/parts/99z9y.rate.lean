/-! Nets: rate, isStable. -/
theorem nsQ_mk {n : Nat} {C S : Nat → Int} {A : Nat → Nat → Int} (hO : nOk n C S A) (hR : ratesOk n A) (f : Nat → Bool) {i : Nat} (hi : i < n) : ∃ X Y : Nat, 0 < Y ∧ Y ≤ 25600000000 ∧ X ≤ 128000000000000 ∧ nsQ n C S A f i = mkRat (X : Int) Y := by
  have h4 := hO.1
  obtain ⟨Dp, Np⟩ := net_pos hO hR f
  have w0 : ∀ a c, a < n → c < n → Wh (ntQ n C S A f a c) 100 := fun a c ha hc => ⟨_, rfl, ntN_r hO ha hc⟩
  obtain ⟨z, z1, _⟩ := wed_whole (a := 100) (by decide) n w0 (full n)
  have w1 : ∀ a c, a < n → c < n → Wh (colR (ntQ n C S A f) (fc i n) a c) (if c = i then 5000 * 100 else 100) := fun a c ha hc => by
    show Wh (ntQ n C S A f a (if c = i then n else c)) _
    by_cases e : c = i
    · rw [if_pos e, if_pos e]
      have := ntN_n (f := f) hO ha
      exact ⟨_, rfl, by omega, by omega⟩
    · rw [if_neg e, if_neg e]; exact w0 a c ha hc
  obtain ⟨x, x1, _⟩ := wed_col (i := i) (a := 100) (g := 5000) (by decide) (by decide) n w1 (full n)
  have bz := net_det0 h4.2 w0 z1.symm
  have bx := net_det1 h4.2 w1 x1.symm
  have hz : (0 : Rat) < ((z : Int) : Rat) := by rw [← z1]; exact Dp n (Nat.le_refl n)
  have hx : (0 : Rat) ≤ ((x : Int) : Rat) := by rw [← x1]; exact Np i hi
  have hz' : 0 < z := Rat.intCast_lt_intCast.mp hz
  have hx' : 0 ≤ x := Rat.intCast_nonneg.mp hx
  obtain ⟨X, rfl⟩ : ∃ X : Nat, x = X := ⟨x.toNat, by omega⟩
  obtain ⟨Y, rfl⟩ : ∃ Y : Nat, z = Y := ⟨z.toNat, by omega⟩
  refine ⟨X, Y, by omega, by omega, by omega, ?_⟩
  rw [mkRat_ratio, ← x1, ← z1]
  rfl
theorem mk_lt {X Y : Nat} {s : Int} (hY : 0 < Y) : mkRat (X : Int) Y < ((s : Int) : Rat) ↔ (X : Int) < s * (Y : Int) := by
  rw [mkRat_ratio, Rat.div_lt_iff (cast_pos (by omega)), ← Rat.intCast_mul, Rat.intCast_lt_intCast]
theorem mk_le {X Y : Nat} {s : Int} (hY : 0 < Y) : mkRat (X : Int) Y ≤ ((s : Int) : Rat) ↔ (X : Int) ≤ s * (Y : Int) := by
  rw [← Rat.not_lt, mkRat_ratio, Rat.lt_div_iff (cast_pos (by omega)), ← Rat.intCast_mul, Rat.intCast_lt_intCast]
  omega
theorem s_isBelowService {d : Nat} {M : Mem} {n i : Nat} {C S : Nat → Int} {A : Nat → Nat → Int} {f : Nat → Bool} (hN : NC M n C S A) (hO : nOk n C S A) (hs : NSol M n C S A f) (hi : i < n) : Post (d + 1) cN_isBelowService [oN, .inl (i : Int)] M (fun v M' => M' = M ∧ ((v = 1 ∧ nsQ n C S A f i < ((S i : Int) : Rat)) ∨ (v = 0 ∧ ¬ nsQ n C S A f i < ((S i : Int) : Rat)))) := by
  intro Q hQ
  have h4 := hO.1
  obtain ⟨X, Y, y1, y2, y3, hx⟩ := hs
  obtain ⟨x1, x2, x3⟩ := hx i hi
  have hS := hO.2.2.2.2 i (by omega)
  have p0 : 0 ≤ S i * (Y : Int) := Int.mul_nonneg (by omega) (by omega)
  have p1 : S i * (Y : Int) ≤ 1000 * 25600000000 := Int.mul_le_mul (by omega) (by omega) (by omega) (by decide)
  refine e_N_isBelowService (b_N_isBelowService_0 ?_)
  rw [Int.toNat_natCast, hN.2.2.1 i (by omega), x1, y1]
  refine ⟨⟨by omega, by omega⟩, ⟨by omega, by omega⟩, ⟨by omega, by omega⟩, ⟨by omega, by omega⟩, fun z => hQ _ _ ⟨rfl, Or.inr ⟨rfl, ?_⟩⟩, fun z => hQ _ _ ⟨rfl, Or.inl ⟨rfl, ?_⟩⟩⟩
  · rw [← x3, mk_lt y2]; omega
  · rw [← x3, mk_lt y2]; omega
abbrev rateC : List Nat := [0, 1, 2, 3, 139, 140, 142, 83, 84, 85, 86, 87, 88, 89]
theorem bt_0 : bt 0 = fun _ => false := funext fun i => Nat.zero_testBit i
theorem AZ.solN {M M' : Mem} (h : AZ M) (hf : Fr solN M M') : AZ M' := h.fr hf fun r hr hm => by
  obtain ⟨r1, r2⟩ := hr
  simp at hm
  omega
theorem AZ.l139 {M M' : Mem} (h : AZ M) (hf : Fr [139] M M') : AZ M' := h.fr hf fun r hr hm => by
  obtain ⟨r1, r2⟩ := hr
  simp at hm
  omega
def rtQ (n : Nat) (C S : Nat → Int) (A : Nat → Nat → Int) (i : Nat) : Rat := nsQ n C S A (fun _ => false) i
theorem s_Nsolve0 {d : Nat} {M : Mem} {n : Nat} {C S : Nat → Int} {A : Nat → Nat → Int} (hN : NC M n C S A) (hO : nOk n C S A) (hR : ratesOk n A) : Post (d + 4) cN_solve [oN, .inl 0] M (fun _ M' => Fr solN M M' ∧ NC M' n C S A ∧ NSol M' n C S A (fun _ => false)) := by
  have := s_Nsolve (d := d) (F := 0) hN hO hR (by decide)
  rw [bt_0] at this
  exact this
theorem s_Qrate {d : Nat} {M : Mem} {n : Nat} {C S : Nat → Int} {A : Nat → Nat → Int} {i : Int} (hN : NC M n C S A) (hO : nOk n C S A) (hz : AZ M) (hi : R32 i) : PostE (d + 5) cQ_rate [oQ, .inl i] M (fun r M' => (¬ inSt n i i ∧ r = .inr 4 ∧ M' = M) ∨ (inSt n i i ∧ ¬ ratesOk n A ∧ r = .inr 5 ∧ Fr [139] M M') ∨ (inSt n i i ∧ ratesOk n A ∧ Fr rateC M M' ∧ NC M' n C S A ∧ AZ M' ∧ CF M' (rtQ n C S A i.toNat) ∧ r = .inl (rtQ n C S A i.toNat).num.sign)) := by
  intro Q hQ
  have h4 := hO.1
  refine e_Q_rate (b_Q_rate_0 ?_)
  refine (s_needNodes (d := d + 3) hN.1 h4.2 hi hi).cal fun r1 M1 hM1 => ?_
  rcases hM1 with ⟨h1, rfl, rfl⟩ | ⟨h1, rfl, rfl⟩
  · exact hQ _ _ (Or.inl ⟨h1, rfl, rfl⟩)
  refine (s_needRates (d := d) hN hO).cal fun r1 M2 hM2 => ?_
  obtain ⟨f2, ⟨h2, rfl⟩ | ⟨h2, rfl⟩⟩ := hM2
  · exact hQ _ _ (Or.inr (Or.inl ⟨h1, h2, rfl, f2⟩))
  have hq := h1
  unfold inSt at hq
  obtain ⟨I, rfl⟩ : ∃ I : Nat, i = I := ⟨i.toNat, by omega⟩
  refine (s_Nsolve0 (d := d) (hN.lead f2) hO h2).cal fun v3 M3 hM3 => ?_
  obtain ⟨f3, N3, X, Y, y1, y2, y3, hx⟩ := hM3
  obtain ⟨x1, x2, x3'⟩ := hx I (by omega)
  have x3 : mkRat (X I : Int) Y = rtQ n C S A I := x3'
  rw [Int.toNat_natCast] at hQ
  rw [Int.toNat_natCast, x1, y1]
  refine ⟨⟨by omega, by omega⟩, ?_⟩
  have z3 := (hz.l139 f2).solN f3
  refine (s_setLongsQ (d := d + 1) (x := X I) (y := Y) (by omega) (by omega) y2 (z3 0 (bIr (by decide) rfl)) (z3 2 (bIr (by decide) rfl))).cal fun v4 M4 hM4 => ?_
  obtain ⟨f4, g4, e4⟩ := hM4
  rw [x3] at g4 e4
  refine hQ _ _ (Or.inr (Or.inr ⟨h1, h2, ((f2.mono (by simp)).tr (f3.mono (by simp))).tr (f4.mono (by simp)), N3.kept f4 (by decide) (by decide) (by decide) (fun i hi => by simp; omega), z3.sol (f4.mono (by simp)) g4, g4, by rw [e4]⟩))
theorem s_QisStable {d : Nat} {M : Mem} {n : Nat} {C S : Nat → Int} {A : Nat → Nat → Int} {i : Int} (hN : NC M n C S A) (hO : nOk n C S A) (hi : R32 i) : PostE (d + 5) cQ_isStable [oQ, .inl i] M (fun r M' => (¬ inSt n i i ∧ r = .inr 4 ∧ M' = M) ∨ (inSt n i i ∧ ¬ ratesOk n A ∧ r = .inr 5 ∧ Fr [139] M M') ∨ (inSt n i i ∧ ratesOk n A ∧ Fr (139 :: solN) M M' ∧ NC M' n C S A ∧ ((r = .inl 1 ∧ rtQ n C S A i.toNat < ((S i.toNat : Int) : Rat)) ∨ (r = .inl 0 ∧ ¬ rtQ n C S A i.toNat < ((S i.toNat : Int) : Rat))))) := by
  intro Q hQ
  have h4 := hO.1
  refine e_Q_isStable (b_Q_isStable_0 ?_)
  refine (s_needNodes (d := d + 3) hN.1 h4.2 hi hi).cal fun r1 M1 hM1 => ?_
  rcases hM1 with ⟨h1, rfl, rfl⟩ | ⟨h1, rfl, rfl⟩
  · exact hQ _ _ (Or.inl ⟨h1, rfl, rfl⟩)
  refine (s_needRates (d := d) hN hO).cal fun r1 M2 hM2 => ?_
  obtain ⟨f2, ⟨h2, rfl⟩ | ⟨h2, rfl⟩⟩ := hM2
  · exact hQ _ _ (Or.inr (Or.inl ⟨h1, h2, rfl, f2⟩))
  have hq := h1
  unfold inSt at hq
  obtain ⟨I, rfl⟩ : ∃ I : Nat, i = I := ⟨i.toNat, by omega⟩
  refine (s_Nsolve0 (d := d) (hN.lead f2) hO h2).cal fun v3 M3 hM3 => ?_
  obtain ⟨f3, N3, s3⟩ := hM3
  rw [Int.toNat_natCast] at hQ
  refine (s_isBelowService (d := d + 3) N3 hO s3 (show I < n by omega)).cal fun v4 M4 hM4 => ?_
  have F := (f2.mono (l' := 139 :: solN) (by simp)).tr (f3.mono (by simp))
  obtain ⟨rfl, ⟨rfl, g⟩ | ⟨rfl, g⟩⟩ := hM4
  · exact ⟨Or.inr rfl, hQ _ _ (Or.inr (Or.inr ⟨h1, h2, F, N3, Or.inl ⟨rfl, g⟩⟩))⟩
  · exact ⟨Or.inl rfl, hQ _ _ (Or.inr (Or.inr ⟨h1, h2, F, N3, Or.inr ⟨rfl, g⟩⟩))⟩
/-! The reference. -/
theorem mk_div1 {X Y : Nat} {s : Int} (hY : 0 < Y) (hs : 0 < s) : mkRat (X : Int) Y / ((s : Int) : Rat) = mkRat (X : Int) (Y * s.toNat) := by
  obtain ⟨T, rfl⟩ : ∃ T : Nat, s = T := ⟨s.toNat, by omega⟩
  have hy : (((Y : Nat) : Int) : Rat) ≠ 0 := int_ne (by omega)
  have ht : (((T : Nat) : Int) : Rat) ≠ 0 := int_ne (by omega)
  rw [Int.toNat_natCast, mkRat_ratio, mkRat_ratio, Int.natCast_mul, Rat.intCast_mul]
  generalize (((X : Nat) : Int) : Rat) = x at *
  generalize (((Y : Nat) : Int) : Rat) = y at *
  generalize (((T : Nat) : Int) : Rat) = t at *
  grind
theorem sign_lt {p q : Rat} : (p - q).num.sign < 0 ↔ p < q := by
  have h := sign_sub_le (p := q) (q := p)
  rw [← Rat.not_le, ← h, ← Rat.neg_sub, Rat.neg_num, Int.sign_neg]
  omega
abbrev ldF : List Nat := List.range 69
theorem FR.ld {M M' : Mem} {l : List Nat} (h : FR l M M') (hl : ∀ a, a ∈ l → a < 69) : FR ldF M M' := h.mono fun a ha => by
  have := hl a ha
  simp; omega