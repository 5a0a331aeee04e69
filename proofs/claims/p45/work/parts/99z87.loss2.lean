/-! Loss: the class. -/
abbrev oL : PV := .inr (.inr (.inl 131))
theorem bI40 : IsBig 40 := ⟨by decide, by decide⟩
theorem bI42 : IsBig 42 := ⟨by decide, by decide⟩
theorem bI44 : IsBig 44 := ⟨by decide, by decide⟩
theorem bI46 : IsBig 46 := ⟨by decide, by decide⟩
theorem s_setBigsQ {d : Nat} {M : Mem} {r1 r2 v w : Nat} (hr1 : IsBig r1) (hr2 : IsBig r2) (h10 : 10 ≤ r1) (h20 : 10 ≤ r2) (hv : Big M r1 (v : Int)) (hw : Big M r2 (w : Int)) (hz : ∀ r, r = 0 ∨ r = 2 ∨ r = 4 ∨ r = 6 ∨ r = 8 → RZ M r) (hfv : (v : Int) < BB ^ 18) (hfw : (w : Int) < BB ^ 18) (hw1 : 0 < w) :
    Post (d + 6) cF_setBigs [oB 90, oB r1, oB r2] M (fun b M' => Fr [0, 1, 2, 3, 4, 5, 6, 7, 8, 9] M M' ∧ CF M' (mkRat (v : Int) w) ∧ (∀ r, r = 4 ∨ r = 6 ∨ r = 8 → RZ M' r) ∧ b = (mkRat (v : Int) w).num.sign) := by
  intro Q hQ
  obtain ⟨e1, e2, e3, e4⟩ := mkRat_parts (x := v) hw1
  refine s_setBigs (d := d) hr1 hr2 h10 h20 hv hw (hz _ (by simp)) (hz _ (by simp)) (hz _ (by simp)) (hz _ (by simp)) (hz _ (by simp)) hfv hfw hw1 Q fun b M' ⟨f, g1, g2, g3, g4⟩ => hQ b M' ⟨f, ⟨by rw [e1]; exact g1, by rw [e2]; exact g2⟩, g3, ?_⟩
  rw [g4, e3]
/-- the loss so far -/
def LoS (M : Mem) (x y k : Nat) : Prop := Big M 40 (eL x k : Nat) ∧ Big M 42 (eA x y k : Nat) ∧ M 131 4 = x ∧ M 131 5 = y
theorem p150 {k : Nat} (h : k ≤ 31) : ((100000 ^ k : Nat) : Int) ≤ ((100000 ^ 31 : Nat) : Int) := Int.ofNat_le.mpr (Nat.pow_le_pow_right (by decide) h)
theorem p150b : ((100000 ^ 31 : Nat) : Int) * 1000 < BB ^ 18 ∧ ((100000 ^ 31 : Nat) : Int) * 1000000000000 < BB ^ 20 ∧ BB ^ 18 < BB ^ 20 := by decide +kernel
theorem eA_b {x y k : Nat} (hx : x ≤ 999) (hy : 0 < y ∧ y ≤ 999) (hk : k ≤ 31) : ((eA x y k : Nat) : Int) ≤ ((100000 ^ 31 : Nat) : Int) ∧ ((eL x k : Nat) : Int) ≤ ((100000 ^ 31 : Nat) : Int) := by
  have h1 := Int.ofNat_le.mpr (eA_le hx hy k hk)
  have h2 := Int.ofNat_le.mpr (eL_le (x := x) hy.1 k)
  have h3 := p150 hk
  exact ⟨Int.le_trans h1 h3, Int.le_trans (Int.le_trans h2 h1) h3⟩
theorem s_Lstart {d : Nat} {M : Mem} {x y : Nat} (hx : x ≤ 999) (hy : 0 < y ∧ y ≤ 999) (z40 : RZ M 40) (z42 : RZ M 42) : Post (d + 3) cL_start [oL, .inl (x : Int), .inl (y : Int)] M (fun _ M' => Fr [40, 41, 42, 43, 131] M M' ∧ LoS M' (x / Nat.gcd x y) (y / Nat.gcd x y) 0) := by
  intro Q hQ
  have hg : 0 < Nat.gcd x y := Nat.gcd_pos_of_pos_right _ hy.1
  have hg1 : Nat.gcd x y ≤ y := Nat.gcd_le_right _ hy.1
  refine e_L_start (b_L_start_0 ⟨⟨by omega, by omega⟩, ⟨by omega, by omega⟩, ?_⟩)
  refine (s_gcd (d := d + 1) (by omega) (by omega)).cal fun v M1 hM1 => ?_
  obtain ⟨rfl, rfl⟩ := hM1
  rw [show max ((Nat.gcd x y : Nat) : Int) 1 = ((Nat.gcd x y : Nat) : Int) by omega]
  refine ⟨⟨by omega, by omega⟩, ⟨by omega, by omega⟩, ⟨by omega, by omega⟩, ⟨by omega, by omega⟩, ?_⟩
  rw [show (x : Int) / ((Nat.gcd x y : Nat) : Int) = ((x / Nat.gcd x y : Nat) : Int) from rfl, show (y : Int) / ((Nat.gcd x y : Nat) : Int) = ((y / Nat.gcd x y : Nat) : Int) from rfl]
  have f0 : Fr [40, 41, 42, 43, 131] M1 (upd2 (upd2 M1 131 4 ((x / Nat.gcd x y : Nat) : Int)) 131 5 ((y / Nat.gcd x y : Nat) : Int)) := (Fr.rfl'.u2 (by simp)).u2 (by simp)
  have s4 : (upd2 (upd2 M1 131 4 ((x / Nat.gcd x y : Nat) : Int)) 131 5 ((y / Nat.gcd x y : Nat) : Int)) 131 4 = ((x / Nat.gcd x y : Nat) : Int) := by rw [u2_ne (by decide), u2_same]
  have s5 : (upd2 (upd2 M1 131 4 ((x / Nat.gcd x y : Nat) : Int)) 131 5 ((y / Nat.gcd x y : Nat) : Int)) 131 5 = ((y / Nat.gcd x y : Nat) : Int) := u2_same
  have zz : ∀ r, (r = 40 ∨ r = 42) → RZ (upd2 (upd2 M1 131 4 ((x / Nat.gcd x y : Nat) : Int)) 131 5 ((y / Nat.gcd x y : Nat) : Int)) r := by
    intro r hr i hi
    rw [u2_off (by omega), u2_off (by omega)]
    rcases hr with rfl | rfl
    · exact z40 i hi
    · exact z42 i hi
  generalize upd2 (upd2 M1 131 4 ((x / Nat.gcd x y : Nat) : Int)) 131 5 ((y / Nat.gcd x y : Nat) : Int) = M2 at *
  refine (s_setLong (d := d) (r0 := 40) (j := 1) bI40 (zz 40 (Or.inl rfl)) (by decide) (by decide)).cal fun v2 M3 hM3 => ?_
  obtain ⟨f2, g2⟩ := hM3
  refine (s_setLong (d := d) (r0 := 42) (j := 1) bI42 ((zz 42 (Or.inr rfl)).kept f2 (by decide)) (by decide) (by decide)).cal fun v3 M4 hM4 => ?_
  obtain ⟨f3, g3⟩ := hM4
  refine hQ _ _ ⟨(f0.tr (f2.mono (by simp))).tr (f3.mono (by simp)), f3.big g2 (by decide) (by decide), g3, ?_, ?_⟩
  · rw [f3 131 (by decide), f2 131 (by decide)]; exact s4
  · rw [f3 131 (by decide), f2 131 (by decide)]; exact s5
theorem s_LaddServer {d : Nat} {M : Mem} {x y k : Nat} (hx : x ≤ 999) (hy : 0 < y ∧ y ≤ 999) (hk : k < 30) (h : LoS M x y k) : Post (d + 3) cL_addServer [oL, .inl ((k : Int) + 1)] M (fun _ M' => Fr [40, 41, 42, 43] M M' ∧ LoS M' x y (k + 1)) := by
  intro Q hQ
  obtain ⟨h1, h2, h4, h5⟩ := h
  obtain ⟨b1, b2⟩ := eA_b hx hy (show k ≤ 31 by omega)
  obtain ⟨b3, b4⟩ := eA_b hx hy (show k + 1 ≤ 31 by omega)
  obtain ⟨p1, p2, p3⟩ := p150b
  have eL1 : ((eL x k : Nat) : Int) * (x : Int) = ((eL x (k + 1) : Nat) : Int) := (Int.natCast_mul _ _).symm
  have eA1 : ((eA x y k : Nat) : Int) * (((k : Int) + 1) * y) + ((eL x (k + 1) : Nat) : Int) * 1 = ((eA x y (k + 1) : Nat) : Int) := by
    show _ = ((eA x y k * ((k + 1) * y) + eL x (k + 1) : Nat) : Int)
    push_cast
    grind
  have hL0 : (0 : Int) ≤ ((eL x (k + 1) : Nat) : Int) := Int.natCast_nonneg _
  have hky : ((k : Int) + 1) * y = (((k + 1) * y : Nat) : Int) := by push_cast; rfl
  have hky2 : (k + 1) * y ≤ 30 * 999 := Nat.mul_le_mul (by omega) hy.2
  refine e_L_addServer (b_L_addServer_0 ?_)
  rw [h4]
  refine (s_multiply (d := d) bI40 h1 (by omega) (by omega) (by rw [eL1]; omega)).cal fun v1 M1 hM1 => ?_
  obtain ⟨f1, g1⟩ := hM1
  refine ⟨⟨by omega, by omega⟩, ?_⟩
  rw [show M1 131 5 = y by rw [f1 131 (by decide)]; exact h5]
  refine (s_multiply (d := d) bI42 (f1.big h2 (by decide) (by decide)) (by rw [hky]; omega) (by rw [hky]; omega) (by omega)).cal fun v2 M2 hM2 => ?_
  obtain ⟨f2, g2⟩ := hM2
  rw [eL1] at g1
  refine (s_addScaled (d := d) (j := 1) bI42 bI40 (by decide) g2 (f2.big g1 (by decide) (by decide)) (by decide) (by rw [eA1]; omega)).cal fun v3 M3 hM3 => ?_
  obtain ⟨f3, g3⟩ := hM3
  rw [eA1] at g3
  refine hQ _ _ ⟨((f1.mono (by simp)).tr (f2.mono (by simp))).tr (f3.mono (by simp)), f3.big (f2.big g1 (by decide) (by decide)) (by decide) (by decide), g3, ?_, ?_⟩
  · rw [f3 131 (by decide), f2 131 (by decide), f1 131 (by decide)]; exact h4
  · rw [f3 131 (by decide), f2 131 (by decide), f1 131 (by decide)]; exact h5
theorem s_LisAtMost {d : Nat} {M : Mem} {x y k a b : Nat} (hx : x ≤ 999) (hy : 0 < y ∧ y ≤ 999) (hk : k ≤ 30) (h : LoS M x y k) (ha : a ≤ 999) (hb : b ≤ 999) (z44 : RZ M 44) (z46 : RZ M 46) : Post (d + 3) cL_isAtMost [oL, .inl (a : Int), .inl (b : Int)] M (fun v M' => Fr [44, 45, 46, 47] M M' ∧ LoS M' x y k ∧ RZ M' 44 ∧ RZ M' 46 ∧ ((v = 1 ∧ ((eL x k : Nat) : Int) * b ≤ ((eA x y k : Nat) : Int) * a) ∨ (v = 0 ∧ ¬ ((eL x k : Nat) : Int) * b ≤ ((eA x y k : Nat) : Int) * a))) := by
  intro Q hQ
  obtain ⟨h1, h2, h4, h5⟩ := h
  obtain ⟨b1, b2⟩ := eA_b hx hy (show k ≤ 31 by omega)
  obtain ⟨p1, p2, p3⟩ := p150b
  have hA : ((eA x y k : Nat) : Int) * a ≤ ((100000 ^ 31 : Nat) : Int) * 999 := Int.mul_le_mul b1 (by omega) (by omega) (Int.natCast_nonneg _)
  have hL : ((eL x k : Nat) : Int) * b ≤ ((100000 ^ 31 : Nat) : Int) * 999 := Int.mul_le_mul b2 (by omega) (by omega) (Int.natCast_nonneg _)
  refine e_L_isAtMost (b_L_isAtMost_0 ?_)
  refine (s_copy (d := d + 1) bI44 bI40 (by decide) z44 h1).cal fun v1 M1 hM1 => ?_
  obtain ⟨f1, g1⟩ := hM1
  refine ⟨⟨by omega, by omega⟩, ?_⟩
  refine (s_multiply (d := d) bI44 g1 (by omega) (by omega) (by omega)).cal fun v2 M2 hM2 => ?_
  obtain ⟨f2, g2⟩ := hM2
  refine (s_copy (d := d + 1) bI46 bI42 (by decide) ((z46.kept f1 (by decide)).kept f2 (by decide)) (f2.big (f1.big h2 (by decide) (by decide)) (by decide) (by decide))).cal fun v3 M3 hM3 => ?_
  obtain ⟨f3, g3⟩ := hM3
  refine ⟨⟨by omega, by omega⟩, ?_⟩
  refine (s_multiply (d := d) bI46 g3 (by omega) (by omega) (by omega)).cal fun v4 M4 hM4 => ?_
  obtain ⟨f4, g4⟩ := hM4
  have g2' := f4.big (f3.big g2 (by decide) (by decide)) (by decide) (by decide)
  refine (s_compareWith (d := d + 1) bI44 bI46 g2' g4).cal fun v5 M5 hM5 => ?_
  obtain ⟨rfl, rfl⟩ := hM5
  have F : Fr [44, 45, 46, 47] M M5 := (((f1.mono (by simp)).tr (f2.mono (by simp))).tr (f3.mono (by simp))).tr (f4.mono (by simp))
  have hLS : LoS M5 x y k := ⟨F.big h1 (by decide) (by decide), F.big h2 (by decide) (by decide), by rw [F 131 (by decide)]; exact h4, by rw [F 131 (by decide)]; exact h5⟩
  have yes := fun z => hQ 1 M5 ⟨F, hLS, g2'.rz, g4.rz, Or.inl ⟨rfl, z⟩⟩
  have no := fun z => hQ 0 M5 ⟨F, hLS, g2'.rz, g4.rz, Or.inr ⟨rfl, z⟩⟩
  by_cases c1 : ((eL x k : Nat) : Int) * b < ((eA x y k : Nat) : Int) * a
  · rw [if_pos c1]
    exact ⟨⟨by decide, by decide⟩, fun z => absurd z (by decide), fun _ => yes (by omega)⟩
  · rw [if_neg c1]
    by_cases c2 : ((eL x k : Nat) : Int) * b = ((eA x y k : Nat) : Int) * a
    · rw [if_pos c2]
      exact ⟨⟨by decide, by decide⟩, fun z => absurd z (by decide), fun _ => yes (by omega)⟩
    · rw [if_neg c2]
      exact ⟨⟨by decide, by decide⟩, fun _ => no (by omega), fun z => absurd (by decide) z⟩
