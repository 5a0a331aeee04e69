/-! Fraction. -/
theorem bI0 : IsBig 0 := ⟨by decide, by decide⟩
theorem bI2 : IsBig 2 := ⟨by decide, by decide⟩
theorem bI4 : IsBig 4 := ⟨by decide, by decide⟩
theorem bI6 : IsBig 6 := ⟨by decide, by decide⟩
theorem bI8 : IsBig 8 := ⟨by decide, by decide⟩
theorem s_sign {d : Nat} {M : Mem} {v : Int} (hv : Big M 0 v) : Post (d + 1) cF_sign [oB 90] M (fun b M' => M' = M ∧ b = if v = 0 then 0 else 1) := by
  intro Q hQ
  have hs := hv.size
  refine e_F_sign (b_F_sign_0 ⟨⟨by omega, by omega⟩, fun h => hQ 1 M ⟨rfl, ?_⟩, fun h => hQ 0 M ⟨rfl, ?_⟩⟩)
  · rw [if_neg fun e => h (hv.zero_iff.mpr e)]
  · rw [if_pos (hv.zero_iff.mp (Classical.not_not.mp h))]
theorem s_setLongs {d : Nat} {M : Mem} {x y : Nat} (hx : x < 9223372036854775808) (hy : y < 9223372036854775808) (hy0 : 0 < y) (z0 : RZ M 0) (z2 : RZ M 2) :
    Post (d + 3) cF_setLongs [oB 90, .inr (.inl (x : Int)), .inr (.inl (y : Int))] M (fun b M' => Fr [0, 1, 2, 3] M M' ∧ Big M' 0 ((x / Nat.gcd x y : Nat) : Int) ∧ Big M' 2 ((y / Nat.gcd x y : Nat) : Int) ∧ b = if x = 0 then 0 else 1) := by
  intro Q hQ
  have hg : 0 < Nat.gcd x y := Nat.gcd_pos_of_pos_right _ hy0
  have hg1 : Nat.gcd x y ≤ y := Nat.gcd_le_right _ hy0
  have hx1 : x / Nat.gcd x y ≤ x := Nat.div_le_self _ _
  have hy1 : y / Nat.gcd x y ≤ y := Nat.div_le_self _ _
  have hx0 : (0 : Int) ≤ ((x / Nat.gcd x y : Nat) : Int) := Int.natCast_nonneg _
  have hy0' : (0 : Int) ≤ ((y / Nat.gcd x y : Nat) : Int) := Int.natCast_nonneg _
  refine e_F_setLongs (b_F_setLongs_0 ?_)
  refine (s_gcd (d := d + 1) hx hy).cal fun v M1 hM1 => ?_
  obtain ⟨rfl, rfl⟩ := hM1
  rw [show max ((Nat.gcd x y : Nat) : Int) 1 = ((Nat.gcd x y : Nat) : Int) by omega]
  refine ⟨⟨by omega, by omega⟩, ⟨by omega, by omega⟩, ⟨by omega, by omega⟩, ?_⟩
  rw [show (x : Int) / ((Nat.gcd x y : Nat) : Int) = ((x / Nat.gcd x y : Nat) : Int) from rfl, show (y : Int) / ((Nat.gcd x y : Nat) : Int) = ((y / Nat.gcd x y : Nat) : Int) from rfl]
  refine (s_setLong (d := d) (r0 := 0) bI0 z0 (by omega) (by omega)).cal fun v2 M2 hM2 => ?_
  obtain ⟨f2, g2⟩ := hM2
  refine ⟨⟨by omega, by omega⟩, ?_⟩
  refine (s_setLong (d := d) (r0 := 2) bI2 (z2.kept f2 (by decide)) (by omega) (by omega)).cal fun v3 M3 hM3 => ?_
  obtain ⟨f3, g3⟩ := hM3
  have k2 : Big M3 0 ((x / Nat.gcd x y : Nat) : Int) := f3.big g2 (by decide) (by decide)
  refine (s_sign (d := d + 1) k2).cal fun v4 M4 hM4 => ?_
  obtain ⟨rfl, rfl⟩ := hM4
  refine hQ _ M4 ⟨(f2.mono (by simp)).tr (f3.mono (by simp)), k2, g3, ?_⟩
  by_cases e : x = 0
  · rw [if_pos e, if_pos (by rw [e]; simp)]
  · rw [if_neg e, if_neg]
    intro q
    have hd : Nat.gcd x y ∣ x := Nat.gcd_dvd_left _ _
    have := Nat.div_mul_cancel hd
    have q' : x / Nat.gcd x y = 0 := by omega
    rw [q'] at this
    omega
theorem s_shorten {d : Nat} {M : Mem} {r1 r2 : Nat} {v w : Int} (hr1 : IsBig r1) (hr2 : IsBig r2) (h12 : r1 ≠ r2) (h1 : r1 ≠ 8) (h2 : r2 ≠ 8) (hv : Big M r1 v) (hw : Big M r2 w) (hz : RZ M 8) (hfit : v < BB ^ 18) :
    Post (d + 5) cF_shorten [oB 90, oB r1, oB r2] M (fun _ M' => Fr [r1, r1 + 1, r2, r2 + 1, 8, 9] M M' ∧ Big M' r1 (v / w) ∧ Big M' r2 w ∧ RZ M' 8) := by
  intro Q hQ
  have e1 : r1 % 2 = 0 := hr1.2
  have e2 : r2 % 2 = 0 := hr2.2
  refine e_F_shorten hr1 hr2 (b_F_shorten_0 hr1 hr2 ?_)
  refine (s_divide (d := d) (r2 := 8) hr1 hr2 bI8 h12 h1 h2 hv hw hz hfit).cal fun v1 M1 hM1 => ?_
  obtain ⟨f1, a1, a2, a3⟩ := hM1
  refine (s_copy (d := d + 3) (r1 := 8) hr1 bI8 h1 a1.rz a3).cal fun v2 M2 hM2 => ?_
  obtain ⟨f2, b1⟩ := hM2
  have b3 : Big M2 8 (v / w) := f2.big a3 (by simp; omega) (by simp; omega)
  exact hQ 0 M2 ⟨(f1.mono (by simp)).tr (f2.mono (by simp)), b1, f2.big a2 (by simp; omega) (by simp; omega), b3.rz⟩
theorem sb_end {d : Nat} {Q : Rs → Mem → Prop} {M0 M : Mem} {r1 r2 r3 : Nat} {v w g : Nat} {o4 o5 o6 : Option PV} (hr1 : IsBig r1) (hr2 : IsBig r2) (h10 : 10 ≤ r1) (h20 : 10 ≤ r2) (hr3 : r3 = 4 ∨ r3 = 6) (hv : Big M r1 (v : Int)) (hw : Big M r2 (w : Int)) (hg : Big M r3 (g : Int))
    (z0 : RZ M 0) (z2 : RZ M 2) (z8 : RZ M 8) (hfv : (v : Int) < BB ^ 18) (hfw : (w : Int) < BB ^ 18) (hfr : Fr [0, 1, 2, 3, 4, 5, 6, 7, 8, 9] M0 M)
    (hgv : g ∣ v) (hg0 : 0 < g)
    (hQ : ∀ M', Fr [0, 1, 2, 3, 4, 5, 6, 7, 8, 9] M0 M' → Big M' 0 ((v / g : Nat) : Int) → Big M' 2 ((w / g : Nat) : Int) → (∀ r, r = 4 ∨ r = 6 ∨ r = 8 → RZ M' r) → Q (.inl (if v = 0 then 0 else 1)) M')
    (z46 : ∀ r, r = 4 ∨ r = 6 → RZ M r) : L_F_setBigs_35 (d + 5) Q M r1 r2 r3 o4 o5 o6 := by
  have hr3' : IsBig r3 := by rcases hr3 with rfl | rfl <;> exact ⟨by decide, by decide⟩
  have e1 : r1 % 2 = 0 := hr1.2
  have e2 : r2 % 2 = 0 := hr2.2
  refine b_F_setBigs_35 hr1 hr2 hr3' ?_
  refine (s_copy (d := d + 4) (r0 := 0) bI0 hr1 (by omega) z0 hv).cal fun v1 M1 hM1 => ?_
  obtain ⟨f1, a1⟩ := hM1
  have w1 : Big M1 r2 (w : Int) := f1.big hw (by simp; omega) (by simp; omega)
  have g1 : Big M1 r3 (g : Int) := f1.big hg (by simp; omega) (by simp; omega)
  refine (s_copy (d := d + 4) (r0 := 2) bI2 hr2 (by omega) (z2.kept f1 (by decide)) w1).cal fun v2 M2 hM2 => ?_
  obtain ⟨f2, a2⟩ := hM2
  have b1 : Big M2 0 (v : Int) := f2.big a1 (by decide) (by decide)
  have g2 : Big M2 r3 (g : Int) := f2.big g1 (by simp; omega) (by simp; omega)
  have z82 : RZ M2 8 := (z8.kept f1 (by decide)).kept f2 (by decide)
  refine (s_isOne (d := d + 4) hr3' g2).cal fun v3 M3 hM3 => ?_
  obtain ⟨rfl, rfl⟩ := hM3
  have F2 : Fr [0, 1, 2, 3, 4, 5, 6, 7, 8, 9] M0 M3 := (hfr.tr (f1.mono (by simp))).tr (f2.mono (by simp))
  by_cases e : (g : Int) = 1
  · rw [if_pos e]
    have eg : g = 1 := by omega
    refine ⟨⟨by decide, by decide⟩, fun _ => ?_, fun h => absurd (by decide) h⟩
    refine (s_sign (d := d + 4) b1).cal fun v4 M4 hM4 => ?_
    obtain ⟨rfl, rfl⟩ := hM4
    have := hQ M4 F2 (by rw [eg, Nat.div_one]; exact b1) (by rw [eg, Nat.div_one]; exact a2) (fun r hr => by
      by_cases h8 : r = 8
      · rw [h8]; exact z82
      · exact ((z46 r (by omega)).kept f1 (by simp; omega)).kept f2 (by simp; omega))
    by_cases q : v = 0
    · rw [if_pos q] at this
      rw [if_pos (by omega)]
      exact this
    · rw [if_neg q] at this
      rw [if_neg (by omega)]
      exact this
  · rw [if_neg e]
    refine ⟨⟨by decide, by decide⟩, fun h => absurd rfl h, fun _ => ?_⟩
    refine (s_shorten (d := d) (r1 := 0) bI0 hr3' (by omega) (by decide) (by omega) b1 g2 z82 hfv).cal fun v4 M4 hM4 => ?_
    obtain ⟨f4, c1, c2, c3⟩ := hM4
    have a4 : Big M4 2 (w : Int) := f4.big a2 (by simp; omega) (by simp; omega)
    refine (s_shorten (d := d) (r1 := 2) bI2 hr3' (by omega) (by decide) (by omega) a4 c2 c3 hfw).cal fun v5 M5 hM5 => ?_
    obtain ⟨f5, d1, d2, d3⟩ := hM5
    have c5 : Big M5 0 ((v : Int) / (g : Int)) := f5.big c1 (by simp; omega) (by simp; omega)
    refine (s_sign (d := d + 4) c5).cal fun v6 M6 hM6 => ?_
    obtain ⟨rfl, rfl⟩ := hM6
    have hin : ∀ l : List Nat, (∀ a ∈ l, a = 0 ∨ a = 1 ∨ a = 2 ∨ a = 3 ∨ a = r3 ∨ a = r3 + 1 ∨ a = 8 ∨ a = 9) → ∀ a, a ∈ l → a ∈ [0, 1, 2, 3, 4, 5, 6, 7, 8, 9] := by
      intro l hl a ha
      have := hl a ha
      simp
      omega
    have := hQ M6 ((F2.tr (f4.mono (hin _ (by simp)))).tr (f5.mono (hin _ (by simp)))) c5 d1 (fun r hr => by
      by_cases h8 : r = 8
      · rw [h8]; exact d3
      · by_cases h3 : r = r3
        · rw [h3]; exact d2.rz
        · exact ((((z46 r (by omega)).kept f1 (by simp; omega)).kept f2 (by simp; omega)).kept f4 (by simp; omega)).kept f5 (by simp; omega))
    have hz : ((v : Int) / (g : Int) = 0) ↔ v = 0 := by
      rw [show (v : Int) / (g : Int) = ((v / g : Nat) : Int) from rfl]
      have h1 := Nat.div_mul_cancel hgv
      constructor
      · intro q
        have q' : v / g = 0 := by omega
        rw [q'] at h1
        omega
      · intro q
        rw [q]
        simp
    by_cases q : v = 0
    · rw [if_pos q] at this
      rw [if_pos (hz.mpr q)]
      exact this
    · rw [if_neg q] at this
      rw [if_neg fun z => q (hz.mp z)]
      exact this
theorem sb_loop {d : Nat} {Q : Rs → Mem → Prop} {M0 : Mem} {r1 r2 : Nat} {v w : Nat} (hr1 : IsBig r1) (hr2 : IsBig r2) (h10 : 10 ≤ r1) (h20 : 10 ≤ r2) (hv0 : Big M0 r1 (v : Int)) (hw0 : Big M0 r2 (w : Int))
    (z0' : RZ M0 0) (z2' : RZ M0 2) (hfv : (v : Int) < BB ^ 18) (hfw : (w : Int) < BB ^ 18) (hw1 : 0 < w)
    (hQ : ∀ M', Fr [0, 1, 2, 3, 4, 5, 6, 7, 8, 9] M0 M' → Big M' 0 ((v / Nat.gcd v w : Nat) : Int) → Big M' 2 ((w / Nat.gcd v w : Nat) : Int) → (∀ r, r = 4 ∨ r = 6 ∨ r = 8 → RZ M' r) → Q (.inl (if v = 0 then 0 else 1)) M') :
    ∀ (h : Nat) (M : Mem) (r3 r4 x y i : Nat) (o6 : Option PV), (r3 = 4 ∧ r4 = 6 ∨ r3 = 6 ∧ r4 = 4) → Fr [4, 5, 6, 7, 8, 9] M0 M → Big M r3 (x : Int) → Big M r4 (y : Int) → RZ M 8 → Nat.gcd x y = Nat.gcd v w → y < 2 ^ h → (x : Int) < BB ^ 18 → (y : Int) < BB ^ 18 → i + 2 * h ≤ 9998 →
    L_F_setBigs_16 (d + 5) Q M r1 r2 r3 r4 (i : Int) o6 := by
  have e1 : r1 % 2 = 0 := hr1.2
  have e2 : r2 % 2 = 0 := hr2.2
  have hg0 : 0 < Nat.gcd v w := Nat.gcd_pos_of_pos_right _ hw1
  have fin : ∀ (M : Mem) (r3 r4 x i : Nat) (o4 o5 o6 : Option PV), (r3 = 4 ∨ r3 = 6) → Fr [4, 5, 6, 7, 8, 9] M0 M → Big M r3 (x : Int) → RZ M 8 → x = Nat.gcd v w → (∀ r, r = 4 ∨ r = 6 → RZ M r) → L_F_setBigs_35 (d + 5) Q M r1 r2 r3 o4 o5 o6 := by
    intro M r3 r4 x i o4 o5 o6 hr3 hfr hx hz8 hg z46
    subst hg
    exact sb_end hr1 hr2 h10 h20 hr3 (hfr.big hv0 (by simp; omega) (by simp; omega)) (hfr.big hw0 (by simp; omega) (by simp; omega)) hx (z0'.kept hfr (by decide)) (z2'.kept hfr (by decide)) hz8 hfv hfw (hfr.mono (by simp)) (Nat.gcd_dvd_left _ _) hg0 hQ z46
  have two : ∀ {M : Mem} {r3 r4 : Nat}, (r3 = 4 ∧ r4 = 6 ∨ r3 = 6 ∧ r4 = 4) → RZ M r3 → RZ M r4 → ∀ r, r = 4 ∨ r = 6 → RZ M r := by
    intro M r3 r4 h h3 h4 r hr
    rcases h with ⟨rfl, rfl⟩ | ⟨rfl, rfl⟩ <;> rcases hr with rfl | rfl <;> assumption
  intro h
  induction h with
  | zero =>
    intro M r3 r4 x y i o6 h34 hfr hx hy hz8 hg hyh hxf hyf hi
    have hr3' : IsBig r3 := by rcases h34 with ⟨rfl, rfl⟩ | ⟨rfl, rfl⟩ <;> exact ⟨by decide, by decide⟩
    have hr4' : IsBig r4 := by rcases h34 with ⟨rfl, rfl⟩ | ⟨rfl, rfl⟩ <;> exact ⟨by decide, by decide⟩
    have ey : y = 0 := by omega
    have sz := hy.size
    have s0 : M r4 1 = 0 := hy.zero_iff.mpr (by omega)
    refine b_F_setBigs_16 hr1 hr2 hr3' hr4' ⟨⟨by omega, by omega⟩, fun q => absurd q (by omega), fun _ => ⟨⟨by omega, by omega⟩, fun _ => ?_, fun q => absurd (by omega) q⟩⟩
    rw [ey, Nat.gcd_zero_right] at hg
    exact fin M r3 r4 x i _ _ _ (by omega) hfr hx hz8 hg (two h34 hx.rz hy.rz)
  | succ h ih =>
    intro M r3 r4 x y i o6 h34 hfr hx hy hz8 hg hyh hxf hyf hi
    have hr3' : IsBig r3 := by rcases h34 with ⟨rfl, rfl⟩ | ⟨rfl, rfl⟩ <;> exact ⟨by decide, by decide⟩
    have hr4' : IsBig r4 := by rcases h34 with ⟨rfl, rfl⟩ | ⟨rfl, rfl⟩ <;> exact ⟨by decide, by decide⟩
    have hin : ∀ a, a ∈ [r3, r3 + 1, r4, r4 + 1, 8, 8 + 1] → a ∈ [4, 5, 6, 7, 8, 9] := by
      intro a ha
      simp at ha ⊢
      omega
    have hin2 : ∀ a, a ∈ [r4, r4 + 1, r3, r3 + 1, 8, 8 + 1] → a ∈ [4, 5, 6, 7, 8, 9] := by
      intro a ha
      simp at ha ⊢
      omega
    have sz := hy.size
    refine b_F_setBigs_16 hr1 hr2 hr3' hr4' ⟨⟨by omega, by omega⟩, fun q => absurd q (by omega), fun _ => ⟨⟨by omega, by omega⟩, fun q => ?_, fun q => ?_⟩⟩
    · have e := hy.zero_iff.mp (by omega)
      have ey : y = 0 := by omega
      rw [ey, Nat.gcd_zero_right] at hg
      exact fin M r3 r4 x i _ _ _ (by omega) hfr hx hz8 hg (two h34 hx.rz hy.rz)
    · have hy0 : 0 < y := by
        rcases Nat.eq_zero_or_pos y with e | e
        · exact absurd (by have := hy.zero_iff.mpr (by omega); omega) q
        · exact e
      have hm := Nat.mod_lt x hy0
      have hg1 : Nat.gcd x y = Nat.gcd y (x % y) := by rw [Nat.gcd_comm x y, Nat.gcd_rec y x, Nat.gcd_comm]
      refine (s_divide (d := d + 1) (r2 := 8) hr3' hr4' bI8 (by omega) (by omega) (by omega) hx hy hz8 hxf).cal fun v1 M1 hM1 => ?_
      obtain ⟨f1, a1, a2, a3⟩ := hM1
      rw [show (x : Int) % (y : Int) = ((x % y : Nat) : Int) from rfl] at a1
      have F1 := hfr.tr (f1.mono hin)
      have sz1 := a1.size
      rw [show (i : Int) + 1 = ((i + 1 : Nat) : Int) by omega]
      refine b_F_setBigs_16 hr1 hr2 hr4' hr3' ⟨⟨by omega, by omega⟩, fun q => absurd q (by omega), fun _ => ⟨⟨by omega, by omega⟩, fun q => ?_, fun q => ?_⟩⟩
      · have e := a1.zero_iff.mp (by omega)
        have ey : x % y = 0 := by omega
        rw [hg1, ey, Nat.gcd_zero_right] at hg
        exact fin M1 r4 r3 y i _ _ _ (by omega) F1 a2 a3.rz hg (two h34 a1.rz a2.rz)
      · have hmp : 0 < x % y := by
          rcases Nat.eq_zero_or_pos (x % y) with e | e
          · exact absurd (by have := a1.zero_iff.mpr (by omega); omega) q
          · exact e
        have hh := mod_half hmp hm
        have hm2 := Nat.mod_lt y hmp
        have hg2 : Nat.gcd y (x % y) = Nat.gcd (x % y) (y % (x % y)) := by rw [Nat.gcd_comm y (x % y), Nat.gcd_rec (x % y) y, Nat.gcd_comm]
        refine (s_divide (d := d + 1) (r2 := 8) hr4' hr3' bI8 (by omega) (by omega) (by omega) a2 a1 a3.rz hyf).cal fun v2 M2 hM2 => ?_
        obtain ⟨f2, b1, b2, b3⟩ := hM2
        rw [show (y : Int) % ((x % y : Nat) : Int) = ((y % (x % y) : Nat) : Int) from rfl] at b1
        rw [show ((i + 1 : Nat) : Int) + 1 = ((i + 2 : Nat) : Int) by omega]
        exact ih M2 r3 r4 (x % y) (y % (x % y)) (i + 2) _ h34 (F1.tr (f2.mono hin2)) b2 b1 b3.rz (by rw [← hg2, ← hg1]; exact hg) (by rw [Nat.pow_succ] at hyh; omega) (by omega) (by omega) (by omega)
/-- setBigs: both by the greatest common part -/
theorem s_setBigs {d : Nat} {M : Mem} {r1 r2 v w : Nat} (hr1 : IsBig r1) (hr2 : IsBig r2) (h10 : 10 ≤ r1) (h20 : 10 ≤ r2) (hv : Big M r1 (v : Int)) (hw : Big M r2 (w : Int)) (z0 : RZ M 0) (z2 : RZ M 2) (z4 : RZ M 4) (z6 : RZ M 6) (z8 : RZ M 8) (hfv : (v : Int) < BB ^ 18) (hfw : (w : Int) < BB ^ 18) (hw1 : 0 < w) :
    Post (d + 6) cF_setBigs [oB 90, oB r1, oB r2] M (fun b M' => Fr [0, 1, 2, 3, 4, 5, 6, 7, 8, 9] M M' ∧ Big M' 0 ((v / Nat.gcd v w : Nat) : Int) ∧ Big M' 2 ((w / Nat.gcd v w : Nat) : Int) ∧ (∀ r, r = 4 ∨ r = 6 ∨ r = 8 → RZ M' r) ∧ b = if v = 0 then 0 else 1) := by
  intro Q hQ
  have e1 : r1 % 2 = 0 := hr1.2
  have e2 : r2 % 2 = 0 := hr2.2
  refine e_F_setBigs hr1 hr2 (b_F_setBigs_0 hr1 hr2 ?_)
  refine (s_copy (d := d + 4) (r0 := 4) bI4 hr1 (by omega) z4 hv).cal fun v1 M1 hM1 => ?_
  obtain ⟨f1, a1⟩ := hM1
  have w1 : Big M1 r2 (w : Int) := f1.big hw (by simp; omega) (by simp; omega)
  refine (s_copy (d := d + 4) (r0 := 6) bI6 hr2 (by omega) (z6.kept f1 (by decide)) w1).cal fun v2 M2 hM2 => ?_
  obtain ⟨f2, a2⟩ := hM2
  have F : Fr [4, 5, 6, 7, 8, 9] M M2 := (f1.mono (by simp)).tr (f2.mono (by simp))
  refine sb_loop (M0 := M) hr1 hr2 h10 h20 hv hw z0 z2 hfv hfw hw1 (fun M' g1 g2 g3 g4 => hQ _ M' ⟨g1, g2, g3, g4, rfl⟩) 540 M2 4 6 v w 0 _ (Or.inl ⟨rfl, rfl⟩) F (f2.big a1 (by decide) (by decide)) a2 ((z8.kept f1 (by decide)).kept f2 (by decide)) rfl ?_ hfv hfw (by decide)
  have h1 : (BB : Int) ^ 18 ≤ ((2 ^ 540 : Nat) : Int) := by decide +kernel
  have h2 : (w : Int) < ((2 ^ 540 : Nat) : Int) := Int.lt_of_lt_of_le hfw h1
  exact Int.ofNat_lt.mp h2
