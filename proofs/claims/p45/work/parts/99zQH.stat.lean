/-! isChain: the shares stay. -/
theorem isSet.same {n : Nat} {A : Nat → Nat → Int} {i k s : Nat} (h : isSet n (cEE n A) i s) (hg : inGrp n (cEE n A) i) (hb : s.testBit k = true) : isSet n (cEE n A) k s := by
  obtain ⟨k1, k2⟩ := (h.2 k).mp hb
  have back := hg k k1 k2
  exact ⟨h.1, fun x => (h.2 x).trans ⟨fun z => ⟨z.1, back.tr z.2⟩, fun z => ⟨z.1, k2.tr z.2⟩⟩⟩
theorem SHq.at' {n k s : Nat} {b : Int} {A : Nat → Nat → Int} {w : Rat} (h : SHq n b A k w) (hg : inGrp n (cEE n A) k) (hs : isSet n (cEE n A) k s) : w = ((gNum b A s n k : Int) : Rat) / ((sumT (gNum b A s n) n : Int) : Rat) := by
  rcases h with ⟨z, -⟩ | ⟨-, s', h1, -, h2⟩
  · exact absurd hg z
  · rw [hs.uniq h1]; exact h2
theorem SHq.bq {n i : Nat} {b : Int} {A : Nat → Nat → Int} {w : Rat} (hO : cOk n b A) (hla : lawful n b A) (hn : n ≤ 4) (hb4 : b ≤ 4) (hi : i < n) (h : SHq n b A i w) : Bq w 1728 6912 := by
  rcases h with ⟨h1, rfl⟩ | ⟨h1, s, h2, hG, h3⟩
  · exact ⟨by decide, by decide⟩
  · obtain ⟨g1, g2, g3, g4, g5⟩ := grp_nums hO hla hn hb4 hG
    have hN2 := g2 i hi
    have hD := (sumT_r (f := gNum b A s n) (B := 1728) n g2).2
    rw [h3]
    exact (Bq_div (by omega)).mono (by omega) (by omega)
def stNq (n : Nat) (b : Int) (A : Nat → Nat → Int) (w : Nat → Rat) (i : Nat) (N : Nat → Int) (D : Int) : Prop := (0 < D ∧ D ≤ 6912) ∧ (∀ k, k < n → 0 ≤ N k ∧ N k ≤ 1728) ∧ (∀ k, k < n → 0 < (w k).num → w k * ((A k i : Int) : Rat) = ((N k * A k i : Int) : Rat) / ((D : Int) : Rat)) ∧ (∀ k, k < n → ¬ 0 < (w k).num → N k * A k i = 0) ∧ (inGrp n (cEE n A) i → w i = ((N i : Int) : Rat) / ((D : Int) : Rat) ∧ sumT (fun k => N k * A k i) n = b * N i ∧ sumT N n = D ∧ ∀ k, k < n → (Rch (cEE n A) i k → w k = ((N k : Int) : Rat) / ((D : Int) : Rat)) ∧ (¬ Rch (cEE n A) i k → N k = 0))
theorem st_nums {n : Nat} {b : Int} {A : Nat → Nat → Int} {w : Nat → Rat} (hO : cOk n b A) (hla : lawful n b A) (hn : n ≤ 4) (hb4 : b ≤ 4) (hw : ∀ k, k < n → SHq n b A k (w k)) {i : Nat} (hi : i < n) : ∃ N D, stNq n b A w i N D := by
  have h7 := hO.1
  have hA := fun k (hk : k < n) => hO.2.2.1 k i (by omega) (by omega)
  have hE : ∀ k, k < n → ¬ A k i = 0 → Rch (cEE n A) k i := fun k hk hz => (Rch.refl k).step ⟨by omega, hk, hi, by have := hA k hk; omega⟩
  have hg : ∀ k, k < n → 0 < (w k).num → inGrp n (cEE n A) k := fun k hk z => ((hw k hk).sgn hO hla hn hb4 hk).2.1.mp z
  have hg2 : ∀ k, k < n → ¬ 0 < (w k).num → ¬ inGrp n (cEE n A) k := fun k hk z q => z (((hw k hk).sgn hO hla hn hb4 hk).2.1.mpr q)
  by_cases hi9 : inGrp n (cEE n A) i
  · rcases hw i hi with ⟨z, -⟩ | ⟨-, s, h1, hG, h2⟩
    · exact absurd hi9 z
    obtain ⟨g1, g2, g3, g4, g5⟩ := grp_nums hO hla hn hb4 hG
    have hD := (sumT_r (f := gNum b A s n) (B := 1728) n g2).2
    have hoff : ∀ k, s.testBit k = false → gNum b A s n k = 0 := fun k hk => by
      unfold gNum
      rw [hk, if_neg (by decide)]
    have hbit : s.testBit i = true := (h1.2 i).mpr ⟨hi, Rch.refl i⟩
    have hbt : ∀ k, s.testBit k = true ∨ s.testBit k = false := fun k => by cases s.testBit k <;> simp
    refine ⟨gNum b A s n, sumT (gNum b A s n) n, ⟨g3, by omega⟩, g2, fun k hk hp => ?_, fun k hk hp => ?_, fun _ => ⟨h2, g5 i hi hbit, rfl, fun k hk => ⟨fun z => ?_, fun z => ?_⟩⟩⟩
    · rcases hbt k with hb | hb
      · rw [(hw k hk).at' (hg k hk hp) (h1.same hi9 hb), Rat.intCast_mul]
        generalize ((gNum b A s n k : Int) : Rat) = x
        generalize ((A k i : Int) : Rat) = y
        generalize ((sumT (gNum b A s n) n : Int) : Rat) = z
        grind
      · have hz : A k i = 0 := by
          rcases Classical.em (A k i = 0) with z | z
          · exact z
          · have hki := hE k hk z
            have := (h1.2 k).mpr ⟨hk, hg k hk hp i hi hki⟩
            rw [hb] at this
            cases this
        rw [hz, Int.mul_zero]
        have : ((0 : Int) : Rat) = 0 := rfl
        rw [this]
        generalize ((sumT (gNum b A s n) n : Int) : Rat) = z
        grind
    · rcases hbt k with hb | hb
      · have := hi9.go ((h1.2 k).mp hb).2 hi
        exact absurd this (hg2 k hk hp)
      · rw [hoff k hb, Int.zero_mul]
    · have hb := (h1.2 k).mpr ⟨hk, z⟩
      exact (hw k hk).at' (hi9.go z hi) (h1.same hi9 hb)
    · rcases hbt k with hb | hb
      · exact absurd ((h1.2 k).mp hb).2 z
      · exact hoff k hb
  · refine ⟨fun _ => 0, 1, ⟨by decide, by decide⟩, fun _ _ => ⟨by show (0 : Int) ≤ 0; decide, by show (0 : Int) ≤ 1728; decide⟩, fun k hk hp => ?_, fun k hk hp => Int.zero_mul _, fun z => absurd z hi9⟩
    have hz : A k i = 0 := by
      rcases Classical.em (A k i = 0) with z | z
      · exact z
      · exact absurd ((hg k hk hp).go (hE k hk z) hk) hi9
    rw [hz]
    have : ((0 : Int) : Rat) = 0 := rfl
    rw [Int.zero_mul, this]
    have : ((1 : Int) : Rat) = 1 := rfl
    rw [this]
    generalize w k = x
    grind
section STA
variable {d : Nat} {Q : LQ} {C0 : LMem} {r r4 r5 r7 n : Nat} {b : Int} {A : Nat → Nat → Int} {P PB : Nat → Nat} {T B : Nat → Nat → Int} {R : Nat → Nat} {w : Nat → Rat} {M : Mem} {o6 : Option PV}
theorem FL.set {C : LMem} {q : Nat} {x : Rat} {f : Nat → Int} (h0 : f 0 = x.num) (h1 : f 1 = (x.den : Int)) : FL (cst C q (2, 2, f)) q x := ⟨f, cst_self, h0, h1⟩
theorem sumT_s {f : Nat → Int} {k : Nat} : sumT f (k + 1) = sumT f k + f k := rfl
set_option maxHeartbeats 4000000 in
theorem ch_368 (hn : 1 ≤ n ∧ n ≤ 4) (hb4 : 1 ≤ b ∧ b ≤ 4) (hO : cOk n b A) (hla : lawful n b A) (hTA : ∀ y x, y < n → x < n → A y x = T y x) (hBr : ∀ y x, y < n → x < n → tv (Rch (cEE n A) y x) (B y x)) (hw : ∀ k, k < n → SHq n b A k (w k)) {i : Nat} (hi : i < n) {N : Nat → Int} {D : Int} (hst : stNq n b A w i N D)
    {kc0 : Nat} (hkc0 : kc0 ≤ 1000)
    (hN : ∀ (C : LMem) (kc' : Nat) (o9 o10 o11 : Option PV), kc' ≤ kc0 + 17 → CVq C0 r r4 r5 r7 n P T PB B n R w C → L_W_isChain_341 (d + 130) Q M C kc' r (n : Int) b r4 r5 o6 r7 ((i : Int) + 1) o9 o10 o11) :
    ∀ (u k : Nat) (C : LMem) (kc p1 p2 : Nat) (yv : Rat), k + u = n → kc + 4 * u ≤ kc0 + 16 → CVq C0 r r4 r5 r7 n P T PB B n R w C → FL C p1 (((sumT (fun y => N y * A y i) k : Int) : Rat) / ((D * b : Int) : Rat)) → FL C p2 yv → (inGrp n (cEE n A) i → yv = ((sumT N k : Int) : Rat) / ((D : Int) : Rat)) → L_W_isChain_368 (d + 130) Q M C kc r (n : Int) b r4 r5 o6 r7 (i : Int) (p1 + 1) (p2 + 1) (k : Int) := by
  obtain ⟨⟨D0, D1⟩, s2, s3, s4, s5⟩ := hst
  have h7 := hO.1
  have hA := fun k (hk : k < n) => hO.2.2.1 k i (by omega) (by omega)
  have zz : ∀ x : Nat, x ∉ ([] : List Nat) := fun x hx => by cases hx
  have hDb : 0 < D * b ∧ D * b ≤ 27648 := by
    have := prod_a (x := D) (k := 6912) (y := b) (l := 4) ⟨by omega, by omega⟩ ⟨by omega, by omega⟩ (by decide)
    exact ⟨Int.mul_pos D0 (by omega), by omega⟩
  have hNA : ∀ k, k < n → 0 ≤ N k * A k i ∧ N k * A k i ≤ 6912 := fun k hk => by
    have h1 := s2 k hk
    have h2 := hA k hk
    have := prod_a (x := N k) (k := 1728) (y := A k i) (l := 4) ⟨by omega, by omega⟩ ⟨by omega, by omega⟩ (by decide)
    exact ⟨Int.mul_nonneg h1.1 h2.1, by omega⟩
  have hXr : ∀ k, k ≤ n → 0 ≤ sumT (fun y => N y * A y i) k ∧ sumT (fun y => N y * A y i) k ≤ 27648 := fun k hk => by
    have := sumT_r (f := fun y => N y * A y i) (B := 6912) k (fun y hy => hNA y (by omega))
    omega
  have hYr : ∀ k, k ≤ n → 0 ≤ sumT N k ∧ sumT N k ≤ 6912 := fun k hk => by
    have := sumT_r (f := N) (B := 1728) k (fun y hy => s2 y (by omega))
    omega
  have wi := (hw i hi).sgn hO hla hn.2 hb4.2 hi
  intro u
  induction u with
  | zero =>
    intro k C kc p1 p2 yv hk hkc hV hx hy hyv
    obtain rfl : k = n := by omega
    obtain ⟨f, f1, f2⟩ := hV.2.2
    obtain ⟨e1, e2⟩ := f2 i hi
    obtain ⟨gw, k1, k2, k3⟩ := id e2
    refine b_W_isChain_368 ⟨⟨by omega, by omega⟩, ⟨by omega, by omega⟩, fun _ => ?_, fun z => absurd (Int.le_refl _) z⟩
    simp only [f1, e1, Int.toNat_natCast, cellAt, k1, k2]
    refine ⟨⟨by decide, by decide⟩, ⟨by omega, by omega⟩, trivial, ⟨by decide, by decide⟩, ⟨by omega, by omega⟩, fun z => hN C _ _ _ _ (by omega) hV, fun z => ⟨by omega, ?_⟩⟩
    have hg := wi.2.1.mp (by omega)
    obtain ⟨w1, w2, w3, w4⟩ := s5 hg
    have hX : ((sumT (fun y => N y * A y i) k : Int) : Rat) / ((D * b : Int) : Rat) = w i := by
      rw [w2, w1, Rat.intCast_mul, Rat.intCast_mul]
      have a1 : (D : Rat) ≠ 0 := fun z => by have := Rat.intCast_eq_zero_iff.mp z; omega
      have a2 : (b : Rat) ≠ 0 := fun z => by have := Rat.intCast_eq_zero_iff.mp z; omega
      generalize (D : Rat) = x at *
      generalize (b : Rat) = y at *
      generalize ((N i : Int) : Rat) = z
      grind
    rw [hX] at hx
    refine s_isLike (d := d + 129) hx e2 wi.1 wi.1 _ ?_
    rintro v2 M2 C2 ⟨rfl, rfl, ⟨rfl, -⟩ | ⟨-, z9⟩⟩
    · refine ⟨⟨by decide, by decide⟩, fun z => absurd z (by decide), fun _ => ⟨by omega, fun q3 hq3 => ?_⟩⟩
      have hb : cst C2 q3 (2, 2, fun _ => 0) q3 = (2, 2, fun _ => 0) := cst_self
      simp only [cst_self, cup_of hb, cup_cst]
      refine ⟨trivial, ⟨by decide, by decide⟩, trivial, ⟨by decide, by decide⟩, by omega, ?_⟩
      have hl2 : LF [] C2 (cst C2 q3 (2, 2, fun _ => 0)) := LF.rf.new hq3
      have hl3 : LF [] C2 (cst (cst C2 q3 (2, 2, fun _ => 0)) q3 (2, 2, sr (sr (fun _ => 0) 0 1) 1 1)) := hl2.set hq3
      have hy9 := hy.kept hl3 (zz _)
      rw [hyv hg, w3] at hy9
      have eD : ((D : Int) : Rat) / ((D : Int) : Rat) = 1 := by
        have a1 : (D : Rat) ≠ 0 := fun z => by have := Rat.intCast_eq_zero_iff.mp z; omega
        generalize (D : Rat) = x at *
        grind
      rw [eD] at hy9
      refine s_isLike (d := d + 129) (y := 1) hy9 (FL.set rfl rfl) ⟨by unfold A63; decide, by decide⟩ ⟨by unfold A63; decide, by decide⟩ _ ?_
      rintro v4 M4 C4 ⟨rfl, rfl, ⟨rfl, -⟩ | ⟨-, z9⟩⟩
      · exact ⟨⟨by decide, by decide⟩, fun _ => hN _ _ _ _ _ (by omega) (hV.off hl3), fun z => absurd (by decide) z⟩
      · exact absurd rfl z9
    · exact absurd rfl z9
  | succ u ih =>
    intro k C kc p1 p2 yv hk hkc hV hx hy hyv
    have hk9 : k < n := by omega
    obtain ⟨⟨-, ⟨⟨f4, q1, q2⟩, q3, -⟩, -, ⟨⟨f5, c1, c2⟩, c3, -⟩, -⟩, -, f, f1, f2⟩ := id hV
    obtain ⟨e1, e2⟩ := f2 k hk9
    obtain ⟨gw, k1, k2, k3⟩ := id e2
    obtain ⟨ge, m1, m2⟩ := q3 k hk9
    obtain ⟨ok, wsg, wnn, wle⟩ := (hw k hk9).sgn hO hla hn.2 hb4.2 hk9
    -- the second sum, and on
    have l395 : ∀ (C : LMem) (K p : Nat), K ≤ kc + 3 → CVq C0 r r4 r5 r7 n P T PB B n R w C → FL C p (((sumT (fun y => N y * A y i) (k + 1) : Int) : Rat) / ((D * b : Int) : Rat)) → FL C p2 yv → L_W_isChain_395 (d + 130) Q M C K r (n : Int) b r4 r5 o6 r7 (i : Int) (p + 1) (p2 + 1) (k : Int) := by
      intro C K p hK hV hx hy
      obtain ⟨⟨-, -, -, ⟨⟨f5, c1, c2⟩, c3, -⟩, -⟩, -, f, f1, f2⟩ := id hV
      obtain ⟨e1, e2⟩ := f2 i hi
      obtain ⟨e3, e4⟩ := f2 k hk9
      obtain ⟨gw, k1, k2, k3⟩ := id e2
      obtain ⟨gB, b1, b2⟩ := c3 i hi
      have vB := hBr i k hi hk9
      have bB := vB.bit
      refine b_W_isChain_395 ?_
      simp only [f1, e1, e3, Int.toNat_natCast, cellAt, k1, k2, c1, c2 i hi, b1, b2 k hk9]
      refine ⟨⟨by decide, by decide⟩, ⟨by omega, by omega⟩, trivial, ⟨by decide, by decide⟩, ⟨by omega, by omega⟩, fun z => ?_, fun z => ⟨⟨by decide, by decide⟩, ⟨by omega, by omega⟩, trivial, ⟨by omega, by omega⟩, ⟨by omega, by omega⟩, fun z2 => ?_, fun z2 => ⟨⟨by omega, by omega⟩, by omega, ?_⟩⟩⟩
      · have hg : ¬ inGrp n (cEE n A) i := fun w => by have := wi.2.1.mpr w; omega
        exact ih (k + 1) C K p p2 yv (by omega) (by omega) hV hx hy (fun w => absurd w hg)
      · have hg := wi.2.1.mp (by omega)
        obtain ⟨w1, w2, w3, w4⟩ := s5 hg
        have h0 := (w4 k hk9).2 (fun w => vB.yes.mpr w z2)
        refine ih (k + 1) C K p p2 yv (by omega) (by omega) hV hx hy (fun w => ?_)
        rw [sumT_s, h0, Int.add_zero]
        exact hyv w
      · have hg := wi.2.1.mp (by omega)
        obtain ⟨w1, w2, w3, w4⟩ := s5 hg
        have h0 := (w4 k hk9).1 (vB.yes.mp z2)
        rw [hyv hg] at hy
        have hY := hYr k (by omega)
        have BY : Bq (((sumT N k : Int) : Rat) / ((D : Int) : Rat)) 6912 6912 := (Bq_div (by omega)).mono (by omega) (by omega)
        refine s_sum (d := d + 1) hy e4 (BY.okS ((hw k hk9).bq hO hla hn.2 hb4.2 hk9) (by decide) (by decide)) _ ?_
        rintro v3 M3 C3 ⟨rfl, p3, rfl, n3, f3, l3⟩
        rw [Int.toNat_natCast]
        refine ih (k + 1) C3 _ p p3 _ (by omega) (by omega) (hV.off f3) (hx.kept f3 (zz _)) l3 (fun _ => ?_)
        rw [h0, sumT_s, Rat.intCast_add]
        have : ((sumT N k : Int) : Rat) / ((D : Int) : Rat) + ((N k : Int) : Rat) / ((D : Int) : Rat) = (((sumT N k : Int) : Rat) + ((N k : Int) : Rat)) / ((D : Int) : Rat) := by
          generalize ((D : Int) : Rat) = x
          grind
        exact this
    refine b_W_isChain_368 ⟨⟨by omega, by omega⟩, ⟨by omega, by omega⟩, fun z => absurd z (by omega), fun _ => ?_⟩
    simp only [f1, e1, Int.toNat_natCast, cellAt, k1, k2, q1, q2 k hk9, m1, m2 i hi, ← hTA k i hk9 hi]
    have hAk := hA k hk9
    refine ⟨⟨by decide, by decide⟩, ⟨by omega, by omega⟩, trivial, ⟨by decide, by decide⟩, ⟨by omega, by omega⟩, fun z => ?_, fun z => ⟨⟨by decide, by decide⟩, ⟨by omega, by omega⟩, trivial, ⟨by omega, by omega⟩, ⟨by omega, by omega⟩, ⟨by omega, by omega⟩, by omega, ?_⟩⟩
    · have h0 := s4 k hk9 (by omega)
      refine l395 C kc p1 (by omega) hV ?_ hy
      rw [sumT_s, h0, Int.add_zero]
      exact hx
    · refine s_of (d := d + 2) (by unfold A63; omega) (by unfold A63; omega) (by omega) _ ?_
      rintro v3 M3 C3 ⟨rfl, p3, rfl, n3, f3, l3⟩
      have BA : Bq (((A k i : Int) : Rat) / ((b : Int) : Rat)) 4 4 := (Bq_div (by omega)).mono (by omega) (by omega)
      have BW := (hw k hk9).bq hO hla hn.2 hb4.2 hk9
      refine ⟨by omega, ?_⟩
      rw [Int.toNat_natCast]
      refine s_times (d := d + 1) (e2.kept f3 (zz _)) l3 (BW.okT BA (by decide) (by decide)) _ ?_
      rintro v4 M4 C4 ⟨rfl, p4, rfl, n4, f4', l4⟩
      have hX := hXr k (by omega)
      have BX : Bq (((sumT (fun y => N y * A y i) k : Int) : Rat) / ((D * b : Int) : Rat)) 27648 27648 := (Bq_div (by omega)).mono (by omega) (by omega)
      refine ⟨by omega, ?_⟩
      rw [Int.toNat_natCast]
      refine s_sum (d := d + 1) ((hx.kept f3 (zz _)).kept f4' (zz _)) l4 (BX.okS (BW.mul BA) (by decide) (by decide)) _ ?_
      rintro v5 M5 C5 ⟨rfl, p5, rfl, n5, f5', l5⟩
      rw [Int.toNat_natCast]
      have hl := (f3.tr f4').tr f5'
      refine l395 C5 (kc + 1 + 1 + 1) p5 (by omega) (hV.off hl) ?_ (hy.kept hl (zz _))
      have ew := s3 k hk9 (by omega)
      have e9 : ((sumT (fun y => N y * A y i) k : Int) : Rat) / ((D * b : Int) : Rat) + w k * (((A k i : Int) : Rat) / ((b : Int) : Rat)) = ((sumT (fun y => N y * A y i) (k + 1) : Int) : Rat) / ((D * b : Int) : Rat) := by
        have e8 : w k * (((A k i : Int) : Rat) / ((b : Int) : Rat)) = (w k * ((A k i : Int) : Rat)) / ((b : Int) : Rat) := by
          generalize ((A k i : Int) : Rat) = x
          generalize ((b : Int) : Rat) = y
          generalize w k = z
          grind
        rw [e8, ew, sumT_s, Rat.intCast_add, Rat.intCast_mul D b]
        have a1 : (D : Rat) ≠ 0 := fun z => by have := Rat.intCast_eq_zero_iff.mp z; omega
        have a2 : (b : Rat) ≠ 0 := fun z => by have := Rat.intCast_eq_zero_iff.mp z; omega
        generalize (D : Rat) = x at *
        generalize (b : Rat) = y at *
        generalize ((sumT (fun y => N y * A y i) k : Int) : Rat) = u
        generalize ((N k * A k i : Int) : Rat) = v
        grind
      rw [e9] at l5
      exact l5
end STA
