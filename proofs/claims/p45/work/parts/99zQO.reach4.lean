/-! isReached: the equations hold. -/
section RC4
variable {d : Nat} {Q : LQ} {C0 : LMem} {r r4 r5 r7 r8 n g : Nat} {b D : Int} {A : Nat → Nat → Int} {P PB : Nat → Nat} {T B : Nat → Nat → Int} {X : Nat → Int} {R R' : Nat → Nat} {x t : Nat → Rat} {M : Mem} {o3 o13 o14 o15 o16 o17 : Option PV}
theorem add_frac {a c : Int} {x y : Rat} {E b : Int} (hE : E ≠ 0) (hb : b ≠ 0) (hx : x = (a : Rat) / ((b * E : Int) : Rat)) {Ak Yk : Int} (hy : y = (Yk : Rat) / (E : Rat)) : x + ((Ak : Rat) / (b : Rat)) * y = ((a + Ak * Yk : Int) : Rat) / ((b * E : Int) : Rat) := by
  have h1 : (E : Rat) ≠ 0 := fun z => hE (Rat.intCast_eq_zero_iff.mp z)
  have h2 : (b : Rat) ≠ 0 := fun z => hb (Rat.intCast_eq_zero_iff.mp z)
  rw [hx, hy, Rat.intCast_add, Rat.intCast_mul, Rat.intCast_mul]
  generalize (E : Rat) = u at *
  generalize (b : Rat) = v at *
  generalize (a : Rat) = w at *
  generalize (Ak : Rat) = k at *
  generalize (Yk : Rat) = z at *
  grind
set_option maxHeartbeats 4000000 in
theorem rc_179 (hn : 1 ≤ n ∧ n ≤ 4) (hb4 : 1 ≤ b ∧ b ≤ 4) (hO : cOk n b A) (hla : lawful n b A) (hTA : ∀ y x, y < n → x < n → A y x = T y x) (hg : g < n) (hX : RX n g b A X D) (hx : ∀ k, k < n → x k = ((X k : Int) : Rat) / ((D : Int) : Rat)) (ht : ∀ k, k < n → sure n A k g → timV n b A k g (t k)) {i : Nat} (hi : i < n) (hig : i ≠ g) {Y : Nat → Int} {E : Int} (hE : 0 < E ∧ E ≤ 1728) (hY : ∀ k, k < n → 0 ≤ Y k ∧ Y k ≤ 1728) (hYt : sure n A i g → (∀ k, k < n → (k = i ∨ 0 < A i k) → t k = ((Y k : Int) : Rat) / ((E : Int) : Rat)) ∧ b * Y i = b * E + sumT (fun k => A i k * Y k) n)
    {kc0 : Nat} (hkc0 : kc0 ≤ 1500)
    (hN : ∀ (C : LMem) (kc : Nat) (o10 o11 o12 : Option PV), kc ≤ kc0 + 24 → CRq C0 r r4 r5 r7 r8 n P T PB B n R x n (fun k => sure n A k g) R' t C → L_W_isReached_148 (d + 130) Q M C kc r r4 o3 (n : Int) b (g : Int) r7 r8 ((i : Int) + 1) o10 o11 o12 o13 o14 o15 o16 o17) :
    ∀ (u k : Nat) (C : LMem) (kc p1 p2 : Nat) (y2 : Rat), k + u = n → kc + 6 * u ≤ kc0 + 24 → CRq C0 r r4 r5 r7 r8 n P T PB B n R x n (fun k => sure n A k g) R' t C → FL C p1 (((sumT (fun k => A i k * X k) k : Int) : Rat) / ((b * D : Int) : Rat)) → FL C p2 y2 → (sure n A i g → y2 = ((b * E + sumT (fun k => A i k * Y k) k : Int) : Rat) / ((b * E : Int) : Rat)) → L_W_isReached_179 (d + 130) Q M C kc r r4 o3 (n : Int) b (g : Int) r7 r8 (i : Int) (p1 + 1) (p2 + 1) (k : Int) o13 o14 o15 o16 o17 := by
  obtain ⟨D0, X1, X2, X3, X4⟩ := id hX
  have h7 := hO.1
  have hA := fun k (hk : k < n) => hO.2.2.1 i k (by omega) (by omega)
  have zz : ∀ x : Nat, x ∉ ([] : List Nat) := fun x hx => by cases hx
  have mulb : ∀ {a : Int}, (0 < a ∧ a ≤ 1728) → 0 < b * a ∧ b * a ≤ 6912 := fun {a} h => by
    have := prod_a (x := b) (k := 4) (y := a) (l := 1728) ⟨by omega, by omega⟩ ⟨by omega, by omega⟩ (by decide)
    exact ⟨Int.mul_pos (by omega) h.1, by omega⟩
  have hbD := mulb D0
  have hbE := mulb hE
  have sr_ : ∀ (Z : Nat → Int), (∀ k, k < n → 0 ≤ Z k ∧ Z k ≤ 1728) → ∀ k, k ≤ n → 0 ≤ sumT (fun k => A i k * Z k) k ∧ sumT (fun k => A i k * Z k) k ≤ 27648 := fun Z hZ k hk => by
    have := sumT_r (f := fun k => A i k * Z k) (B := 6912) k (fun y hy => by
      have h1 := hZ y (by omega)
      have h2 := hA y (by omega)
      have := prod_a (x := A i y) (k := 4) (y := Z y) (l := 1728) ⟨by omega, by omega⟩ ⟨by omega, by omega⟩ (by decide)
      exact ⟨Int.mul_nonneg h2.1 h1.1, by omega⟩)
    omega
  have bX : ∀ k, k < n → Bq (x k) 1728 1728 := fun k hk => by
    rw [hx k hk]
    have := X1 k hk
    exact (Bq_div (by omega)).mono (by omega) (by omega)
  have bt : ∀ k, k < n → sure n A k g → Bq (t k) 1728 1728 := fun k hk hs => tim_ok hO hla hn.2 hb4.2 hg hk hs (ht k hk hs)
  intro u
  induction u with
  | zero =>
    intro k C kc p1 p2 y2 hk hkc hV h1 h2 h3
    obtain rfl : k = n := by omega
    obtain ⟨f7, f1, f2⟩ := hV.2.2.1
    obtain ⟨e1, e2⟩ := f2 i hi
    refine b_W_isReached_179 ⟨⟨by omega, by omega⟩, ⟨by omega, by omega⟩, fun _ => ?_, fun z => absurd (Int.le_refl _) z⟩
    simp only [f1, e1, Int.toNat_natCast]
    refine ⟨⟨by decide, by decide⟩, ⟨by omega, by omega⟩, by omega, ?_⟩
    have ex : ((sumT (fun k => A i k * X k) k : Int) : Rat) / ((b * D : Int) : Rat) = x i := by
      rw [← X3 i hi hig, hx i hi, Rat.intCast_mul, Rat.intCast_mul]
      have h1 : (D : Rat) ≠ 0 := fun z => by have := Rat.intCast_eq_zero_iff.mp z; omega
      have h2 : (b : Rat) ≠ 0 := fun z => by have := Rat.intCast_eq_zero_iff.mp z; omega
      generalize (D : Rat) = u at *
      generalize (b : Rat) = v at *
      generalize ((X i : Int) : Rat) = w at *
      grind
    rw [ex] at h1
    have ok := (bX i hi).ok (by decide) (by decide)
    refine s_isLike (d := d + 129) h1 e2 ok ok _ ?_
    rintro v M2 C2 ⟨rfl, rfl, ⟨rfl, -⟩ | ⟨-, z9⟩⟩
    · obtain ⟨f8, g1, g2⟩ := hV.2.2.2
      obtain ⟨g3, g4⟩ := g2 i hi
      refine ⟨⟨by decide, by decide⟩, fun z => absurd z (by decide), fun _ => ?_⟩
      simp only [g1, Int.toNat_natCast]
      rcases Classical.em (sure k A i g) with hs | hs
      · obtain ⟨g5, g6⟩ := g3 hs
        simp only [g5, Int.toNat_natCast]
        refine ⟨⟨by decide, by decide⟩, ⟨by omega, by omega⟩, fun z => absurd z (Nat.succ_ne_zero _), fun _ => ⟨by omega, ?_⟩⟩
        obtain ⟨w1, w2⟩ := hYt hs
        have ey : y2 = t i := by
          rw [h3 hs, ← w2, w1 i hi (Or.inl rfl), Rat.intCast_mul, Rat.intCast_mul]
          have h1 : (E : Rat) ≠ 0 := fun z => by have := Rat.intCast_eq_zero_iff.mp z; omega
          have h2 : (b : Rat) ≠ 0 := fun z => by have := Rat.intCast_eq_zero_iff.mp z; omega
          generalize (E : Rat) = u at *
          generalize (b : Rat) = v at *
          generalize ((Y i : Int) : Rat) = w at *
          grind
        rw [ey] at h2
        have ok := (bt i hi hs).ok (by decide) (by decide)
        refine s_isLike (d := d + 129) h2 g6 ok ok _ ?_
        rintro v M3 C3 ⟨rfl, rfl, ⟨rfl, -⟩ | ⟨-, z9⟩⟩
        · exact ⟨⟨by decide, by decide⟩, fun _ => hN _ _ _ _ _ (by omega) hV, fun z => absurd (by decide) z⟩
        · exact absurd rfl z9
      · have g5 := g4 hs
        simp only [g5]
        exact ⟨⟨by decide, by decide⟩, ⟨by omega, by omega⟩, fun _ => hN _ _ _ _ _ (by omega) hV, fun z => absurd rfl z⟩
    · exact absurd rfl z9
  | succ u ih =>
    intro k C kc p1 p2 y2 hk hkc hV h1 h2 h3
    have hk9 : k < n := by omega
    obtain ⟨⟨-, ⟨⟨f4, q1, q2⟩, q3, -⟩, -, -, -⟩, -, ⟨f7, f1, f2⟩, -⟩ := id hV
    obtain ⟨ge, m1, m2⟩ := q3 i hi
    obtain ⟨e1, e2⟩ := f2 k hk9
    have hAk := hA k hk9
    have BA : Bq (((A i k : Int) : Rat) / ((b : Int) : Rat)) 4 4 := (Bq_div (by omega)).mono (by omega) (by omega)
    have l214 : ∀ (C : LMem) (K p : Nat), K ≤ kc + 3 → CRq C0 r r4 r5 r7 r8 n P T PB B n R x n (fun k => sure n A k g) R' t C → FL C p (((sumT (fun k => A i k * X k) (k + 1) : Int) : Rat) / ((b * D : Int) : Rat)) → FL C p2 y2 → L_W_isReached_214 (d + 130) Q M C K r r4 o3 (n : Int) b (g : Int) r7 r8 (i : Int) (p + 1) (p2 + 1) (k : Int) o13 o14 o15 o16 o17 := by
      intro C K p hK hV h1 h2
      obtain ⟨⟨-, ⟨⟨f4, q1, q2⟩, q3, -⟩, -, -, -⟩, -, -, f8, g1, g2⟩ := id hV
      obtain ⟨ge, m1, m2⟩ := q3 i hi
      obtain ⟨g3, g4⟩ := g2 i hi
      refine b_W_isReached_214 ?_
      simp only [g1, Int.toNat_natCast]
      rcases Classical.em (sure n A i g) with hs | hs
      · obtain ⟨g5, g6⟩ := g3 hs
        simp only [g5, Int.toNat_natCast, q1, q2 i hi, cellAt, m1, m2 k hk9, ← hTA i k hi hk9]
        refine ⟨⟨by decide, by decide⟩, ⟨by omega, by omega⟩, fun z => absurd z (Nat.succ_ne_zero _), fun _ => ⟨⟨by decide, by decide⟩, ⟨by omega, by omega⟩, trivial, ⟨by omega, by omega⟩, ⟨by omega, by omega⟩, fun z => ?_, fun z => ⟨trivial, ⟨by omega, by omega⟩, ⟨by omega, by omega⟩, ⟨by omega, by omega⟩, by omega, ?_⟩⟩⟩
        · have h0 : A i k = 0 := by omega
          refine ih (k + 1) C K p p2 y2 (by omega) (by omega) hV h1 h2 (fun hs => ?_)
          rw [h3 hs, sumT_s, h0, Int.zero_mul, Int.add_zero]
        · have hsk : sure n A k g := hs.step hi hk9 hig (by omega)
          refine s_of (d := d + 2) (by unfold A63; omega) (by unfold A63; omega) (by omega) _ ?_
          rintro v3 M3 C3 ⟨rfl, p3, rfl, n3, f3, l3⟩
          have hV3 := hV.off f3
          obtain ⟨f9, j1, j2⟩ := hV3.2.2.2
          obtain ⟨j3, j4⟩ := (j2 k hk9).1 hsk
          simp only [j1, j3, Int.toNat_natCast]
          refine ⟨⟨by decide, by decide⟩, ⟨by omega, by omega⟩, by omega, ?_⟩
          refine s_times (d := d + 1) l3 j4 (BA.okT (bt k hk9 hsk) (by decide) (by decide)) _ ?_
          rintro v4 M4 C4 ⟨rfl, p4, rfl, n4, f4', l4⟩
          have hS := sr_ Y hY k (by omega)
          have BY : Bq y2 34560 6912 := by rw [h3 hs]; exact (Bq_div (by omega)).mono (by omega) (by omega)
          refine ⟨by omega, ?_⟩
          rw [Int.toNat_natCast]
          refine s_sum (d := d + 1) ((h2.kept f3 (zz _)).kept f4' (zz _)) l4 (BY.okS (BA.mul (bt k hk9 hsk)) (by decide) (by decide)) _ ?_
          rintro v5 M5 C5 ⟨rfl, p5, rfl, n5, f5', l5⟩
          rw [Int.toNat_natCast]
          have hl := (f3.tr f4').tr f5'
          refine ih (k + 1) C5 _ p p5 _ (by omega) (by omega) (hV.off hl) (h1.kept hl (zz _)) l5 (fun _ => ?_)
          rw [add_frac (c := 0) (show E ≠ 0 by omega) (show b ≠ 0 by omega) (h3 hs) ((hYt hs).1 k hk9 (Or.inr (by omega))), sumT_s]
          rw [Int.add_assoc]
      · have g5 := g4 hs
        simp only [g5]
        refine ⟨⟨by decide, by decide⟩, ⟨by omega, by omega⟩, fun _ => ?_, fun z => absurd rfl z⟩
        exact ih (k + 1) C K p p2 y2 (by omega) (by omega) hV h1 h2 (fun z => absurd z hs)
    refine b_W_isReached_179 ⟨⟨by omega, by omega⟩, ⟨by omega, by omega⟩, fun z => absurd z (by omega), fun _ => ?_⟩
    simp only [q1, q2 i hi, Int.toNat_natCast, cellAt, m1, m2 k hk9, ← hTA i k hi hk9]
    refine ⟨⟨by decide, by decide⟩, ⟨by omega, by omega⟩, trivial, ⟨by omega, by omega⟩, ⟨by omega, by omega⟩, ⟨by omega, by omega⟩, by omega, ?_⟩
    refine s_of (d := d + 2) (by unfold A63; omega) (by unfold A63; omega) (by omega) _ ?_
    rintro v3 M3 C3 ⟨rfl, p3, rfl, n3, f3, l3⟩
    have hV3 := hV.off f3
    obtain ⟨f9, j1, j2⟩ := hV3.2.2.1
    obtain ⟨j3, j4⟩ := j2 k hk9
    simp only [j1, j3, Int.toNat_natCast]
    refine ⟨⟨by decide, by decide⟩, ⟨by omega, by omega⟩, by omega, ?_⟩
    refine s_times (d := d + 1) l3 j4 (BA.okT (bX k hk9) (by decide) (by decide)) _ ?_
    rintro v4 M4 C4 ⟨rfl, p4, rfl, n4, f4', l4⟩
    have hS := sr_ X X1 k (by omega)
    have BXs : Bq (((sumT (fun k => A i k * X k) k : Int) : Rat) / ((b * D : Int) : Rat)) 27648 6912 := (Bq_div (by omega)).mono (by omega) (by omega)
    refine ⟨by omega, ?_⟩
    rw [Int.toNat_natCast]
    refine s_sum (d := d + 1) ((h1.kept f3 (zz _)).kept f4' (zz _)) l4 (BXs.okS (BA.mul (bX k hk9)) (by decide) (by decide)) _ ?_
    rintro v5 M5 C5 ⟨rfl, p5, rfl, n5, f5', l5⟩
    have hl := (f3.tr f4').tr f5'
    have hV5 := hV.off hl
    rw [add_frac (c := 0) (show D ≠ 0 by omega) (show b ≠ 0 by omega) rfl (hx k hk9)] at l5
    have go := l214 C5 (kc + 1 + 1 + 1) p5 (by omega) hV5 l5 (h2.kept hl (zz _))
    obtain ⟨⟨-, ⟨⟨f4, q1, q2⟩, q3, -⟩, -, -, -⟩, -, -, f8, g1, g2⟩ := id hV5
    obtain ⟨ge, m1, m2⟩ := q3 i hi
    obtain ⟨g3, g4⟩ := g2 i hi
    simp only [g1, Int.toNat_natCast]
    rcases Classical.em (sure n A i g) with hs | hs
    · obtain ⟨g5, g6⟩ := g3 hs
      simp only [g5, Int.toNat_natCast, q1, q2 i hi, cellAt, m1, m2 k hk9, ← hTA i k hi hk9]
      refine ⟨⟨by decide, by decide⟩, ⟨by omega, by omega⟩, fun z => absurd z (Nat.succ_ne_zero _), fun _ => ⟨⟨by decide, by decide⟩, ⟨by omega, by omega⟩, trivial, ⟨by omega, by omega⟩, ⟨by omega, by omega⟩, fun z => go, fun z => ⟨⟨by omega, by omega⟩, fun _ => go, fun z2 => ?_⟩⟩⟩
      have hsk : sure n A k g := hs.step hi hk9 hig (by omega)
      obtain ⟨j5, -⟩ := (g2 k hk9).1 hsk
      rw [j5, Int.toNat_natCast] at z2
      exact absurd z2 (Nat.succ_ne_zero _)
    · have g5 := g4 hs
      simp only [g5]
      exact ⟨⟨by decide, by decide⟩, ⟨by omega, by omega⟩, fun _ => go, fun z => absurd rfl z⟩
end RC4
