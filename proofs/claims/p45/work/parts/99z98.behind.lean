/-! The chance behind steps: what both sides compute. -/
def dotN (x : Nat → Nat) (A : Nat → Nat → Int) (j : Nat) : Nat → Nat
  | 0 => 0
  | m + 1 => dotN x A j m + x m * (A m j).toNat
def sumK (f : Nat → Nat) : Nat → Nat
  | 0 => 0
  | k + 1 => sumK f k + f k
def bhN (A : Nat → Nat → Int) (n f : Nat) : Nat → Nat → Nat
  | 0 => fun j => if j = f then 1 else 0
  | t + 1 => fun j => dotN (bhN A n f t) A j n
theorem sumK_add {f g : Nat → Nat} : ∀ k, sumK (fun j => f j + g j) k = sumK f k + sumK g k := by
  intro k
  induction k with
  | zero => rfl
  | succ k ih => show sumK (fun j => f j + g j) k + (f k + g k) = sumK f k + f k + (sumK g k + g k); rw [ih]; omega
theorem sumK_mul {c : Nat} {f : Nat → Nat} : ∀ k, sumK (fun j => c * f j) k = c * sumK f k := by
  intro k
  induction k with
  | zero => rfl
  | succ k ih => show sumK (fun j => c * f j) k + c * f k = c * (sumK f k + f k); rw [ih, Nat.mul_add]
theorem sumK_zero {f : Nat → Nat} : ∀ k, (∀ j, j < k → f j = 0) → sumK f k = 0 := by
  intro k
  induction k with
  | zero => intro _; rfl
  | succ k ih => intro h; show sumK f k + f k = 0; rw [ih fun j hj => h j (by omega), h k (by omega)]
theorem sumK_one {f : Nat} : ∀ k, f < k → sumK (fun j => if j = f then 1 else 0) k = 1 := by
  intro k
  induction k with
  | zero => intro h; exact absurd h (Nat.not_lt_zero _)
  | succ k ih =>
    intro h
    show sumK (fun j => if j = f then 1 else 0) k + (if k = f then 1 else 0) = 1
    by_cases e : k = f
    · rw [if_pos e, sumK_zero k fun j hj => if_neg (by omega)]
    · rw [if_neg e, ih (by omega)]
theorem sumK_le {f : Nat → Nat} {j : Nat} : ∀ k, j < k → f j ≤ sumK f k := by
  intro k
  induction k with
  | zero => intro h; exact absurd h (Nat.not_lt_zero _)
  | succ k ih =>
    intro h
    show f j ≤ sumK f k + f k
    by_cases e : j = k
    · rw [e]; omega
    · have := ih (by omega); omega
theorem rowN {A : Nat → Nat → Int} {i n : Nat} : ∀ k, (∀ j, j < k → 0 ≤ A i j) → ((sumK (fun j => (A i j).toNat) k : Nat) : Int) = rowS A i k := by
  intro k
  induction k with
  | zero => intro _; rfl
  | succ k ih =>
    intro h
    have e := ih fun j hj => h j (by omega)
    have := h k (by omega)
    show ((sumK (fun j => (A i j).toNat) k + (A i k).toNat : Nat) : Int) = rowS A i k + A i k
    omega
theorem dot_sum {x : Nat → Nat} {A : Nat → Nat → Int} {n b : Nat} : ∀ m, (∀ i, i < m → sumK (fun j => (A i j).toNat) n = b) → sumK (fun j => dotN x A j m) n = b * sumK x m := by
  intro m
  induction m with
  | zero => intro _; exact sumK_zero n fun _ _ => rfl
  | succ m ih =>
    intro h
    show sumK (fun j => dotN x A j m + x m * (A m j).toNat) n = b * (sumK x m + x m)
    rw [sumK_add, ih fun i hi => h i (by omega), sumK_mul, h m (by omega), Nat.mul_add, Nat.mul_comm (x m)]
theorem dot_mono {x : Nat → Nat} {A : Nat → Nat → Int} {j m k : Nat} (h : m ≤ k) : dotN x A j m ≤ dotN x A j k := by
  induction k with
  | zero => rw [show m = 0 by omega]; exact Nat.le_refl _
  | succ k ih =>
    by_cases e : m = k + 1
    · rw [e]; exact Nat.le_refl _
    · exact Nat.le_trans (ih (by omega)) (Nat.le_add_right _ _)
theorem bh_sum {n f b : Nat} {A : Nat → Nat → Int} (hO : cOk n (b : Int) A) (hl : lawful n (b : Int) A) (hf : f < n) : ∀ t, sumK (bhN A n f t) n = b ^ t := by
  have hr : ∀ i, i < n → sumK (fun j => (A i j).toNat) n = b := fun i hi => by
    have h7 := hO.1
    have := rowN (A := A) (i := i) (n := n) n fun j hj => (hO.2.2.1 i j (by omega) (by omega)).1
    rw [hl i hi] at this
    omega
  intro t
  induction t with
  | zero => exact sumK_one n hf
  | succ t ih =>
    show sumK (fun j => dotN (bhN A n f t) A j n) n = b ^ (t + 1)
    rw [dot_sum n hr, ih, Nat.pow_succ, Nat.mul_comm]
theorem bh_le {n f b : Nat} {A : Nat → Nat → Int} (hO : cOk n (b : Int) A) (hl : lawful n (b : Int) A) (hf : f < n) {j : Nat} (hj : j < n) (t : Nat) : bhN A n f t j ≤ b ^ t := by
  rw [← bh_sum hO hl hf t]
  exact sumK_le (f := bhN A n f t) n hj
theorem bh_part {n f b : Nat} {A : Nat → Nat → Int} (hO : cOk n (b : Int) A) (hl : lawful n (b : Int) A) (hf : f < n) {j m : Nat} (hj : j < n) (hm : m ≤ n) (t : Nat) : dotN (bhN A n f t) A j m ≤ b ^ (t + 1) :=
  Nat.le_trans (dot_mono hm) (bh_le hO hl hf hj (t + 1))
theorem pow_b {b t : Nat} (hb : b ≤ 100) (ht : t ≤ 60) : b ^ t ≤ 100 ^ 60 :=
  Nat.le_trans (Nat.pow_le_pow_left hb t) (Nat.pow_le_pow_right (by decide) ht)
theorem p120 : ((100 ^ 60 : Nat) : Int) * 1000000000 < BB ^ 18 ∧ BB ^ 18 < BB ^ 20 ∧ ((100 ^ 60 : Nat) : Int) < 10000 ^ 31 := by decide +kernel
/-! The class's walk. -/
theorem wra128 : ∀ j, j < 7 → wRa 128 j = 12 + 2 * j ∧ wRa 129 j = 26 + 2 * j := by decide +kernel
theorem bIr {r : Nat} (h : r < 54) (h2 : r % 2 = 0) : IsBig r := ⟨h, h2⟩
abbrev walkCells : List Nat := [10, 11, 12, 13, 14, 15, 16, 17, 18, 19, 20, 21, 22, 23, 24, 25, 26, 27, 28, 29, 30, 31, 32, 33, 34, 35, 36, 37, 38, 39]
theorem walk_in {r : Nat} (h : 10 ≤ r) (h2 : r + 1 ≤ 39) : ∀ a, a ∈ [r, r + 1] → a ∈ walkCells := by
  intro a ha
  simp at ha ⊢
  omega
theorem AZ.big {M M' : Mem} {r : Nat} {v : Int} (h : AZ M) (hr : IsBig r) (f : Fr [r, r + 1] M M') (g : Big M' r v) : AZ M' := by
  refine h.fr f fun q hq hm => ?_
  obtain ⟨q1, q2⟩ := hq
  obtain ⟨r1, r2⟩ := hr
  simp at hm
  have e : q = r := by omega
  rw [e]; exact g.rz
/-- now x, of all p -/
def WS (M : Mem) (n : Nat) (x : Nat → Nat) (p : Nat) : Prop := (∀ j, j < n → Big M (12 + 2 * j) ((x j : Nat) : Int)) ∧ Big M 10 (p : Int)
theorem CC.kept {M M' : Mem} {n : Nat} {b : Int} {A : Nat → Nat → Int} {l : List Nat} (h : CC M n b A) (hf : Fr l M M') (h1 : 130 ∉ l) (h2 : ∀ i, i < 7 → 118 + i ∉ l) : CC M' n b A := by
  obtain ⟨c1, c2, c3⟩ := h
  exact ⟨by rw [hf 130 h1]; exact c1, by rw [hf 130 h1]; exact c2, fun i j hi hj => by rw [hf _ (h2 i hi)]; exact c3 i j hi hj⟩
theorem CC.walk {M M' : Mem} {n : Nat} {b : Int} {A : Nat → Nat → Int} (h : CC M n b A) (hf : Fr walkCells M M') : CC M' n b A :=
  h.kept hf (by decide) fun i hi => by simp; omega
theorem s_goStep {d : Nat} {M : Mem} {n b t f p : Nat} {A : Nat → Nat → Int} (hC : CC M n (b : Int) A) (hO : cOk n (b : Int) A) (hl : lawful n (b : Int) A) (hf : f < n) (ht : t < 60) (hz : AZ M) (hW : WS M n (bhN A n f t) p) : Post (d + 3) cC_goStep [oC] M (fun _ M' => Fr walkCells M M' ∧ AZ M' ∧ WS M' n (bhN A n f (t + 1)) p) := by
  intro Q hQ
  have h7 := hO.1
  have hb := hO.2.1
  obtain ⟨p1, p2, p3⟩ := p120
  have bnd : ∀ j m, j < n → m ≤ n → ((dotN (bhN A n f t) A j m : Nat) : Int) ≤ ((100 ^ 60 : Nat) : Int) := fun j m hj hm =>
    Int.ofNat_le.mpr (Nat.le_trans (bh_part hO hl hf hj hm t) (pow_b (by omega) (by omega)))
  have FW : ∀ {M1 M2 : Mem} {r : Nat}, 10 ≤ r → r + 1 ≤ 39 → Fr [r, r + 1] M1 M2 → Fr walkCells M1 M2 := fun h1 h2 f => f.mono (walk_in h1 h2)
  /- the second half: what was then is now -/
  have back : ∀ (g j : Nat), j + g = n → ∀ M1 o2, Fr walkCells M M1 → AZ M1 → Big M1 10 (p : Int) → (∀ i, i < n → Big M1 (26 + 2 * i) ((bhN A n f (t + 1) i : Nat) : Int)) → (∀ i, i < j → Big M1 (12 + 2 * i) ((bhN A n f (t + 1) i : Nat) : Int)) → L_C_goStep_47 (d + 2) Q M1 (j : Int) o2 := by
    intro g
    induction g with
    | zero =>
      intro j hj M1 o2 f1 z1 g10 hthen hnow
      have hj : j = n := by omega
      subst hj
      refine b_C_goStep_47 ?_
      rw [(hC.walk f1).1]
      exact ⟨⟨by omega, by omega⟩, ⟨by omega, by omega⟩, fun _ => hQ _ _ ⟨f1, z1, hnow, g10⟩, fun z => absurd (Int.le_refl _) z⟩
    | succ g ih =>
      intro j hj M1 o2 f1 z1 g10 hthen hnow
      refine b_C_goStep_47 ?_
      obtain ⟨w1, w2⟩ := wra128 j (by omega)
      rw [(hC.walk f1).1, Int.toNat_natCast, w1, w2]
      refine ⟨⟨by omega, by omega⟩, ⟨by omega, by omega⟩, fun z => absurd z (by omega), fun _ => ⟨⟨by omega, by omega⟩, ?_⟩⟩
      have h12 : IsBig (12 + 2 * j) := bIr (by omega) (by omega)
      refine (s_copy (d := d + 1) h12 (bIr (by omega) (by omega)) (by omega) (z1 _ h12) (hthen j (by omega))).cal fun v2 M2 hM2 => ?_
      obtain ⟨f2, g2⟩ := hM2
      rw [show (j : Int) + 1 = ((j + 1 : Nat) : Int) by omega]
      refine ih (j + 1) (by omega) M2 o2 (f1.tr (FW (by omega) (by omega) f2)) (z1.big h12 f2 g2) (f2.big g10 (by simp; omega) (by simp; omega)) (fun i hi => f2.big (hthen i hi) (by simp; omega) (by simp; omega)) fun i hi => ?_
      by_cases e : i = j
      · rw [e]; exact g2
      · exact f2.big (hnow i (by omega)) (by simp; omega) (by simp; omega)
  /- the first half -/
  have go : ∀ (g j : Nat), j + g = n → ∀ M1 o2, Fr walkCells M M1 → AZ M1 → WS M1 n (bhN A n f t) p → (∀ i, i < j → Big M1 (26 + 2 * i) ((bhN A n f (t + 1) i : Nat) : Int)) → L_C_goStep_2 (d + 2) Q M1 (j : Int) o2 := by
    intro g
    induction g with
    | zero =>
      intro j hj M1 o2 f1 z1 hw hthen
      have hj : j = n := by omega
      subst hj
      refine b_C_goStep_2 ?_
      rw [(hC.walk f1).1]
      exact ⟨⟨by omega, by omega⟩, ⟨by omega, by omega⟩, fun _ => back j 0 (by omega) M1 _ f1 z1 hw.2 hthen (fun i h => absurd h (Nat.not_lt_zero i)), fun z => absurd (Int.le_refl _) z⟩
    | succ g ih =>
      intro j hj M1 o2 f1 z1 hw hthen
      refine b_C_goStep_2 ?_
      obtain ⟨w1, w2⟩ := wra128 j (by omega)
      rw [(hC.walk f1).1, Int.toNat_natCast, w2]
      refine ⟨⟨by omega, by omega⟩, ⟨by omega, by omega⟩, fun z => absurd z (by omega), fun _ => ⟨⟨by omega, by omega⟩, ?_⟩⟩
      have h26 : IsBig (26 + 2 * j) := bIr (by omega) (by omega)
      refine (s_setLong (d := d) (j := 0) h26 (z1 _ h26) (by decide) (by decide)).cal fun v2 M2 hM2 => ?_
      obtain ⟨f2, g2⟩ := hM2
      have inner : ∀ (h i : Nat), i + h = n → ∀ M3, Fr walkCells M M3 → AZ M3 → WS M3 n (bhN A n f t) p → (∀ i', i' < j → Big M3 (26 + 2 * i') ((bhN A n f (t + 1) i' : Nat) : Int)) → Big M3 (26 + 2 * j) ((dotN (bhN A n f t) A j i : Nat) : Int) → L_C_goStep_14 (d + 2) Q M3 (j : Int) (i : Int) := by
        intro h
        induction h with
        | zero =>
          intro i hi M3 f3 z3 hw3 hthen3 hacc
          have hi : i = n := by omega
          subst hi
          refine b_C_goStep_14 ?_
          rw [(hC.walk f3).1]
          refine ⟨⟨by omega, by omega⟩, ⟨by omega, by omega⟩, fun _ => ?_, fun z => absurd (Int.le_refl _) z⟩
          rw [show (j : Int) + 1 = ((j + 1 : Nat) : Int) by omega]
          refine ih (j + 1) (by omega) M3 _ f3 z3 hw3 fun i' hi' => ?_
          by_cases e : i' = j
          · rw [e]; exact hacc
          · exact hthen3 i' (by omega)
        | succ h ihh =>
          intro i hi M3 f3 z3 hw3 hthen3 hacc
          have c3 := hC.walk f3
          obtain ⟨r1, r2, r3⟩ := wra125 i (by omega)
          obtain ⟨u1, u2⟩ := wra128 i (by omega)
          have hA := hO.2.2.1 i j (by omega) (by omega)
          refine b_C_goStep_14 ?_
          rw [c3.1, Int.toNat_natCast, Int.toNat_natCast, r1, r2, r3, c3.2.2 i j (by omega) (by omega), u1, w2]
          have hdot : dotN (bhN A n f t) A j (i + 1) = dotN (bhN A n f t) A j i + bhN A n f t i * (A i j).toNat := rfl
          refine ⟨⟨by omega, by omega⟩, ⟨by omega, by omega⟩, fun z => absurd z (by omega), fun _ => ⟨⟨by omega, by omega⟩, rfl, ⟨by omega, by omega⟩, ⟨by omega, by omega⟩, fun z => ?_, fun z => ⟨⟨by omega, by omega⟩, ?_⟩⟩⟩
          · rw [show (i : Int) + 1 = ((i + 1 : Nat) : Int) by omega]
            refine ihh (i + 1) (by omega) M3 f3 z3 hw3 hthen3 ?_
            rw [hdot, show (A i j).toNat = 0 by omega, Nat.mul_zero, Nat.add_zero]
            exact hacc
          · have e1 : ((dotN (bhN A n f t) A j i : Nat) : Int) + ((bhN A n f t i : Nat) : Int) * A i j = ((dotN (bhN A n f t) A j (i + 1) : Nat) : Int) := by
              rw [hdot, Int.natCast_add, Int.natCast_mul, Int.toNat_of_nonneg hA.1]
            have hb1 := bnd j (i + 1) (by omega) (by omega)
            refine (s_addScaled (d := d) h26 (bIr (show 12 + 2 * i < 54 by omega) (by omega)) (by omega) hacc (hw3.1 i (by omega)) (by omega) (by rw [e1]; omega)).cal fun v4 M4 hM4 => ?_
            obtain ⟨f4, g4⟩ := hM4
            rw [e1] at g4
            rw [show (i : Int) + 1 = ((i + 1 : Nat) : Int) by omega]
            exact ihh (i + 1) (by omega) M4 (f3.tr (FW (by omega) (by omega) f4)) (z3.big h26 f4 g4) ⟨fun q hq => f4.big (hw3.1 q hq) (by simp; omega) (by simp; omega), f4.big hw3.2 (by simp; omega) (by simp; omega)⟩ (fun i' hi' => f4.big (hthen3 i' hi') (by simp; omega) (by simp; omega)) g4
      exact inner n 0 (by omega) M2 (f1.tr (FW (by omega) (by omega) f2)) (z1.big h26 f2 g2) ⟨fun q hq => f2.big (hw.1 q hq) (by simp; omega) (by simp; omega), f2.big hw.2 (by simp; omega) (by simp; omega)⟩ (fun i' hi' => f2.big (hthen i' hi') (by simp; omega) (by simp; omega)) g2
  exact e_C_goStep (b_C_goStep_0 (go n 0 (by omega) M _ Fr.rfl' hz hW (fun i h => absurd h (Nat.not_lt_zero i))))
