/-! What is reached: the greatest and the least place. -/
theorem ex_set (P : Nat → Prop) : ∀ n : Nat, ∃ s : Nat, s < 2 ^ n ∧ ∀ j, s.testBit j = true ↔ (j < n ∧ P j)
  | 0 => ⟨0, by decide, fun j => by simp⟩
  | n + 1 => by
    obtain ⟨s, h1, h2⟩ := ex_set P n
    have hp : 2 ^ n < 2 ^ (n + 1) := Nat.pow_lt_pow_right (by decide) (Nat.lt_succ_self n)
    rcases Classical.em (P n) with h | h
    · refine ⟨s ||| 2 ^ n, Nat.or_lt_two_pow (Nat.lt_trans h1 hp) hp, fun j => ?_⟩
      rw [Nat.testBit_or, Bool.or_eq_true, h2, Nat.testBit_two_pow, decide_eq_true_iff]
      constructor
      · rintro (⟨z, w⟩ | rfl)
        · exact ⟨by omega, w⟩
        · exact ⟨Nat.lt_succ_self _, h⟩
      · rintro ⟨z, w⟩
        by_cases e : n = j
        · exact Or.inr e
        · exact Or.inl ⟨by omega, w⟩
    · refine ⟨s, Nat.lt_trans h1 hp, fun j => ?_⟩
      rw [h2]
      constructor
      · rintro ⟨z, w⟩
        exact ⟨by omega, w⟩
      · rintro ⟨z, w⟩
        refine ⟨?_, w⟩
        rcases Nat.lt_or_ge j n with e | e
        · exact e
        · have : j = n := by omega
          rw [this] at w
          exact absurd w h
theorem ex_min {S : Nat → Prop} {f : Nat → Nat} : ∀ (v j : Nat), S j → f j ≤ v → ∃ m, S m ∧ ∀ k, S k → f m ≤ f k
  | 0, j, hj, hv => ⟨j, hj, fun k _ => by omega⟩
  | v + 1, j, hj, hv => by
    rcases Classical.em (∃ k, S k ∧ f k ≤ v) with ⟨k, k1, k2⟩ | h
    · exact ex_min v k k1 k2
    · refine ⟨j, hj, fun k hk => ?_⟩
      rcases Nat.lt_or_ge (f k) (v + 1) with z | z
      · exact absurd ⟨k, hk, by omega⟩ h
      · omega
theorem sumT_z {f : Nat → Int} : ∀ n, (∀ k, k < n → 0 ≤ f k) → sumT f n ≤ 0 → ∀ k, k < n → f k = 0
  | 0, _, _, k, hk => absurd hk (Nat.not_lt_zero k)
  | n + 1, h, hs, k, hk => by
    have e : sumT f (n + 1) = sumT f n + f n := rfl
    have h0 : 0 ≤ sumT f n := by
      have key : ∀ m, m ≤ n → 0 ≤ sumT f m := by
        intro m
        induction m with
        | zero => intro _; exact Int.le_refl 0
        | succ m ih =>
          intro hm
          have := ih (by omega)
          have := h m (by omega)
          show 0 ≤ sumT f m + f m
          omega
      exact key n (Nat.le_refl n)
    have hn := h n (Nat.lt_succ_self n)
    by_cases z : k = n
    · rw [z]; omega
    · exact sumT_z n (fun y hy => h y (by omega)) (by omega) k (by omega)
theorem sumT_lin {f g : Nat → Int} {μ : Int} : ∀ n, sumT (fun k => f k * (g k - μ)) n = sumT (fun k => f k * g k) n - sumT f n * μ
  | 0 => by show (0 : Int) = 0 - 0 * μ; rw [Int.zero_mul]; rfl
  | n + 1 => by
    show sumT _ n + f n * (g n - μ) = (sumT _ n + f n * g n) - (sumT f n + f n) * μ
    rw [sumT_lin n, Int.mul_sub, Int.add_mul]
    omega
theorem rowT {A : Nat → Nat → Int} {i : Nat} : ∀ n, sumT (A i) n = rowS A i n
  | 0 => rfl
  | n + 1 => by show sumT (A i) n + A i n = rowS A i n + A i n; rw [rowT n]
section RCH
variable {n g : Nat} {b D : Int} {A : Nat → Nat → Int} {X : Nat → Int}
/-- where a place is extreme, those behind it are like it -/
theorem ext_eq (hO : cOk n b A) (hla : lawful n b A) {i : Nat} (hi : i < n) (he : b * X i = sumT (fun k => A i k * X k) n) (h : (∀ k, k < n → 0 < A i k → X i ≤ X k) ∨ ∀ k, k < n → 0 < A i k → X k ≤ X i) : ∀ k, k < n → 0 < A i k → X k = X i := by
  have h7 := hO.1
  have hA := fun k (hk : k < n) => (hO.2.2.1 i k (by omega) (by omega)).1
  have hs : sumT (fun k => A i k * (X k - X i)) n = 0 := by
    rw [sumT_lin, ← he, rowT, hla i hi]
    omega
  have hs2 : sumT (fun k => A i k * (X i - X k)) n = 0 := by
    have h9 : ∀ m, sumT (fun k => A i k * (X i - X k)) m = - sumT (fun k => A i k * (X k - X i)) m := by
      intro m
      induction m with
      | zero => rfl
      | succ m ih =>
        show sumT _ m + A i m * (X i - X m) = -(sumT _ m + A i m * (X m - X i))
        rw [ih, Int.mul_sub, Int.mul_sub]
        omega
    rw [h9, hs]
    rfl
  intro k hk hpos
  rcases h with h | h
  · have h1 := sumT_z n (f := fun k => A i k * (X k - X i)) (fun y hy => by
      rcases Int.lt_or_le 0 (A i y) with z | z
      · exact Int.mul_nonneg (hA y hy) (by have := h y hy z; omega)
      · have : A i y = 0 := Int.le_antisymm z (hA y hy)
        show 0 ≤ A i y * _
        rw [this, Int.zero_mul]; exact Int.le_refl 0) (by rw [hs]; exact Int.le_refl 0) k hk
    rcases Int.mul_eq_zero.mp h1 with z | z <;> omega
  · have h1 := sumT_z n (f := fun k => A i k * (X i - X k)) (fun y hy => by
      rcases Int.lt_or_le 0 (A i y) with z | z
      · exact Int.mul_nonneg (hA y hy) (by have := h y hy z; omega)
      · have : A i y = 0 := Int.le_antisymm z (hA y hy)
        show 0 ≤ A i y * _
        rw [this, Int.zero_mul]; exact Int.le_refl 0) (by rw [hs2]; exact Int.le_refl 0) k hk
    rcases Int.mul_eq_zero.mp h1 with z | z <;> omega
def RX (n g : Nat) (b : Int) (A : Nat → Nat → Int) (X : Nat → Int) (D : Int) : Prop := (0 < D ∧ D ≤ 1728) ∧ (∀ i, i < n → 0 ≤ X i ∧ X i ≤ 1728) ∧ X g = D ∧ (∀ i, i < n → i ≠ g → b * X i = sumT (fun k => A i k * X k) n) ∧ ∀ i, i < n → ¬ Rch (cEE n A) i g → X i = 0
theorem RX.pos (h : RX n g b A X D) (hO : cOk n b A) (hla : lawful n b A) {i : Nat} (hi : i < n) (hr : Rch (cEE n A) i g) : 0 < X i := by
  obtain ⟨h1, h2, h3, h4, h5⟩ := h
  rcases Int.lt_or_le 0 (X i) with z | z
  · exact z
  · have h0 : X i = 0 := Int.le_antisymm z (h2 i hi).1
    have := hr (fun k => k < n ∧ X k = 0) ⟨hi, h0⟩ (fun k l hk e => by
      have hkg : k ≠ g := fun w => by rw [w, h3] at hk; omega
      refine ⟨e.2.2.1, ?_⟩
      have := ext_eq hO hla hk.1 (h4 k hk.1 hkg) (Or.inl fun y hy _ => by rw [hk.2]; exact (h2 y hy).1) l e.2.2.1 e.2.2.2
      rw [this]; exact hk.2)
    rw [h3] at this
    omega
theorem RX.le (h : RX n g b A X D) (hO : cOk n b A) (hla : lawful n b A) {i : Nat} (hi : i < n) : X i ≤ D := by
  obtain ⟨h1, h2, h3, h4, h5⟩ := id h
  obtain ⟨m, m1, m2⟩ := ex_min (S := fun k => k < n) (f := fun k => 1728 - (X k).toNat) 1728 i hi (by omega)
  have hmax : ∀ k, k < n → X k ≤ X m := fun k hk => by
    have := m2 k hk
    have := h2 k hk
    have := h2 m m1
    omega
  rcases Int.lt_or_le D (X m) with z | z
  · exfalso
    have hr : Rch (cEE n A) m g := Classical.byContradiction fun w => by have := h5 m m1 w; omega
    have := hr (fun k => k < n ∧ X k = X m) ⟨m1, rfl⟩ (fun k l hk e => by
      have hkg : k ≠ g := fun w => by rw [w, h3] at hk; omega
      refine ⟨e.2.2.1, ?_⟩
      have := ext_eq hO hla hk.1 (h4 k hk.1 hkg) (Or.inr fun y hy _ => by rw [hk.2]; exact hmax y hy) l e.2.2.1 e.2.2.2
      rw [this]; exact hk.2)
    rw [h3] at this
    omega
  · have := hmax i hi
    omega
theorem RX.sure (h : RX n g b A X D) (hO : cOk n b A) (hla : lawful n b A) {i : Nat} (hi : i < n) (hg : g < n) : X i = D ↔ sure n A i g := by
  obtain ⟨h1, h2, h3, h4, h5⟩ := id h
  constructor
  · intro hx j hj hig hr
    have := hr (fun k => k < n ∧ k ≠ g ∧ X k = D) ⟨hi, hig, hx⟩ (fun k l hk e => by
      refine ⟨e.2.1, e.2.2.2, ?_⟩
      have := ext_eq hO hla hk.1 (h4 k hk.1 hk.2.1) (Or.inr fun y hy _ => by rw [hk.2.2]; exact h.le hO hla hy) l e.2.1 e.2.2.1
      rw [this]; exact hk.2.2)
    exact Classical.byContradiction fun w => by have := h5 j hj w; omega
  · intro hs
    by_cases hig : i = g
    · rw [hig]; exact h3
    · rcases Int.lt_or_le (X i) D with z | z
      · exfalso
        obtain ⟨m, m1, m2⟩ := ex_min (S := fun k => k < n ∧ k ≠ g ∧ Rch (wE n A g) i k) (f := fun k => (X k).toNat) (X i).toNat i ⟨hi, hig, Rch.refl i⟩ (Nat.le_refl _)
        have hmin : ∀ k, k < n → k ≠ g → Rch (wE n A g) i k → X m ≤ X k := fun k hk hkg hr => by
          have := m2 k ⟨hk, hkg, hr⟩
          have := h2 k hk
          have := h2 m m1.1
          omega
        have hmi := hmin i hi hig (Rch.refl i)
        have hr := hs m m1.1 hig m1.2.2
        have := hr (fun k => k < n ∧ k ≠ g ∧ Rch (wE n A g) i k ∧ X k = X m) ⟨m1.1, m1.2.1, m1.2.2, rfl⟩ (fun k l hk e => by
          have hlow : ∀ y, y < n → 0 < A k y → X k ≤ X y := fun y hy hp => by
            by_cases w : y = g
            · rw [w, h3, hk.2.2.2]; omega
            · rw [hk.2.2.2]; exact hmin y hy w (hk.2.2.1.step ⟨hk.1, hy, hp, w⟩)
          have hl := ext_eq hO hla hk.1 (h4 k hk.1 hk.2.1) (Or.inl hlow) l e.2.2.1 e.2.2.2
          have hlg : l ≠ g := fun w => by rw [w, h3, hk.2.2.2] at hl; omega
          exact ⟨e.2.2.1, hlg, hk.2.2.1.step ⟨hk.1, e.2.2.1, e.2.2.2, hlg⟩, hl.trans hk.2.2.2⟩)
        exact this.2.1 rfl
      · have := h.le hO hla hi
        omega
/-- the chances to reach g -/
theorem rch_nums (hO : cOk n b A) (hla : lawful n b A) (hn : n ≤ 4) (hb4 : b ≤ 4) (hg : g < n) : ∃ X D, RX n g b A X D ∧ ∀ i v, i < n → rchV n b A i g v → v = ((X i : Int) : Rat) / ((D : Int) : Rat) := by
  have h7 := hO.1
  obtain ⟨s, s1, s2⟩ := ex_set (fun j => j ≠ g ∧ Rch (cEE n A) j g) n
  have hs128 : s < 128 := Nat.lt_of_lt_of_le s1 (by
    have : 2 ^ n ≤ 2 ^ 4 := Nat.pow_le_pow_right (by decide) hn
    omega)
  have hts : toSet n (cEE n A) g s := ⟨hs128, fun j => s2 j⟩
  have hgb := hts.no
  obtain ⟨N, D, hD, hN1, hN2, hN3⟩ := sol_all (q := (g : Int)) hO hla hn hb4 hgb hg (fun i hi hb => ((s2 i).mp hb).2.2) (Or.inr ⟨by omega, by omega⟩)
  have hbt : ∀ k, s.testBit k = true ∨ s.testBit k = false := fun k => by cases s.testBit k <;> simp
  have hDz : ((D : Int) : Rat) ≠ 0 := fun z => by have := Rat.intCast_eq_zero_iff.mp z; omega
  have hsum : ∀ i, i < n → sumT (fun k => A i k * (if k = g then D else N k)) n = A i g * D + sumT (fun k => A i k * N k) n := fun i hi => by
    have key : ∀ m, sumT (fun k => A i k * (if k = g then D else N k)) m = (if g < m then A i g * D else 0) + sumT (fun k => A i k * N k) m := by
      intro m
      induction m with
      | zero => rw [if_neg (Nat.not_lt_zero g)]; rfl
      | succ m ih =>
        show sumT _ m + A i m * (if m = g then D else N m) = _ + (sumT _ m + A i m * N m)
        rw [ih]
        by_cases e : m = g
        · rw [if_pos e, if_neg (by omega), if_pos (by omega), e, hN2 g hgb, Int.mul_zero]
          omega
        · rw [if_neg e]
          by_cases z : g < m
          · rw [if_pos z, if_pos (by omega)]; omega
          · rw [if_neg z, if_neg (by omega)]; omega
    rw [key n, if_pos hg]
  refine ⟨fun k => if k = g then D else N k, D, ⟨hD, fun i hi => ?_, if_pos rfl, fun i hi hig => ?_, fun i hi hno => ?_⟩, fun i v hi hv => ?_⟩
  · show 0 ≤ (if i = g then D else N i) ∧ (if i = g then D else N i) ≤ 1728
    by_cases e : i = g
    · rw [if_pos e]; omega
    · rw [if_neg e]
      rcases hbt i with hb | hb
      · exact ⟨(hN1 i hi hb).1, (hN1 i hi hb).2.1⟩
      · rw [hN2 i hb]; exact ⟨by decide, by decide⟩
  · show b * (if i = g then D else N i) = sumT (fun k => A i k * (if k = g then D else N k)) n
    rw [if_neg hig, hsum i hi]
    rcases hbt i with hb | hb
    · have := hN3 i hi hb
      rw [if_neg (by omega), Int.toNat_natCast] at this
      exact this
    · rw [hN2 i hb, Int.mul_zero]
      have hno : ¬ Rch (cEE n A) i g := fun w => by
        have := (s2 i).mpr ⟨hi, hig, w⟩
        rw [hb] at this
        cases this
      have hz : ∀ k, k < n → A i k * N k = 0 ∧ (k = g → A i k = 0) := fun k hk => by
        have hA := hO.2.2.1 i k (by omega) (by omega)
        rcases Int.lt_or_le 0 (A i k) with z | z
        · have hik : Rch (cEE n A) i k := (Rch.refl i).step ⟨by omega, hi, hk, z⟩
          refine ⟨?_, fun w => absurd (by rw [← w]; exact hik) hno⟩
          rcases hbt k with hb | hb
          · exact absurd (hik.tr ((s2 k).mp hb).2.2) hno
          · rw [hN2 k hb, Int.mul_zero]
        · have : A i k = 0 := Int.le_antisymm z hA.1
          exact ⟨by rw [this, Int.zero_mul], fun _ => this⟩
      rw [(hz g hg).2 rfl, Int.zero_mul, Int.zero_add, sumT_congr (g := fun _ => 0) n (fun k hk => (hz k hk).1)]
      have h0 : ∀ m, sumT (fun _ => 0) m = 0 := by
        intro m
        induction m with
        | zero => rfl
        | succ m ih => show sumT _ m + 0 = 0; rw [ih]; rfl
      exact (h0 n).symm
  · show (if i = g then D else N i) = 0
    rw [if_neg (fun w => hno (by rw [w]; exact Rch.refl g))]
    rcases hbt i with hb | hb
    · exact absurd ((s2 i).mp hb).2.2 hno
    · exact hN2 i hb
  · show v = (((if i = g then D else N i) : Int) : Rat) / _
    rcases hv with ⟨e, rfl⟩ | ⟨e, z, rfl⟩ | ⟨e, z, s', h1, rfl⟩
    · rw [if_pos e]
      generalize ((D : Int) : Rat) = x at *
      grind
    · rw [if_neg e, hN2 i (by
        rcases hbt i with hb | hb
        · exact absurd ((s2 i).mp hb).2.2 z
        · exact hb)]
      have : ((0 : Int) : Rat) = 0 := rfl
      rw [this]
      generalize ((D : Int) : Rat) = x at *
      grind
    · rw [if_neg e, ← hts.uniq h1]
      exact (hN1 i hi ((s2 i).mpr ⟨hi, e, z⟩)).2.2
end RCH
