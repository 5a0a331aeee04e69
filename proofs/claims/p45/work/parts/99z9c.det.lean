/-! The class's determinant. -/
def bcF (x : Int) : Int :=
  let a := x - zand (zush x 1) 1431655765
  let b := zand a 858993459 + zand (zush a 2) 858993459
  let c := zand (b + zush b 4) 252645135
  let e := c + zush c 8
  zand (e + zush e 16) 63
theorem bc_all : ∀ s, s < 64 → bcF ((s : Nat) : Int) = ((cnt s 6 : Nat) : Int) := by decide +kernel
theorem s_bitCount {d : Nat} {M : Mem} {s : Nat} (hs : s < 64) : Post (d + 1) cI_bitCount [.inl (s : Int)] M (fun v M' => M' = M ∧ v = ((cnt s 6 : Nat) : Int)) := by
  intro Q hQ
  exact e_I_bitCount (b_I_bitCount_0 (hQ _ _ ⟨rfl, bc_all s hs⟩))
theorem cnt_top {s m : Nat} (h : s < 2 ^ m) : ∀ k, cnt s (m + k) = cnt s m := by
  intro k
  induction k with
  | zero => rfl
  | succ k ih =>
    show cnt s (m + k) + (if s.testBit (m + k) then 1 else 0) = cnt s m
    have : s.testBit (m + k) = false := Nat.testBit_lt_two_pow (Nat.lt_of_lt_of_le h (Nat.pow_le_pow_right (by decide) (Nat.le_add_right m k)))
    rw [this, ih]; rfl
def bt (s : Nat) : Nat → Bool := fun i => s.testBit i
theorem cnt_er {s t c : Nat} (hc : s.testBit c = true) (he : bt t = er (bt s) c) : ∀ m, cnt t m + (if c < m then 1 else 0) = cnt s m := by
  intro m
  induction m with
  | zero => rw [if_neg (by omega)]; rfl
  | succ m ih =>
    show cnt t m + (if t.testBit m then 1 else 0) + (if c < m + 1 then 1 else 0) = cnt s m + (if s.testBit m then 1 else 0)
    have hm : t.testBit m = er (bt s) c m := congrFun he m
    by_cases e : m = c
    · subst e
      rw [hm, er_same, hc, if_pos (show m < m + 1 by omega)]
      rw [if_neg (show ¬ m < m by omega)] at ih
      show cnt t m + 0 + 1 = cnt s m + 1
      omega
    · rw [hm, er_ne e]
      show cnt t m + (if s.testBit m then 1 else 0) + (if c < m + 1 then 1 else 0) = cnt s m + (if s.testBit m then 1 else 0)
      by_cases h : c < m
      · rw [if_pos h] at ih
        rw [if_pos (show c < m + 1 by omega)]
        omega
      · rw [if_neg h] at ih
        rw [if_neg (show ¬ c < m + 1 by omega)]
        omega
theorem bt_xor {s c : Nat} (h : s.testBit c = true) : bt (s ^^^ 2 ^ c) = er (bt s) c := by
  funext i
  show (s ^^^ 2 ^ c).testBit i = er (bt s) c i
  rw [Nat.testBit_xor, bit_pow]
  by_cases e : i = c
  · subst e
    rw [er_same, h, decide_eq_true rfl]; rfl
  · rw [er_ne e, decide_eq_false (fun h => e h.symm)]
    show (s.testBit i ^^ false) = s.testBit i
    cases s.testBit i <;> rfl
theorem xor_lt : ∀ s, s < 64 → ∀ c, c < 6 → s.testBit c = true → s ^^^ 2 ^ c < s := by decide +kernel
theorem zxor_nat {s t : Nat} (hs : s < 128) (ht : t < 128) : zxor (s : Int) (t : Int) = ((s ^^^ t : Nat) : Int) := by
  unfold zxor
  rw [show ((s : Int) % 4294967296).toNat = s by omega, show ((t : Int) % 4294967296).toNat = t by omega]
def abvG (S : Nat → Bool) (u : Nat) : Nat → Nat
  | 0 => 0
  | i + 1 => abvG S u i + (if u ≤ i ∧ S i = true then 1 else 0)
theorem abvG_abv {S : Nat → Bool} {k : Nat} : ∀ m, abv S k m = abvG S (k + 1) m := by
  intro m
  induction m with
  | zero => rfl
  | succ m ih =>
    show abv S k m + (if k < m ∧ S m = true then 1 else 0) = abvG S (k + 1) m + (if k + 1 ≤ m ∧ S m = true then 1 else 0)
    rw [ih]
    by_cases h : k < m ∧ S m = true
    · rw [if_pos h, if_pos ⟨by omega, h.2⟩]
    · rw [if_neg h, if_neg fun z => h ⟨by omega, z.2⟩]
theorem abvG_step {S : Nat → Bool} {u : Nat} : ∀ m, abvG S u m = abvG S (u + 1) m + (if u < m ∧ S u = true then 1 else 0) := by
  intro m
  induction m with
  | zero => rw [if_neg (by omega)]; rfl
  | succ m ih =>
    show abvG S u m + (if u ≤ m ∧ S m = true then 1 else 0) = abvG S (u + 1) m + (if u + 1 ≤ m ∧ S m = true then 1 else 0) + (if u < m + 1 ∧ S u = true then 1 else 0)
    rw [ih]
    by_cases e : u = m
    · subst e
      rw [if_neg (show ¬ (u < u ∧ S u = true) by omega), if_neg (show ¬ (u + 1 ≤ u ∧ S u = true) by omega)]
      by_cases h : S u = true
      · rw [if_pos ⟨Nat.le_refl u, h⟩, if_pos ⟨by omega, h⟩]
      · rw [if_neg fun z => h z.2, if_neg fun z => h z.2]
    · have a : (u ≤ m ∧ S m = true) ↔ (u + 1 ≤ m ∧ S m = true) := ⟨fun z => ⟨by omega, z.2⟩, fun z => ⟨by omega, z.2⟩⟩
      have b : (u < m ∧ S u = true) ↔ (u < m + 1 ∧ S u = true) := ⟨fun z => ⟨by omega, z.2⟩, fun z => ⟨by omega, z.2⟩⟩
      by_cases h1 : u ≤ m ∧ S m = true <;> by_cases h2 : u < m ∧ S u = true
      · rw [if_pos h1, if_pos h2, if_pos (a.mp h1), if_pos (b.mp h2)]
      · rw [if_pos h1, if_neg h2, if_pos (a.mp h1), if_neg fun z => h2 (b.mpr z)]
      · rw [if_neg h1, if_pos h2, if_neg fun z => h1 (a.mpr z), if_pos (b.mp h2)]
      · rw [if_neg h1, if_neg h2, if_neg fun z => h1 (a.mpr z), if_neg fun z => h2 (b.mpr z)]
theorem abvG_top {S : Nat → Bool} {u : Nat} : ∀ m, m ≤ u → abvG S u m = 0 := by
  intro m
  induction m with
  | zero => intro _; rfl
  | succ m ih =>
    intro h
    show abvG S u m + (if u ≤ m ∧ S m = true then 1 else 0) = 0
    rw [ih (by omega), if_neg (by omega)]
def full (m : Nat) : Nat → Bool := fun i => decide (i < m)
theorem bt_full {m : Nat} : bt (2 ^ m - 1) = full m := by
  funext i
  exact Nat.testBit_two_pow_sub_one m i
theorem cnt_full {m : Nat} : ∀ k, k ≤ m → cnt (2 ^ m - 1) k = k := by
  intro k
  induction k with
  | zero => intro _; rfl
  | succ k ih =>
    intro h
    show cnt (2 ^ m - 1) k + (if (2 ^ m - 1).testBit k then 1 else 0) = k + 1
    rw [ih (by omega), Nat.testBit_two_pow_sub_one, decide_eq_true (show k < m by omega)]; rfl
theorem wraSq {r : Nat} (h : IsSq r) : ∀ i, i < 6 → wRa (r + 1) i = r + 3 + i ∧ wAk (r + 3 + i) = 2 ∧ wAl (r + 3 + i) = 6 := by
  rcases h with rfl | rfl
  · decide +kernel
  · decide +kernel
/-- the cells -/
def sqR (M : Mem) (r : Nat) (i j : Nat) : Rat := ((M (r + 3 + i) j : Int) : Rat)
theorem s_det {d : Nat} {M : Mem} {r m : Nat} (hr : IsSq r) (hm : m ≤ 6) : Post (d + 2) cS_determinant [.inr (.inr (.inl r)), .inl (m : Int)] M (fun v M' => Fr [r + 2] M M' ∧ ((v : Int) : Rat) = wed m (sqR M r) m (full m)) := by
  intro Q hQ
  have p64 : 2 ^ m ≤ 64 := Nat.pow_le_pow_right (by decide) hm (n := 2)
  have ppos : 0 < 2 ^ m := Nat.two_pow_pos m
  have e2 : (1 : Int) * 2 ^ ((m : Int).toNat) = ((2 ^ m : Nat) : Int) := by rw [Int.toNat_natCast, Int.one_mul]; push_cast; rfl
  refine e_S_determinant hr (b_S_determinant_0 hr ⟨⟨by omega, by omega⟩, ?_⟩)
  rw [show min (m : Int) 6 = (m : Int) by omega]
  have outer : ∀ (g C : Nat), C + g = 2 ^ m → 1 ≤ C → ∀ M1 o1 o4 o5 o6 o7 o8 o9, Fr [r + 2] M M1 → (∀ C', C' < C → ((M1 (r + 2) C' : Int) : Rat) = wed m (sqR M r) (cnt C' m) (bt C')) → L_S_determinant_11 (d + 1) Q M1 r o1 (m : Int) (C : Int) o4 o5 o6 o7 o8 o9 := by
    intro g
    induction g with
    | zero =>
      intro C hC h1 M1 o1 o4 o5 o6 o7 o8 o9 f1 hall
      have hC : C = 2 ^ m := by omega
      refine b_S_determinant_11 hr ?_
      rw [e2, hC]
      refine ⟨⟨by omega, by omega⟩, ⟨by omega, by omega⟩, ⟨by omega, by omega⟩, fun _ => ⟨⟨by omega, by omega⟩, ?_⟩, fun z => absurd (Int.le_refl _) z⟩
      rw [show (((2 ^ m : Nat) : Int) - 1).toNat = 2 ^ m - 1 by omega]
      refine hQ _ _ ⟨f1, ?_⟩
      rw [hall (2 ^ m - 1) (by omega), cnt_full m (Nat.le_refl m), bt_full]
    | succ g ih =>
      intro C hC h1 M1 o1 o4 o5 o6 o7 o8 o9 f1 hall
      have C64 : C < 64 := by omega
      refine b_S_determinant_11 hr ?_
      rw [e2]
      refine ⟨⟨by omega, by omega⟩, ⟨by omega, by omega⟩, ⟨by omega, by omega⟩, fun z => absurd z (by omega), fun _ => ?_⟩
      refine (s_bitCount (d := d) C64).cal fun v2 M2 hM2 => ?_
      obtain ⟨rfl, rfl⟩ := hM2
      have ec : cnt C 6 = cnt C m := by
        have := cnt_top (s := C) (m := m) (by omega) (6 - m)
        rw [show m + (6 - m) = 6 by omega] at this
        exact this
      rw [ec]
      have cpos : 1 ≤ cnt C m := by
        have : ∃ i, C.testBit i = true := by
          refine Classical.byContradiction fun h => ?_
          have : C = 0 := by
            apply Nat.eq_of_testBit_eq
            intro i
            rw [Nat.zero_testBit]
            cases e : C.testBit i
            · rfl
            · exact absurd ⟨i, e⟩ h
          omega
        obtain ⟨i, hi⟩ := this
        refine cnt_pos hi m ?_
        refine Classical.byContradiction fun h => ?_
        have := Nat.testBit_lt_two_pow (x := C) (i := i) (Nat.lt_of_lt_of_le (show C < 2 ^ m by omega) (Nat.pow_le_pow_right (by decide) (by omega)))
        rw [hi] at this
        cases this
      have cle := cnt_le (s := C) m
      obtain ⟨row, hrow⟩ : ∃ row, cnt C m = row + 1 := ⟨cnt C m - 1, by omega⟩
      rw [hrow, show ((row + 1 : Nat) : Int) - 1 = (row : Int) by omega]
      have inner : ∀ (u : Nat), u ≤ m → ∀ (x y : Int), ((x : Int) : Rat) + sumQ (fun k => if bt C k = true then sg (abv (bt C) k m) * sqR M r row k * wed m (sqR M r) row (er (bt C) k) else 0) u = wed m (sqR M r) (row + 1) (bt C) → ((y : Int) : Rat) = sg (abvG (bt C) u m) → L_S_determinant_29 (d + 1) Q M2 r o1 (m : Int) (C : Int) (row : Int) x y ((u : Int) - 1) := by
        intro u
        induction u with
        | zero =>
          intro _ x y hx hy
          refine b_S_determinant_29 hr ⟨⟨by omega, by omega⟩, fun _ => ⟨⟨by omega, by omega⟩, ?_⟩, fun z => absurd (by omega) z⟩
          rw [Int.toNat_natCast, show (C : Int) + 1 = ((C + 1 : Nat) : Int) by omega]
          refine ih (C + 1) (by omega) (by omega) _ _ _ _ _ _ _ _ (f1.u2 (by simp)) fun C' hC' => ?_
          by_cases e : C' = C
          · rw [e, u2_same, hrow, ← hx]
            show ((x : Int) : Rat) = (x : Rat) + 0
            grind
          · rw [u2_ne e]; exact hall C' (by omega)
        | succ u ihu =>
          intro hu x y hx hy
          refine b_S_determinant_29 hr ?_
          rw [show ((u + 1 : Nat) : Int) - 1 = (u : Int) by omega]
          refine ⟨⟨by omega, by omega⟩, fun z => absurd z (by omega), fun _ => ?_⟩
          refine (s_isIn (d := d) (s := C) (j := u) (by omega) (by omega)).cal fun v3 M3 hM3 => ?_
          obtain ⟨rfl, ⟨rfl, g3⟩ | ⟨rfl, g3⟩⟩ := hM3
          · refine ⟨⟨by decide, by decide⟩, fun z => absurd z (by decide), fun _ => ?_⟩
            obtain ⟨w1, w2, w3⟩ := wraSq hr row (by omega)
            obtain ⟨q1, q2⟩ := bit_one (j := u) (by omega)
            have hxor := xor_lt C C64 u (by omega) g3
            have ex := zxor_nat (show C < 128 by omega) q2
            rw [q1, ex, Int.toNat_natCast, Int.toNat_natCast, Int.toNat_natCast, w1, w2, w3, show (u : Int) + -1 = (u : Int) - 1 by omega]
            refine ⟨⟨by omega, by omega⟩, rfl, ⟨by omega, by omega⟩, ⟨by omega, by omega⟩, ⟨by omega, by omega⟩, ?_⟩
            have hcell : M3 (r + 3 + row) u = M (r + 3 + row) u := by rw [f1 _ (by simp; omega)]
            have hcn := cnt_er g3 (bt_xor g3) m
            rw [if_pos (by omega), hrow] at hcn
            have hmin := hall (C ^^^ 2 ^ u) hxor
            rw [show cnt (C ^^^ 2 ^ u) m = row by omega, bt_xor g3] at hmin
            refine ihu (by omega) _ _ ?_ ?_
            · rw [← hx]
              show _ = ((x : Int) : Rat) + (sumQ _ u + if bt C u = true then _ else 0)
              rw [if_pos (show bt C u = true from g3), abvG_abv, ← hy, hcell, ← hmin, Rat.intCast_add, Rat.intCast_mul, Rat.intCast_mul]
              show ((x : Rat) + (y : Rat) * sqR M r row u * _) + _ = _
              grind
            · have e := abvG_step (S := bt C) (u := u) m
              rw [if_pos ⟨by omega, show bt C u = true from g3⟩] at e
              rw [Rat.intCast_neg, hy, e, sg_succ]
          · refine ⟨⟨by decide, by decide⟩, fun _ => ?_, fun z => absurd rfl z⟩
            rw [show (u : Int) + -1 = (u : Int) - 1 by omega]
            have hb : ¬ bt C u = true := by
              show ¬ C.testBit u = true
              rw [g3]; decide
            refine ihu (by omega) _ _ ?_ ?_
            · rw [← hx]
              show _ = ((x : Int) : Rat) + (sumQ _ u + if bt C u = true then _ else 0)
              rw [if_neg hb]
              grind
            · have e := abvG_step (S := bt C) (u := u) m
              rw [if_neg (fun z => hb z.2)] at e
              rw [hy]
              exact congrArg sg (by omega)
      refine inner m (Nat.le_refl m) 0 1 ?_ ?_
      · show ((0 : Int) : Rat) + Wd m (sqR M r row) (wed m (sqR M r) row) (bt C) = Wd m (sqR M r row) (wed m (sqR M r) row) (bt C)
        rw [show ((0 : Int) : Rat) = 0 from rfl]
        grind
      · rw [abvG_top m (Nat.le_refl m)]; rfl
  refine outer (2 ^ m - 1) 1 (by omega) (Nat.le_refl 1) _ _ _ _ _ _ _ _ (Fr.rfl'.u2 (by simp)) fun C' hC' => ?_
  rw [show C' = 0 by omega, u2_same]
  have c0 : ∀ k, cnt 0 k = 0 := by
    intro k
    induction k with
    | zero => rfl
    | succ k ih =>
      show cnt 0 k + (if (0 : Nat).testBit k then 1 else 0) = 0
      rw [ih, Nat.zero_testBit]; rfl
  rw [c0]
  rfl
