/-! Nets: the reference solves. -/
theorem mk100 {x : Int} : mkRat x 100 = ((x : Int) : Rat) / (((100 : Nat) : Int) : Rat) := by
  rw [Rat.mkRat_eq_div]
  rfl
theorem mk100_ne : (((100 : Nat) : Int) : Rat) ≠ 0 := int_ne (by decide)
theorem mk100_sub {x y : Int} : mkRat x 100 - mkRat y 100 = mkRat (x - y) 100 := by
  have h := mk100_ne
  rw [mk100, mk100, mk100, Rat.intCast_sub]
  generalize ((x : Int) : Rat) = u at *
  generalize ((y : Int) : Rat) = v at *
  generalize (((100 : Nat) : Int) : Rat) = w at *
  grind
theorem mk100_add {x y : Int} : mkRat x 100 + mkRat y 100 = mkRat (x + y) 100 := by
  have h := mk100_ne
  rw [mk100, mk100, mk100, Rat.intCast_add]
  generalize ((x : Int) : Rat) = u at *
  generalize ((y : Int) : Rat) = v at *
  generalize (((100 : Nat) : Int) : Rat) = w at *
  grind
theorem mk_one {x : Int} : mkRat x 1 = ((x : Int) : Rat) := by
  rw [Rat.mkRat_eq_div]
  have n4 : ((1 : Nat) : Rat) = 1 := rfl
  rw [n4]
  generalize ((x : Int) : Rat) = u
  grind
theorem mk_1_100 {x : Int} : mkRat x 1 = mkRat (100 * x) 100 := by
  have h := mk100_ne
  rw [mk_one, mk100, Rat.intCast_mul]
  have e : ((100 : Int) : Rat) = (((100 : Nat) : Int) : Rat) := rfl
  rw [e]
  generalize ((x : Int) : Rat) = u at *
  generalize (((100 : Nat) : Int) : Rat) = w at *
  grind
theorem mk0_100 : mkRat (0 : Int) 100 = 0 := Rat.zero_mkRat 100
theorem mk100_100 : mkRat (100 : Int) 100 = 1 := by decide +kernel
theorem Bd100 {x : Int} (h0 : 0 ≤ x) (h1 : x ≤ 99999999) : Bd (mkRat x 100) 2 := by
  obtain ⟨X, rfl⟩ : ∃ X : Nat, x = X := ⟨x.toNat, by omega⟩
  exact Bd_mk (by decide) (by have : (10000 : Int) ^ 2 = 100000000 := by decide
                              omega) (by decide)
/-- the cell (r, c) behind k steps -/
def ntK (n : Nat) (C S : Nat → Int) (A : Nat → Nat → Int) (f : Nat → Bool) (r k c : Nat) : Int := if c = n then known C S A f r k else if c < k then ntN n C S A f r c else if r = c then 100 else 0
theorem s_solvesNet {d : Nat} {M : Mem} {n G : Nat} {C S : Nat → Int} {A : Nat → Nat → Int} (hN : NR M n C S A) (hO : nOk n C S A) (hR : ratesOk n A) (hG : G < 128) : Post (d + 7) cM_solvesNet [oM, .inl (G : Int)] M (fun _ M' => FR solF M M' ∧ ∀ i, i < n → FQ M' (56 + i) (nsQ n C S A (fun k => !(bt G k)) i)) := by
  intro Q hQ
  have h4 := hO.1
  have Dp := (net_pos hO hR (fun k => !(bt G k))).1
  generalize hf : (fun k => !(bt G k)) = f at *
  have hfk : ∀ k, f k = !(G.testBit k) := fun k => by rw [← hf]; rfl
  have TN : ∀ a c, a < n → c ≤ n → mkRat (ntN n C S A f a c) 100 * (((100 : Nat) : Int) : Rat) = ntQ n C S A f a c := fun a c _ _ => mk_mul (by decide)
  have Tne : ∀ j, j ≤ n → Dd (fun a c => mkRat (ntN n C S A f a c) 100) j ≠ 0 := fun j hj z => by
    have e : Dd (fun a c => mkRat (ntN n C S A f a c) 100) j * (((100 : Nat) : Int) : Rat) ^ j = Dd (ntQ n C S A f) j := by
      show wed j _ j (full j) * _ = _
      rw [wed_D]
      exact congrFun (wed_cells j fun a c ha hc => TN a c (by omega) (by omega)) _
    have := Dp j hj
    rw [← e, z] at this
    grind
  have nrk : ∀ {M1 : Mem}, FR solF M M1 → NR M1 n C S A := fun h => hN.kept h.fm (by simp) (by simp) (by simp) (by simp)
  refine e_M_solvesNet (b_M_solvesNet_0 ?_)
  rw [hN.1]
  refine (s_emptiesTable (d := d) (n := n) (by omega)).cal fun v1 M1 hM1 => ?_
  obtain ⟨f1, t1⟩ := hM1
  have rows : ∀ (g r : Nat), r + g = n → ∀ M2 o3 o4 o5, FR solF M M2 → (∀ a c, a < n → c ≤ n → FQ M2 (8 * a + c) (if a < r then mkRat (ntN n C S A f a c) 100 else 0)) → L_M_solvesNet_6 (d + 6) Q M2 (G : Int) (r : Int) o3 o4 o5 := by
    intro g
    induction g with
    | zero =>
      intro r hr M2 o3 o4 o5 f2 t2
      have hr : r = n := by omega
      subst hr
      refine b_M_solvesNet_6 ?_
      rw [(nrk f2).1]
      refine ⟨⟨by omega, by omega⟩, ⟨by omega, by omega⟩, fun _ => ?_, fun z => absurd (Int.le_refl _) z⟩
      refine (s_solves (d := d) (n := r) (T := fun a c => mkRat (ntN r C S A f a c) 100) (D := ((100 : Nat) : Int)) (by omega) (by omega) (fun a c ha hc => ?_) Tne fun a c ha hc => ?_).cal fun v3 M3 hM3 => ?_
      · refine ⟨_, TN a c ha hc, ?_⟩
        by_cases e : c = r
        · have := ntN_n (f := f) hO ha
          rw [e]; omega
        · have := ntN_r (f := f) hO ha (show c < r by omega)
          omega
      · have := t2 a c ha hc
        rw [if_pos ha] at this
        exact this
      · obtain ⟨f3, g3⟩ := hM3
        refine hQ _ _ ⟨f2.tr f3, fun i hi => ?_⟩
        have := g3 i hi
        rw [wed_scale mk100_ne TN hi] at this
        exact this
    | succ g ih =>
      intro r hr M2 o3 o4 o5 f2 t2
      have N2 := nrk f2
      have hc := hO.2.2.2.1 r (by omega)
      refine b_M_solvesNet_6 ?_
      rw [N2.1, Int.toNat_natCast]
      refine ⟨⟨by omega, by omega⟩, ⟨by omega, by omega⟩, fun z => absurd z (by omega), fun _ => ?_⟩
      refine (s_place (d := d + 5) (i := r) (j := n)).cal fun v3 M3 hM3 => ?_
      obtain ⟨e3, rfl⟩ := hM3
      rw [e3, N2.2.1 r (by omega)]
      refine ⟨⟨by omega, by omega⟩, ⟨by omega, by omega⟩, ?_⟩
      refine (s_sets (d := d + 1) (i := 8 * r + n) (x := C r) (y := 1) (by omega) (by omega) (by decide) (by decide)).cal fun v4 M4 hM4 => ?_
      obtain ⟨f4, g4⟩ := hM4
      rw [mk_1_100] at g4
      refine (s_place (d := d + 5) (i := r) (j := r)).cal fun v5 M5 hM5 => ?_
      obtain ⟨e5, rfl⟩ := hM5
      rw [e5]
      refine (s_sets (d := d + 1) (i := 8 * r + r) (x := 1) (y := 1) (by omega) (by decide) (by decide) (by decide)).cal fun v6 M6 hM6 => ?_
      obtain ⟨f6, g6⟩ := hM6
      rw [mkOne, ← mk100_100] at g6
      have inner : ∀ (h k : Nat), k + h = n → ∀ M7 o4 o5, FR solF M M7 → (∀ a c, a < n → c ≤ n → a ≠ r → FQ M7 (8 * a + c) (if a < r then mkRat (ntN n C S A f a c) 100 else 0)) → (∀ c, c ≤ n → FQ M7 (8 * r + c) (mkRat (ntK n C S A f r k c) 100)) → L_M_solvesNet_33 (d + 6) Q M7 (G : Int) (r : Int) (k : Int) o4 o5 := by
        intro h
        induction h with
        | zero =>
          intro k hk M7 o4 o5 f7 t7 w7
          have hk : k = n := by omega
          subst hk
          refine b_M_solvesNet_33 ?_
          rw [(nrk f7).1, show (r : Int) + 1 = ((r + 1 : Nat) : Int) by omega]
          refine ⟨⟨by omega, by omega⟩, ⟨by omega, by omega⟩, fun _ => ?_, fun z => absurd (Int.le_refl _) z⟩
          refine ih (r + 1) (by omega) M7 _ _ _ f7 fun a c ha hc => ?_
          by_cases e : a = r
          · rw [e, if_pos (Nat.lt_succ_self r)]
            have := w7 c hc
            rw [show ntK k C S A f r k c = ntN k C S A f r c by
              unfold ntK
              by_cases q : c = k
              · rw [if_pos q]; unfold ntN; rw [if_pos q]
              · rw [if_neg q, if_pos (by omega)]] at this
            exact this
          · have := t7 a c ha hc e
            by_cases q : a < r
            · rw [if_pos q] at this
              rw [if_pos (by omega)]; exact this
            · rw [if_neg q] at this
              rw [if_neg (by omega)]; exact this
        | succ h ihh =>
          intro k hk M7 o4 o5 f7 t7 w7
          have N7 := nrk f7
          have hs := hO.2.2.2.2 k (by omega)
          have ha := hO.2.1.2.2.1 k r (by omega) (by omega)
          have hkn := known_r (f := f) hO (show r < n by omega) k (by omega)
          -- the cell that is changed
          have nx : ∀ (p : Nat) (x : Int) M8 M9 o4 o5, FR [64] M7 M8 → FR [8 * r + p] M8 M9 → p ≤ n → (∀ c, c ≤ n → ntK n C S A f r (k + 1) c = if c = p then ntK n C S A f r k c + x else ntK n C S A f r k c) → FQ M9 (8 * r + p) (mkRat (ntK n C S A f r k p + x) 100) → L_M_solvesNet_33 (d + 6) Q M9 (G : Int) (r : Int) ((k : Int) + 1) o4 o5 := fun p x M8 M9 o4 o5 f8 f9 hp hx g9 => by
            rw [show (k : Int) + 1 = ((k + 1 : Nat) : Int) by omega]
            refine ihh (k + 1) (by omega) M9 _ _ ((f7.tr (f8.sol (by decide))).tr (f9.sol (by omega))) (fun a c ha hc hn => ((t7 a c ha hc hn).kept f8 (by omega) (by simp; omega)).kept f9 (by omega) (by simp; omega)) fun c hc => ?_
            rw [hx c hc]
            by_cases e : c = p
            · rw [if_pos e, e]; exact g9
            · rw [if_neg e]
              exact ((w7 c hc).kept f8 (by omega) (by simp; omega)).kept f9 (by omega) (by simp; omega)
          refine b_M_solvesNet_33 ?_
          rw [N7.1, bit_and hG (show k < 32 by omega)]
          refine ⟨⟨by omega, by omega⟩, ⟨by omega, by omega⟩, fun z => absurd z (by omega), fun _ => ⟨⟨by omega, by omega⟩, ⟨by omega, by omega⟩, by split <;> exact ⟨by decide, by decide⟩, fun z => ?_, fun z => ?_⟩⟩
          · have hb : f k = true := by
              rw [hfk]
              cases hq : G.testBit k
              · rfl
              · rw [hq] at z; exact absurd rfl z
            refine b_M_solvesNet_48 ⟨⟨by decide, by decide⟩, fun _ => ?_, fun z => absurd rfl z⟩
            have hp0 : 0 ≤ A k r * S k := Int.mul_nonneg (by omega) (by omega)
            have hp1 : A k r * S k ≤ 100 * 1000 := Int.mul_le_mul (by omega) (by omega) (by omega) (by decide)
            rw [show (4 * (k : Int) + (r : Int)).toNat = 4 * k + r by omega, N7.2.2.2 k r (by omega) (by omega), Int.toNat_natCast, N7.2.2.1 k (by omega)]
            refine ⟨⟨by omega, by omega⟩, ⟨by omega, by omega⟩, ⟨by omega, by omega⟩, ⟨by omega, by omega⟩, ?_⟩
            refine (s_sets (d := d + 1) (i := 64) (x := A k r * S k) (y := 100) (by decide) (by omega) (by decide) (by decide)).cal fun v8 M8 hM8 => ?_
            obtain ⟨f8, g8⟩ := hM8
            refine b_M_solvesNet_79 ⟨⟨by decide, by decide⟩, fun _ => ?_, fun z => absurd rfl z⟩
            rw [(nrk (f7.tr (f8.sol (by decide)))).1]
            refine (s_place (d := d + 5) (i := r) (j := n)).cal fun v9 M9 hM9 => ?_
            obtain ⟨e9, rfl⟩ := hM9
            refine ⟨fun _ => ?_, fun z => absurd rfl z⟩
            rw [e9]
            have w := (w7 n (Nat.le_refl n)).kept f8 (by omega) (by simp; omega)
            have e0 : ntK n C S A f r k n = known C S A f r k := if_pos rfl
            rw [e0] at w
            refine (s_adds (d := d + 1) (a := 8 * r + n) (b := 64) (c := 8 * r + n) (ka := 2) (kb := 2) (by omega) (by decide) (by omega) w g8 (Bd100 (by omega) (by omega)) (Bd100 (by omega) (by omega)) (by decide)).cal fun v10 M10 hM10 => ?_
            obtain ⟨f10, g10⟩ := hM10
            rw [mk100_add] at g10
            refine nx n (A k r * S k) M8 M10 _ _ f8 f10 (Nat.le_refl n) (fun c hc => ?_) (by rw [e0]; exact g10)
            unfold ntK
            by_cases q : c = n
            · rw [if_pos q, if_pos q, if_pos q]
              show known C S A f r k + (if f k = true then S k * A k r else 0) = _
              rw [if_pos hb, Int.mul_comm]
            · rw [if_neg q, if_neg q, if_neg q]
              by_cases q2 : c < k
              · rw [if_pos q2, if_pos (by omega)]
              · rw [if_neg q2]
                by_cases q3 : c = k
                · rw [if_pos (by omega)]
                  unfold ntN
                  rw [if_neg q, q3, if_pos hb]
                  by_cases q4 : r = k
                  · rw [if_pos q4]; rfl
                  · rw [if_neg q4]; rfl
                · rw [if_neg (by omega)]
          · have hb : f k = false := by
              rw [hfk]
              cases hq : G.testBit k
              · rw [hq] at z; exact absurd (fun h => by cases h) z
              · rfl
            refine b_M_solvesNet_48 ⟨⟨by decide, by decide⟩, fun z => absurd z (by decide), fun _ => ?_⟩
            rw [show (4 * (k : Int) + (r : Int)).toNat = 4 * k + r by omega, N7.2.2.2 k r (by omega) (by omega)]
            refine ⟨⟨by omega, by omega⟩, ⟨by omega, by omega⟩, ?_⟩
            refine (s_sets (d := d + 1) (i := 64) (x := A k r) (y := 100) (by decide) (by omega) (by decide) (by decide)).cal fun v8 M8 hM8 => ?_
            obtain ⟨f8, g8⟩ := hM8
            refine b_M_solvesNet_79 ⟨⟨by decide, by decide⟩, fun z => absurd z (by decide), fun _ => ?_⟩
            refine (s_place (d := d + 5) (i := r) (j := k)).cal fun v9 M9 hM9 => ?_
            obtain ⟨e9, rfl⟩ := hM9
            refine ⟨fun z => absurd z (by decide), fun _ => ?_⟩
            rw [e9]
            have w := (w7 k (by omega)).kept f8 (by omega) (by simp; omega)
            have e0 : ntK n C S A f r k k = if r = k then 100 else 0 := by
              unfold ntK
              rw [if_neg (by omega), if_neg (Nat.lt_irrefl k)]
            rw [e0] at w
            have bw : Bd (mkRat (if r = k then 100 else 0) 100) 2 := by split <;> exact Bd100 (by decide) (by decide)
            refine (s_subs (d := d + 1) (a := 8 * r + k) (b := 64) (c := 8 * r + k) (ka := 2) (kb := 2) (by omega) (by decide) (by omega) w g8 bw (Bd100 (by omega) (by omega)) (by decide)).cal fun v10 M10 hM10 => ?_
            obtain ⟨f10, g10⟩ := hM10
            rw [mk100_sub] at g10
            refine nx k (-(A k r)) M8 M10 _ _ f8 f10 (by omega) (fun c hc => ?_) (by rw [e0]; exact g10)
            unfold ntK
            by_cases q : c = n
            · rw [if_pos q, if_pos q, if_neg (show ¬ c = k by omega)]
              show known C S A f r k + (if f k = true then S k * A k r else 0) = _
              rw [if_neg (by rw [hb]; decide), Int.add_zero]
            · rw [if_neg q, if_neg q]
              by_cases q2 : c < k
              · rw [if_pos q2, if_pos (by omega), if_neg (by omega)]
              · rw [if_neg q2]
                by_cases q3 : c = k
                · rw [if_pos (by omega), if_pos q3]
                  unfold ntN
                  rw [if_neg q, q3, hb, if_neg (show ¬ (false = true) by decide)]
                  omega
                · rw [if_neg (by omega), if_neg q3]
      refine inner n 0 (by omega) M6 _ _ ((f2.tr (f4.sol (by omega))).tr (f6.sol (by omega))) (fun a c ha hc hn => ((t2 a c ha hc).kept f4 (by omega) (by simp; omega)).kept f6 (by omega) (by simp; omega)) fun c hc => ?_
      unfold ntK
      by_cases q : c = n
      · rw [if_pos q, q]
        exact g4.kept f6 (by omega) (by simp; omega)
      · rw [if_neg q, if_neg (Nat.not_lt_zero c)]
        by_cases q2 : r = c
        · rw [if_pos q2, ← q2]; exact g6
        · rw [if_neg q2, mk0_100]
          have := ((t2 r c (by omega) hc).kept f4 (by omega) (by simp; omega)).kept f6 (by omega) (by simp; omega)
          rw [if_neg (Nat.lt_irrefl r)] at this
          exact this
  refine rows n 0 (by omega) M1 _ _ _ f1 fun a c ha hc => ?_
  rw [if_neg (Nat.not_lt_zero a)]
  exact t1 a c ha hc
theorem s_solvesRates {d : Nat} {M : Mem} {n : Nat} {C S : Nat → Int} {A : Nat → Nat → Int} (hN : NR M n C S A) (hO : nOk n C S A) (hR : ratesOk n A) : Post (d + 8) cM_solvesRates [oM] M (fun _ M' => FR solF M M' ∧ ∀ i, i < n → FQ M' (56 + i) (nsQ n C S A (fun _ => false) i)) := by
  intro Q hQ
  have h4 := hO.1
  have pr := pow_r (n := n) (by omega)
  have e2 : (1 : Int) * 2 ^ n - 1 = ((2 ^ n - 1 : Nat) : Int) := by
    have := Nat.two_pow_pos n
    have e : ((2 ^ n : Nat) : Int) = (2 : Int) ^ n := by push_cast; rfl
    rw [Int.one_mul, ← e]
    omega
  refine e_M_solvesRates (b_M_solvesRates_0 ?_)
  rw [hN.1, Int.toNat_natCast, e2]
  refine ⟨⟨by omega, by omega⟩, ?_⟩
  refine (s_solvesNet (d := d) (G := 2 ^ n - 1) hN hO hR (by omega)).cal fun v1 M1 hM1 => ?_
  obtain ⟨f1, g1⟩ := hM1
  refine hQ _ _ ⟨f1, fun i hi => ?_⟩
  have := g1 i hi
  rw [nsQ_congr (g := fun _ => false) (fun j hj => by
    show (!(bt (2 ^ n - 1) j)) = false
    rw [bt_full]
    show (!(decide (j < n))) = false
    rw [decide_eq_true hj]; rfl) hi] at this
  exact this
