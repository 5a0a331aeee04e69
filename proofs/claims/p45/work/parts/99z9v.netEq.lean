/-! Nets: the equations. -/
def known (C S : Nat → Int) (A : Nat → Nat → Int) (f : Nat → Bool) (r : Nat) : Nat → Int
  | 0 => 100 * C r
  | k + 1 => known C S A f r k + (if f k = true then S k * A k r else 0)
def ntN (n : Nat) (C S : Nat → Int) (A : Nat → Nat → Int) (f : Nat → Bool) (a c : Nat) : Int := if c = n then known C S A f a n else (if a = c then 100 else 0) - (if f c = true then 0 else A c a)
def ntQ (n : Nat) (C S : Nat → Int) (A : Nat → Nat → Int) (f : Nat → Bool) (a c : Nat) : Rat := ((ntN n C S A f a c : Int) : Rat)
/-- what comes to a node -/
def nsQ (n : Nat) (C S : Nat → Int) (A : Nat → Nat → Int) (f : Nat → Bool) (i : Nat) : Rat := ansQ (ntQ n C S A f) n i
theorem known_congr {C S : Nat → Int} {A : Nat → Nat → Int} {f g : Nat → Bool} {r : Nat} : ∀ k, (∀ j, j < k → f j = g j) → known C S A f r k = known C S A g r k := by
  intro k
  induction k with
  | zero => intro _; rfl
  | succ k ih =>
    intro h
    show known C S A f r k + (if f k = true then _ else _) = known C S A g r k + (if g k = true then _ else _)
    rw [ih fun j hj => h j (by omega), h k (by omega)]
theorem nsQ_congr {n : Nat} {C S : Nat → Int} {A : Nat → Nat → Int} {f g : Nat → Bool} (h : ∀ j, j < n → f j = g j) {i : Nat} (hi : i < n) : nsQ n C S A f i = nsQ n C S A g i := by
  have e : ∀ a c, c ≤ n → ntQ n C S A f a c = ntQ n C S A g a c := fun a c hc => by
    show ((ntN n C S A f a c : Int) : Rat) = ((ntN n C S A g a c : Int) : Rat)
    unfold ntN
    by_cases q : c = n
    · rw [if_pos q, if_pos q, known_congr n h]
    · rw [if_neg q, if_neg q, h c (by omega)]
  show wed n _ n (full n) / wed n _ n (full n) = wed n _ n (full n) / wed n _ n (full n)
  rw [wed_cells (R' := ntQ n C S A g) n (fun a c _ hc => e a c (by omega)), wed_cells (R := colR (ntQ n C S A f) (fc i n)) (R' := colR (ntQ n C S A g) (fc i n)) n (fun a c _ hc => e a _ (by show (if c = i then n else c) ≤ n; split <;> omega))]
theorem known_r {n : Nat} {C S : Nat → Int} {A : Nat → Nat → Int} {f : Nat → Bool} (hO : nOk n C S A) {r : Nat} (hr : r < n) : ∀ k, k ≤ n → 0 ≤ known C S A f r k ∧ known C S A f r k ≤ 100000 + 100000 * (k : Int) := by
  have h4 := hO.1
  intro k
  induction k with
  | zero =>
    intro _
    have := hO.2.2.2.1 r (by omega)
    show 0 ≤ 100 * C r ∧ 100 * C r ≤ _
    omega
  | succ k ih =>
    intro hk
    have h := ih (by omega)
    have hs := hO.2.2.2.2 k (by omega)
    have ha := hO.2.1.2.2.1 k r (by omega) (by omega)
    have hp0 : 0 ≤ S k * A k r := Int.mul_nonneg (by omega) (by omega)
    have hp : S k * A k r ≤ 1000 * 100 := Int.mul_le_mul (by omega) (by omega) (by omega) (by decide)
    show 0 ≤ known C S A f r k + (if f k = true then S k * A k r else 0) ∧ known C S A f r k + (if f k = true then S k * A k r else 0) ≤ _
    split <;> omega
theorem ntN_r {n : Nat} {C S : Nat → Int} {A : Nat → Nat → Int} {f : Nat → Bool} (hO : nOk n C S A) {a c : Nat} (ha : a < n) (hc : c < n) : -100 ≤ ntN n C S A f a c ∧ ntN n C S A f a c ≤ 100 := by
  have h4 := hO.1
  have h := hO.2.1.2.2.1 c a (by omega) (by omega)
  unfold ntN
  rw [if_neg (by omega)]
  split <;> split <;> omega
theorem ntN_n {n : Nat} {C S : Nat → Int} {A : Nat → Nat → Int} {f : Nat → Bool} (hO : nOk n C S A) {a : Nat} (ha : a < n) : 0 ≤ ntN n C S A f a n ∧ ntN n C S A f a n ≤ 500000 := by
  have h4 := hO.1
  have h := known_r (f := f) hO ha n (Nat.le_refl n)
  unfold ntN
  rw [if_pos rfl]
  omega
/-- weights, whatever is full -/
theorem net_w {n : Nat} {C S : Nat → Int} {A : Nat → Nat → Int} (hO : nOk n C S A) (hR : ratesOk n A) : ∃ y : Nat → Rat, (∀ c, c < n → 0 < y c) ∧ ∀ f, MT (ntQ n C S A f) n 0 y := by
  have h4 := hO.1
  have hS := pQ_stoch hO.2.1 fun i hi => hO.2.2.1 i hi
  obtain ⟨x, x1, x2⟩ := weigh (mb := fun _ => true) hS fun i hi _ => by
    obtain ⟨j, j1, j2, j3⟩ := hR i hi
    refine Go.rchOut (E := cE n A (-1)) hS (pQ_edge (by decide)) j2 (Go.exit hS j1 ?_)
    show sumQ (fun q => ((A j q : Int) : Rat) / (((100 : Int)) : Rat)) n < 1
    rw [sumQ_div, sumQ_cast, sumT_row (A := A) (i := j) n fun _ _ => rfl]
    have h1 : ((rowS A j n : Int) : Rat) < ((100 : Int) : Rat) := Rat.intCast_lt_intCast.mpr j3
    have hbp : (0 : Rat) < ((100 : Int) : Rat) := cast_pos (by decide)
    generalize ((rowS A j n : Int) : Rat) = u at *
    generalize ((100 : Int) : Rat) = v at *
    refine (Rat.div_lt_iff hbp).mpr ?_
    grind
  refine ⟨x, x1, fun f => ⟨fun a c ha hc hac => ?_, fun c _ hc => ?_⟩⟩
  · show ((ntN n C S A f a c : Int) : Rat) ≤ 0
    have h := hO.2.1.2.2.1 c a (by omega) (by omega)
    refine Rat.intCast_le_intCast.mpr (show ntN n C S A f a c ≤ 0 from ?_)
    unfold ntN
    rw [if_neg (by omega), if_neg hac]
    split <;> omega
  · have h2 := x2 c hc rfl
    rw [sumQ_congr (g := fun j => pQ 100 A c j * x j) n fun j _ => if_pos rfl] at h2
    have hxc := x1 c hc
    have hbp : (0 : Rat) < ((100 : Int) : Rat) := cast_pos (by decide)
    have key : ∀ t : Int, (∀ a, a < n → ntN n C S A f a c = (if a = c then 100 else 0) - t * A c a) → sumQ (fun a => if 0 ≤ a then x a * ntQ n C S A f a c else 0) n = ((100 : Int) : Rat) * (x c - ((t : Int) : Rat) * sumQ (fun j => pQ 100 A c j * x j) n) := fun t ht => by
      have e : sumQ (fun a => if 0 ≤ a then x a * ntQ n C S A f a c else 0) n = sumQ (fun a => (if a = c then ((100 : Int) : Rat) * x c else 0) - (((100 : Int) : Rat) * ((t : Int) : Rat)) * (pQ 100 A c a * x a)) n := by
        refine sumQ_congr n fun a ha => ?_
        rw [if_pos (Nat.zero_le a)]
        show x a * ((ntN n C S A f a c : Int) : Rat) = _ - _ * (((A c a : Int) : Rat) / ((100 : Int) : Rat) * x a)
        rw [ht a ha, Rat.intCast_sub, Rat.intCast_mul]
        have hne : ((100 : Int) : Rat) ≠ 0 := by grind
        by_cases q : a = c
        · subst q
          rw [if_pos rfl, if_pos rfl]
          generalize ((A a a : Int) : Rat) = u at *
          generalize ((100 : Int) : Rat) = v at *
          generalize ((t : Int) : Rat) = w at *
          generalize x a = y at *
          grind
        · rw [if_neg q, if_neg q, show ((0 : Int) : Rat) = 0 from rfl]
          generalize ((A c a : Int) : Rat) = u at *
          generalize ((100 : Int) : Rat) = v at *
          generalize ((t : Int) : Rat) = w at *
          generalize x a = y at *
          grind
      rw [e, sumQ_lin, sumQ_single (r := c) n hc (fun a _ hn => if_neg hn), if_pos rfl]
      grind
    cases hf : f c
    · rw [key 1 fun a ha => by
        unfold ntN
        rw [if_neg (show ¬ c = n by omega), hf, if_neg (show ¬ (false = true) by decide)]; omega]
      refine Rat.mul_pos hbp ?_
      rw [show ((1 : Int) : Rat) = 1 from rfl]
      grind
    · rw [key 0 fun a ha => by
        unfold ntN
        rw [if_neg (by omega), hf, if_pos rfl]; omega]
      refine Rat.mul_pos hbp ?_
      rw [show ((0 : Int) : Rat) = 0 from rfl]
      grind
theorem net_pos {n : Nat} {C S : Nat → Int} {A : Nat → Nat → Int} (hO : nOk n C S A) (hR : ratesOk n A) (f : Nat → Bool) : (∀ j, j ≤ n → 0 < Dd (ntQ n C S A f) j) ∧ ∀ i, i < n → 0 ≤ wed n (colR (ntQ n C S A f) (fc i n)) n (full n) := by
  obtain ⟨y, y1, y2⟩ := net_w hO hR
  exact ⟨((y2 f).go y1 n (Nat.le_refl n)).2, fun i hi => (y2 f).nn y1 hi fun a ha => cast_nn (ntN_n hO ha).1⟩
/-! Bounds, where one column is greater. -/
theorem Wh.sgm {n : Nat} {x y : Rat} {a b : Int} (hx : Wh x a) (hy : Wh y b) : Wh (sg n * x * y) (a * b) := by
  obtain ⟨z, z1, z2⟩ := hx
  obtain ⟨w, w1, w2⟩ := hy
  have m := abs_mul_le z2 w2
  unfold sg
  by_cases h : n % 2 = 0
  · refine ⟨z * w, ?_, m.1, m.2⟩
    rw [if_pos h, z1, w1, Rat.intCast_mul]; grind
  · refine ⟨-(z * w), ?_, by omega, by omega⟩
    rw [if_neg h, z1, w1, Rat.intCast_neg, Rat.intCast_mul]; grind
theorem Wh.cast {x : Rat} {a b : Int} (h : Wh x a) (e : a = b) : Wh x b := by rw [← e]; exact h
theorem wed_col {W i : Nat} {R : Nat → Nat → Rat} {a g : Int} (ha : 0 ≤ a) (hg : 1 ≤ g) : ∀ k, (∀ r c, r < k → c < W → Wh (R r c) (if c = i then g * a else a)) → ∀ S : Nat → Bool, Wh (wed W R k S) ((if S i = true then g else 1) * ((W : Int) * a) ^ k) := by
  intro k
  induction k with
  | zero =>
    intro _ S
    rw [Int.pow_zero, Int.mul_one]
    refine ⟨1, rfl, ?_, ?_⟩ <;> split <;> omega
  | succ k ih =>
    intro h S
    have hP : 0 ≤ ((W : Int) * a) ^ k := Int.pow_nonneg (Int.mul_nonneg (by omega) ha)
    have hs : (0 : Int) ≤ (if S i = true then g else 1) := by split <;> omega
    have hb : (0 : Int) ≤ (if S i = true then g else 1) * (a * ((W : Int) * a) ^ k) := Int.mul_nonneg hs (Int.mul_nonneg ha hP)
    have key := Wh.sum (f := fun c => if S c = true then sg (abv S c W) * R k c * wed W R k (er S c) else 0) hb W fun c hc => by
      by_cases e : S c = true
      · show Wh (if S c = true then _ else _) _
        rw [if_pos e]
        have h1 := h k c (by omega) hc
        have h2 := ih (fun r c hr hc => h r c (by omega) hc) (er S c)
        by_cases e2 : c = i
        · subst e2
          rw [er_same, if_neg (by decide)] at h2
          rw [if_pos rfl] at h1
          rw [if_pos e]
          exact (h1.sgm h2).cast (by generalize ((W : Int) * a) ^ k = p; grind)
        · rw [er_ne (fun z => e2 z.symm)] at h2
          rw [if_neg e2] at h1
          exact (h1.sgm h2).cast (by generalize ((W : Int) * a) ^ k = p; grind)
      · show Wh (if S c = true then _ else _) _
        rw [if_neg e]
        exact ⟨0, rfl, by omega, hb⟩
    refine (show Wh (wed W R (k + 1) S) _ from key).cast ?_
    rw [Int.pow_succ]
    generalize ((W : Int) * a) ^ k = p
    grind
theorem p400 : (5000 : Int) * 400 ^ 4 = 128000000000000 ∧ (400 : Int) ^ 4 = 25600000000 := by decide +kernel
theorem pow400 {m : Nat} (hm : m ≤ 4) : 0 ≤ ((m : Int) * 100) ^ m ∧ ((m : Int) * 100) ^ m ≤ 400 ^ 4 := by
  have b1 : ((m : Int) * 100) ^ m ≤ 400 ^ m := pw_base (by omega) (by omega) m
  have b2 : (400 : Int) ^ m ≤ 400 ^ 4 := pw_mono (by decide) hm
  exact ⟨Int.pow_nonneg (by omega), by omega⟩
theorem net_det1 {m p : Nat} {R : Nat → Nat → Rat} {v : Int} {S : Nat → Bool} (hm : m ≤ 4) (hR : ∀ r c, r < m → c < m → Wh (R r c) (if c = p then 5000 * 100 else 100)) (hv : ((v : Int) : Rat) = wed m R m S) : -128000000000000 ≤ v ∧ v ≤ 128000000000000 := by
  obtain ⟨z, z1, z2, z3⟩ := wed_col (i := p) (a := 100) (g := 5000) (by decide) (by decide) m hR S
  rw [← hv] at z1
  have e := Rat.intCast_inj.mp z1
  have b := pow400 hm
  have q := p400
  generalize ((m : Int) * 100) ^ m = P at *
  generalize (400 : Int) ^ 4 = B at *
  by_cases q : S p = true
  · rw [if_pos q] at z2 z3; omega
  · rw [if_neg q] at z2 z3; omega
theorem net_det0 {m : Nat} {R : Nat → Nat → Rat} {v : Int} {S : Nat → Bool} (hm : m ≤ 4) (hR : ∀ r c, r < m → c < m → Wh (R r c) 100) (hv : ((v : Int) : Rat) = wed m R m S) : -25600000000 ≤ v ∧ v ≤ 25600000000 := by
  obtain ⟨z, z1, z2, z3⟩ := wed_whole (a := 100) (by decide) m hR S
  rw [← hv] at z1
  have e := Rat.intCast_inj.mp z1
  have b := pow400 hm
  have q := p400
  generalize ((m : Int) * 100) ^ m = P at *
  generalize (400 : Int) ^ 4 = B at *
  omega
