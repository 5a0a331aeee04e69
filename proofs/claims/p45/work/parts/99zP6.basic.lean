/-! The law's cells, and its smallest methods. -/
def LF (S : List Nat) (C C' : LMem) : Prop := ∀ k, (C k).1 ≠ 0 → (C' k).1 = (C k).1 ∧ (C' k).2.1 = (C k).2.1 ∧ (k ∉ S → C' k = C k)
section LFS
variable {S S' : List Nat} {C C' C'' : LMem} {q i n k : Nat} {v : Int} {f : Nat → Int} {x : LCel}
theorem LF.rf : LF S C C := fun _ _ => ⟨rfl, rfl, fun _ => rfl⟩
theorem LF.tr (h : LF S C C') (g : LF S C' C'') : LF S C C'' := fun k hk => by
  obtain ⟨h1, h2, h3⟩ := h k hk
  obtain ⟨g1, g2, g3⟩ := g k (by rw [h1]; exact hk)
  exact ⟨g1.trans h1, g2.trans h2, fun z => (g3 z).trans (h3 z)⟩
theorem LF.mono (h : LF S C C') (hs : ∀ a, a ∈ S → a ∈ S') : LF S' C C' := fun k hk => by
  obtain ⟨h1, h2, h3⟩ := h k hk
  exact ⟨h1, h2, fun z => h3 fun w => z (hs _ w)⟩
theorem LF.nil (h : LF [] C C') : LF S C C' := h.mono fun a ha => absurd ha List.not_mem_nil
theorem LF.free (h : LF S C C') (hq : (C' q).1 = 0) : (C q).1 = 0 := by
  by_cases e : (C q).1 = 0
  · exact e
  · rw [(h q e).1] at hq; exact absurd hq e
theorem LF.set (h : LF S C C') (hq : (C q).1 = 0) : LF S C (cst C' q x) := fun k hk => by
  have e : k ≠ q := fun z => hk (by rw [z]; exact hq)
  rw [cst_ne e]
  exact h k hk
theorem LF.new (h : LF S C C') (hq : (C' q).1 = 0) : LF S C (cst C' q x) := h.set (h.free hq)
theorem LF.own (h : LF S C C') (hq : q ∈ S) (hx : C' q = (k, n, f)) {g : Nat → Int} : LF S C (cst C' q (k, n, g)) := fun j hj => by
  by_cases e : j = q
  · subst e
    obtain ⟨h1, h2, h3⟩ := h j hj
    rw [cst_self]
    rw [hx] at h1 h2
    exact ⟨h1, h2, fun z => absurd hq z⟩
  · rw [cst_ne e]
    exact h j hj
theorem LF.at' (h : LF S C C') (hq : q ∉ S) (hx : C q = (k + 1, n, f)) : C' q = (k + 1, n, f) := ((h q (by rw [hx]; exact Nat.succ_ne_zero k)).2.2 hq).trans hx
theorem LF.row (h : LF S C C') (hx : C q = (k + 1, n, f)) : ∃ g, C' q = (k + 1, n, g) := by
  obtain ⟨h1, h2, -⟩ := h q (by rw [hx]; exact Nat.succ_ne_zero k)
  rw [hx] at h1 h2
  exact ⟨(C' q).2.2, Prod.ext h1 (Prod.ext h2 rfl)⟩
theorem cup_of (h : C q = (k, n, f)) : cup C q i v = cst C q (k, n, sr f i v) := by
  unfold cup
  rw [h]
theorem cup_cst : cup (cst C q (k, n, f)) q i v = cst C q (k, n, sr f i v) := by
  unfold cup
  rw [cst_self]
  funext j
  by_cases e : j = q
  · rw [e, cst_self, cst_self]
  · rw [cst_ne e, cst_ne e, cst_ne e]
theorem cst_cst {y : LCel} : cst (cst C q x) q y = cst C q y := by
  funext j
  by_cases e : j = q
  · rw [e, cst_self, cst_self]
  · rw [cst_ne e, cst_ne e, cst_ne e]
theorem cst_swap {r : Nat} {y : LCel} (h : q ≠ r) : cst (cst C q x) r y = cst (cst C r y) q x := by
  funext j
  by_cases e : j = r
  · rw [e, cst_self, cst_ne (Ne.symm h), cst_self]
  · by_cases e2 : j = q
    · rw [e2, cst_ne h, cst_self, cst_self]
    · rw [cst_ne e, cst_ne e2, cst_ne e2, cst_ne e]
end LFS
/-- a row of two longs that holds a fraction -/
def FL (C : LMem) (q : Nat) (x : Rat) : Prop := ∃ f, C q = (2, 2, f) ∧ f 0 = x.num ∧ f 1 = (x.den : Int)
theorem FL.kept {C C' : LMem} {S : List Nat} {q : Nat} {x : Rat} (h : FL C q x) (hf : LF S C C') (hq : q ∉ S) : FL C' q x := by
  obtain ⟨f, h1, h2⟩ := h
  exact ⟨f, hf.at' hq h1, h2⟩
theorem FL.live {C : LMem} {q : Nat} {x : Rat} (h : FL C q x) : (C q).1 ≠ 0 := by
  obtain ⟨f, h1, h2⟩ := h
  rw [h1]
  exact Nat.succ_ne_zero 1
theorem FL.of2 {C : LMem} {q : Nat} {x : Rat} {f : Nat → Int} : FL (cst C q (2, 2, sr (sr f 0 x.num) 1 (x.den : Int))) q x := ⟨_, cst_self, by rw [sr_ne (by decide), sr_same], sr_same⟩
theorem zush_b {x : Int} : 0 ≤ zush x 9 ∧ zush x 9 < 8388608 := by
  unfold zush
  rw [show (2 : Int) ^ (9 : Int).toNat = 512 from by decide]
  omega
theorem s_next {d r : Nat} {M : Mem} {C : LMem} {f : Nat → Int} (hr : C r = (1, 1, f)) : LPo (d + 1) cW_next [.inr (.inr (.inl (r + 1)))] M C (fun v m c => m = M ∧ (0 ≤ v ∧ v < 8388608) ∧ ∃ g, c = cst C r (1, 1, g)) := fun Q hQ => by
  refine e_W_next (b_W_next_0 ?_)
  simp only [cup_of hr, cup_cst, cst_self, hr]
  refine ⟨trivial, ⟨by omega, by omega⟩, trivial, ⟨by omega, by omega⟩, trivial, ⟨by omega, by omega⟩, ?_⟩
  exact hQ _ _ _ ⟨rfl, zush_b, _, rfl⟩
theorem s_from {d r : Nat} {M : Mem} {C : LMem} {f : Nat → Int} {lo hi : Int} (hr : C r = (1, 1, f)) (h1 : lo ≤ hi) (h2 : hi - lo < 2147483647) : LPo (d + 2) cW_from [.inr (.inr (.inl (r + 1))), .inl lo, .inl hi] M C (fun v m c => m = M ∧ (lo ≤ v ∧ v ≤ hi) ∧ ∃ g, c = cst C r (1, 1, g)) := fun Q hQ => by
  refine e_W_from (b_W_from_0 ⟨by omega, ?_⟩)
  refine s_next hr _ ?_
  rintro v m c ⟨rfl, hv, hc⟩
  refine ⟨⟨by omega, by omega⟩, ⟨by omega, by omega⟩, hQ _ _ _ ⟨rfl, ?_, hc⟩⟩
  have a1 := Int.emod_nonneg v (b := hi - lo + 1) (by omega)
  have a2 := Int.emod_lt_of_pos v (b := hi - lo + 1) (by omega)
  omega
theorem gcd_step {a b : Int} : Int.gcd b (a.tmod b) = Int.gcd a b := by
  show Nat.gcd b.natAbs (a.tmod b).natAbs = Nat.gcd a.natAbs b.natAbs
  rw [Int.natAbs_tmod, Nat.gcd_comm, ← Nat.gcd_rec, Nat.gcd_comm]
theorem s_common0 {d : Nat} {M : Mem} {C : LMem} {a : Int} (ha : -9223372036854775808 < a ∧ a < 9223372036854775808) : LPo (d + 1) cW_common [.inr (.inl a), .inr (.inl 0)] M C (fun v m c => m = M ∧ c = C ∧ v = (Int.gcd a 0 : Int)) := fun Q hQ => by
  refine e_W_common (b_W_common_0 ⟨⟨by omega, by omega⟩, fun h => absurd rfl h, fun _ => ⟨ha, hQ _ _ _ ⟨rfl, rfl, ?_⟩⟩⟩)
  rw [Int.gcd_zero_right]
theorem s_common : ∀ (n : Nat) {d : Nat} {M : Mem} {C : LMem} {a b : Int}, (-9223372036854775808 < a ∧ a < 9223372036854775808) → (-9223372036854775808 < b ∧ b < 9223372036854775808) → b.natAbs < 2 ^ n → LPo (d + (2 * n + 1)) cW_common [.inr (.inl a), .inr (.inl b)] M C (fun v m c => m = M ∧ c = C ∧ v = (Int.gcd a b : Int))
  | 0, d, M, C, a, b, ha, hb, hn => by
    have hb0 : b = 0 := by have : b.natAbs < 1 := hn; omega
    subst hb0
    exact s_common0 ha
  | n + 1, d, M, C, a, b, ha, hb, hn => by
    by_cases hb0 : b = 0
    · subst hb0
      exact (s_common0 (d := d + (2 * (n + 1))) ha)
    have h1 : (a.tmod b).natAbs < b.natAbs := by
      rw [Int.natAbs_tmod]
      exact Nat.mod_lt _ (by omega)
    intro Q hQ
    refine e_W_common (b_W_common_0 ⟨⟨by omega, by omega⟩, fun _ => ⟨ha, ⟨⟨by omega, by omega⟩, hb0⟩, by omega, ?_⟩, fun h => absurd hb0 h⟩)
    by_cases hr : a.tmod b = 0
    · rw [hr]
      refine (s_common0 (d := d + (2 * n + 1)) hb) _ ?_
      rintro v m c ⟨rfl, rfl, rfl⟩
      refine hQ _ _ _ ⟨rfl, rfl, ?_⟩
      rw [← gcd_step (a := a) (b := b), hr]
    · have h2 : 2 * (b.tmod (a.tmod b)).natAbs < b.natAbs := by
        rw [Int.natAbs_tmod]
        have h3 := Nat.mod_lt b.natAbs (y := (a.tmod b).natAbs) (by omega)
        have h4 := Nat.div_add_mod b.natAbs (a.tmod b).natAbs
        have h5 : 1 ≤ b.natAbs / (a.tmod b).natAbs := (Nat.one_le_div_iff (by omega)).mpr (by omega)
        have h6 : (a.tmod b).natAbs * 1 ≤ (a.tmod b).natAbs * (b.natAbs / (a.tmod b).natAbs) := Nat.mul_le_mul_left _ h5
        omega
      have h7 : (2 : Nat) ^ (n + 1) = 2 ^ n * 2 := Nat.pow_succ _ _
      refine e_W_common (d := d + (2 * n + 1)) (b_W_common_0 ⟨⟨by omega, by omega⟩, fun _ => ⟨hb, ⟨⟨by omega, by omega⟩, hr⟩, by omega, ?_⟩, fun h => absurd hr h⟩)
      refine s_common n (d := d) (a := a.tmod b) (b := b.tmod (a.tmod b)) ⟨by omega, by omega⟩ ⟨by omega, by omega⟩ (by omega) _ ?_
      rintro v m c ⟨rfl, rfl, rfl⟩
      refine hQ _ _ _ ⟨rfl, rfl, ?_⟩
      rw [gcd_step, gcd_step]

theorem R_def {a b : Int} (hb : 0 < b) : ((a : Rat) / (b : Rat)).num = a.tdiv (Int.gcd a b : Int) ∧ ((((a : Rat) / (b : Rat)).den : Nat) : Int) = b.tdiv (Int.gcd a b : Int) := by
  have e : (a : Rat) / (b : Rat) = mkRat a b.toNat := by
    rw [Rat.mkRat_eq_div]
    have : ((b.toNat : Nat) : Rat) = (b : Rat) := by
      rw [← Rat.intCast_natCast, Int.toNat_of_nonneg (by omega)]
    rw [this]
  have hb0 : ¬ b.toNat = 0 := by omega
  have hg : b.toNat.gcd a.natAbs = Int.gcd a b := by
    show _ = Nat.gcd a.natAbs b.natAbs
    rw [Nat.gcd_comm, show b.natAbs = b.toNat by omega]
  have hp : 0 < Int.gcd a b := Int.gcd_pos_of_ne_zero_right _ (by omega)
  rw [e, Rat.num_mkRat, if_neg hb0, Rat.den_mkRat, if_neg hb0, hg]
  constructor
  · obtain ⟨c, hc⟩ := Int.gcd_dvd_left (a := a) (b := b)
    generalize Int.gcd a b = g at *
    rw [hc, Int.mul_ediv_cancel_left _ (by omega), Int.mul_tdiv_cancel_left _ (by omega)]
  · obtain ⟨c, hc⟩ := Int.gcd_dvd_right (a := a) (b := b)
    generalize Int.gcd a b = g at *
    have h1 : ((b.toNat / g : Nat) : Int) = b / (g : Int) := by
      rw [Int.natCast_ediv, Int.toNat_of_nonneg (by omega)]
    rw [h1, hc, Int.mul_ediv_cancel_left _ (by omega), Int.mul_tdiv_cancel_left _ (by omega)]
theorem R_neg {a b : Int} : (((-a : Int) : Rat) / ((-b : Int) : Rat)) = (a : Rat) / (b : Rat) := by
  rw [Rat.intCast_neg, Rat.intCast_neg]
  grind
abbrev A63 (a : Int) : Prop := -9223372036854775808 < a ∧ a < 9223372036854775808
theorem s_of {d : Nat} {M : Mem} {C : LMem} {a b : Int} (ha : A63 a) (hb : A63 b) (h0 : b ≠ 0) : LPo (d + 128) cW_of [.inr (.inl a), .inr (.inl b)] M C (fun v m c => m = M ∧ ∃ q : Nat, v = ((q + 1 : Nat) : Int) ∧ (C q).1 = 0 ∧ LF [] C c ∧ FL c q ((a : Rat) / (b : Rat))) := fun Q hQ => by
  refine e_W_of (b_W_of_0 ⟨by omega, ?_⟩)
  refine s_common 63 (d := d) ha hb (by have : (2 : Nat) ^ 63 = 9223372036854775808 := by decide
                                        omega) _ ?_
  rintro v m c ⟨rfl, rfl, rfl⟩
  have hp : 0 < Int.gcd a b := Int.gcd_pos_of_ne_zero_right _ h0
  have hle : (Int.gcd a b : Int) ≤ b.natAbs := by
    have := Nat.le_of_dvd (by omega) (Int.gcd_dvd_natAbs_right a b)
    omega
  refine ⟨⟨by omega, by omega⟩, fun hn => ⟨by omega, fun q hq => ?_⟩, fun hn => ⟨by omega, fun q hq => ?_⟩⟩
  · simp only [cup_cst, cst_self]
    refine ⟨ha, ⟨⟨by omega, by omega⟩, by omega⟩, trivial, ⟨by omega, by omega⟩, hb, trivial, ⟨by omega, by omega⟩, hQ _ _ _ ⟨rfl, q, rfl, hq, LF.rf.new hq, ?_⟩⟩
    obtain ⟨e1, e2⟩ := R_def (a := a) (b := b) (by omega)
    rw [← e1, ← e2]
    exact FL.of2
  · simp only [cup_cst, cst_self]
    refine ⟨⟨by omega, by omega⟩, ⟨⟨by omega, by omega⟩, by omega⟩, trivial, ⟨by omega, by omega⟩, ⟨by omega, by omega⟩, trivial, ⟨by omega, by omega⟩, hQ _ _ _ ⟨rfl, q, rfl, hq, LF.rf.new hq, ?_⟩⟩
    obtain ⟨e1, e2⟩ := R_def (a := -a) (b := -b) (by omega)
    rw [Int.gcd_neg, Int.neg_gcd] at e1 e2
    rw [← e1, ← e2, R_neg]
    exact FL.of2
theorem R_val {x : Rat} : (x.num : Rat) / ((x.den : Int) : Rat) = x := by
  rw [Rat.intCast_natCast, ← Rat.mkRat_eq_div]
  exact Rat.mkRat_self x
theorem den_ne {x : Rat} : ((x.den : Int) : Rat) ≠ 0 := by
  have := x.den_pos
  rw [Rat.intCast_natCast]
  exact fun h => absurd (Rat.natCast_eq_zero_iff.mp h) (by omega)
/-- what two fractions may be, so that their sum, their product and their quotient stay within longs -/
def okS (x y : Rat) : Prop := A63 (x.num * y.den + y.num * x.den) ∧ (x.den : Int) * y.den < 9223372036854775808
def okT (x y : Rat) : Prop := A63 (x.num * y.num) ∧ (x.den : Int) * y.den < 9223372036854775808
def okD (x y : Rat) : Prop := A63 (x.num * y.den) ∧ A63 ((x.den : Int) * y.num) ∧ y ≠ 0
theorem s_sum {d r s : Nat} {M : Mem} {C : LMem} {x y : Rat} (hx : FL C r x) (hy : FL C s y) (h : okS x y) : LPo (d + 129) cW_sum [.inr (.inr (.inl (r + 1))), .inr (.inr (.inl (s + 1)))] M C (fun v m c => m = M ∧ ∃ q : Nat, v = ((q + 1 : Nat) : Int) ∧ (C q).1 = 0 ∧ LF [] C c ∧ FL c q (x + y)) := fun Q hQ => by
  obtain ⟨f, a1, a2, a3⟩ := hx
  obtain ⟨g, b1, b2, b3⟩ := hy
  have hd := x.den_pos
  have he := y.den_pos
  have hp : 0 < (x.den : Int) * y.den := Int.mul_pos (by omega) (by omega)
  refine e_W_sum (b_W_sum_0 ?_)
  simp only [a1, b1, a2, a3, b2, b3]
  refine ⟨trivial, ⟨by omega, by omega⟩, trivial, ⟨by omega, by omega⟩, ⟨by omega, by omega⟩, ⟨by omega, by omega⟩, by omega, ?_⟩
  refine s_of (d := d) h.1 ⟨by omega, h.2⟩ (by omega) _ ?_
  rintro v m c ⟨rfl, q, rfl, hq, hf, hl⟩
  refine hQ _ _ _ ⟨rfl, q, by omega, hq, hf, ?_⟩
  have e : (((x.num * y.den + y.num * x.den : Int)) : Rat) / ((((x.den : Int) * y.den : Int)) : Rat) = x + y := by
    have h1 := R_val (x := x)
    have h2 := R_val (x := y)
    have h3 := den_ne (x := x)
    have h4 := den_ne (x := y)
    rw [Rat.intCast_add, Rat.intCast_mul, Rat.intCast_mul, Rat.intCast_mul]
    generalize ((x.den : Int) : Rat) = p at *
    generalize ((y.den : Int) : Rat) = u at *
    generalize ((x.num : Int) : Rat) = a at *
    generalize ((y.num : Int) : Rat) = b at *
    subst h1; subst h2
    grind
  rw [e] at hl
  exact hl
theorem s_times {d r s : Nat} {M : Mem} {C : LMem} {x y : Rat} (hx : FL C r x) (hy : FL C s y) (h : okT x y) : LPo (d + 129) cW_times [.inr (.inr (.inl (r + 1))), .inr (.inr (.inl (s + 1)))] M C (fun v m c => m = M ∧ ∃ q : Nat, v = ((q + 1 : Nat) : Int) ∧ (C q).1 = 0 ∧ LF [] C c ∧ FL c q (x * y)) := fun Q hQ => by
  obtain ⟨f, a1, a2, a3⟩ := hx
  obtain ⟨g, b1, b2, b3⟩ := hy
  have hd := x.den_pos
  have he := y.den_pos
  have hp : 0 < (x.den : Int) * y.den := Int.mul_pos (by omega) (by omega)
  refine e_W_times (b_W_times_0 ?_)
  simp only [a1, b1, a2, a3, b2, b3]
  refine ⟨trivial, ⟨by omega, by omega⟩, trivial, ⟨by omega, by omega⟩, ⟨by omega, by omega⟩, ⟨by omega, by omega⟩, by omega, ?_⟩
  refine s_of (d := d) h.1 ⟨by omega, h.2⟩ (by omega) _ ?_
  rintro v m c ⟨rfl, q, rfl, hq, hf, hl⟩
  refine hQ _ _ _ ⟨rfl, q, by omega, hq, hf, ?_⟩
  have e : (((x.num * y.num : Int)) : Rat) / ((((x.den : Int) * y.den : Int)) : Rat) = x * y := by
    have h1 := R_val (x := x)
    have h2 := R_val (x := y)
    have h3 := den_ne (x := x)
    have h4 := den_ne (x := y)
    rw [Rat.intCast_mul, Rat.intCast_mul]
    generalize ((x.den : Int) : Rat) = p at *
    generalize ((y.den : Int) : Rat) = u at *
    generalize ((x.num : Int) : Rat) = a at *
    generalize ((y.num : Int) : Rat) = b at *
    subst h1; subst h2
    grind
  rw [e] at hl
  exact hl
theorem s_by {d r s : Nat} {M : Mem} {C : LMem} {x y : Rat} (hx : FL C r x) (hy : FL C s y) (h : okD x y) : LPo (d + 129) cW_by [.inr (.inr (.inl (r + 1))), .inr (.inr (.inl (s + 1)))] M C (fun v m c => m = M ∧ ∃ q : Nat, v = ((q + 1 : Nat) : Int) ∧ (C q).1 = 0 ∧ LF [] C c ∧ FL c q (x / y)) := fun Q hQ => by
  obtain ⟨f, a1, a2, a3⟩ := hx
  obtain ⟨g, b1, b2, b3⟩ := hy
  have hd := x.den_pos
  have hy0 : y.num ≠ 0 := fun z => h.2.2 (Rat.num_eq_zero.mp z)
  have hp : (x.den : Int) * y.num ≠ 0 := Int.mul_ne_zero (by omega) hy0
  refine e_W_by (b_W_by_0 ?_)
  simp only [a1, b1, a2, a3, b2, b3]
  refine ⟨trivial, ⟨by omega, by omega⟩, trivial, ⟨by omega, by omega⟩, ⟨by omega, by omega⟩, ⟨by omega, by omega⟩, by omega, ?_⟩
  refine s_of (d := d) h.1 h.2.1 hp _ ?_
  rintro v m c ⟨rfl, q, rfl, hq, hf, hl⟩
  refine hQ _ _ _ ⟨rfl, q, by omega, hq, hf, ?_⟩
  have e : (((x.num * y.den : Int)) : Rat) / ((((x.den : Int) * y.num : Int)) : Rat) = x / y := by
    have h1 := R_val (x := x)
    have h2 := R_val (x := y)
    have h3 := den_ne (x := x)
    have h4 := den_ne (x := y)
    have h5 : ((y.num : Int) : Rat) ≠ 0 := fun z => hy0 (Rat.intCast_eq_zero_iff.mp z)
    rw [Rat.intCast_mul, Rat.intCast_mul]
    generalize ((x.den : Int) : Rat) = p at *
    generalize ((y.den : Int) : Rat) = u at *
    generalize ((x.num : Int) : Rat) = a at *
    generalize ((y.num : Int) : Rat) = b at *
    rw [← h1, ← h2]
    grind
  rw [e] at hl
  exact hl

/-- a fraction of longs -/
def ok63 (x : Rat) : Prop := A63 x.num ∧ (x.den : Int) < 9223372036854775808
theorem s_isLike {d r s : Nat} {M : Mem} {C : LMem} {x y : Rat} (hx : FL C r x) (hy : FL C s y) (ox : ok63 x) (oy : ok63 y) : LPo (d + 1) cW_isLike [.inr (.inr (.inl (r + 1))), .inr (.inr (.inl (s + 1)))] M C (fun v m c => m = M ∧ c = C ∧ ((v = 1 ∧ x = y) ∨ (v = 0 ∧ x ≠ y))) := fun Q hQ => by
  obtain ⟨f, a1, a2, a3⟩ := hx
  obtain ⟨g, b1, b2, b3⟩ := hy
  obtain ⟨o1, o2⟩ := ox
  obtain ⟨o3, o4⟩ := oy
  have hd := x.den_pos
  have he := y.den_pos
  refine e_W_isLike (b_W_isLike_0 ?_)
  simp only [a1, b1, a2, a3, b2, b3]
  refine ⟨trivial, ⟨by omega, by omega⟩, trivial, ⟨by omega, by omega⟩, ⟨by omega, by omega⟩, ⟨by omega, by omega⟩, fun h => hQ _ _ _ ⟨rfl, rfl, Or.inr ⟨rfl, fun z => h (by rw [z])⟩⟩, fun h => ⟨⟨by omega, by omega⟩, ⟨by omega, by omega⟩, ⟨by omega, by omega⟩, ⟨by omega, by omega⟩, fun h2 => hQ _ _ _ ⟨rfl, rfl, Or.inr ⟨rfl, fun z => h2 (by rw [z])⟩⟩, fun h2 => hQ _ _ _ ⟨rfl, rfl, Or.inl ⟨rfl, ?_⟩⟩⟩⟩
  have h3 := Decidable.not_not.mp h
  have h4 := Decidable.not_not.mp h2
  exact Rat.ext h3 (by omega)
theorem s_came {d : Nat} {M : Mem} {C : LMem} {x : Rat} (hc : CF M x) (ox : ok63 x) : LPo (d + 129) cW_came [oH, .inl x.num.sign] M C (fun v m c => m = M ∧ ∃ q : Nat, v = ((q + 1 : Nat) : Int) ∧ (C q).1 = 0 ∧ LF [] C c ∧ FL c q x) := fun Q hQ => by
  obtain ⟨o1, o2⟩ := ox
  have hd := x.den_pos
  have hs := sign_r x.num
  refine e_W_came (b_W_came_0 ⟨⟨by omega, by omega⟩, fun _ => ⟨by omega, fun q hq => ⟨by omega, ?_⟩⟩, fun h => absurd (by omega) h⟩)
  refine d_result hc (b := 0) ⟨by omega, by omega⟩ o1.2 o2 _ ?_
  rintro v m ⟨rfl, hv⟩
  rw [if_pos rfl] at hv
  subst hv
  simp only [Rl, cup_cst, cst_self]
  refine ⟨trivial, ⟨by omega, by omega⟩, by omega, ?_⟩
  refine d_result hc (b := 1) ⟨by omega, by omega⟩ o1.2 o2 _ ?_
  rintro v m ⟨rfl, hv⟩
  rw [if_neg (by decide)] at hv
  subst hv
  simp only [Rl, cup_cst, cst_self]
  have e0 : sr (sr (fun _ => (0 : Int)) 0 x.num) 1 (x.den : Int) 0 = x.num := by rw [sr_ne (by decide), sr_same]
  have e1 : sr (sr (fun _ => (0 : Int)) 0 x.num) 1 (x.den : Int) 1 = x.den := sr_same
  rw [e0, e1]
  refine ⟨trivial, ⟨by omega, by omega⟩, trivial, ⟨by omega, by omega⟩, ⟨by omega, by omega⟩, ⟨by omega, by omega⟩, fun h => absurd rfl h, fun _ => ⟨⟨by omega, by omega⟩, ⟨by omega, by omega⟩, fun h => absurd h (by omega), fun _ => ⟨by omega, ?_⟩⟩⟩
  refine s_common 63 (d := d + 1) o1 ⟨by omega, o2⟩ (by have : (2 : Nat) ^ 63 = 9223372036854775808 := by decide
                                                        omega) _ ?_
  rintro v m c ⟨rfl, rfl, rfl⟩
  have hg : (Int.gcd x.num (x.den : Int) : Int) = 1 := by
    have := x.reduced
    show ((Nat.gcd x.num.natAbs (x.den : Int).natAbs : Nat) : Int) = 1
    rw [Int.natAbs_natCast, this]
    rfl
  rw [hg]
  exact ⟨⟨by omega, by omega⟩, fun h => absurd rfl h, fun _ => hQ _ _ _ ⟨rfl, q, rfl, hq, LF.rf.new hq, FL.of2⟩⟩
theorem s_cameNo {d : Nat} {M : Mem} {C : LMem} {i : Int} (hi : R32 i) (h : i ≤ -1000000) : LPo (d + 1) cW_came [oH, .inl i] M C (fun v m c => m = M ∧ c = C ∧ v = 0) := fun Q hQ =>
  e_W_came (b_W_came_0 ⟨hi, fun z => absurd z (by omega), fun _ => hQ _ _ _ ⟨rfl, rfl, rfl⟩⟩)
theorem s_isCame {d r : Nat} {M : Mem} {C : LMem} {x : Rat} (hc : CF M x) (ox : ok63 x) (hy : FL C r x) : LPo (d + 130) cW_isCame [oH, .inl x.num.sign, .inr (.inr (.inl (r + 1)))] M C (fun v m c => m = M ∧ v = 1 ∧ LF [] C c) := fun Q hQ => by
  refine e_W_isCame (b_W_isCame_0 ⟨by omega, ?_⟩)
  refine s_came (d := d) hc ox _ ?_
  rintro v m c ⟨rfl, q, rfl, hq, hf, hl⟩
  refine ⟨fun h => absurd h (by omega), fun _ => ⟨by omega, ?_⟩⟩
  rw [show ((q + 1 : Nat) : Int).toNat = q + 1 by omega]
  refine s_isLike (d := d + 128) hl (hy.kept hf List.not_mem_nil) ox ox _ ?_
  rintro v m c' ⟨rfl, rfl, ⟨rfl, -⟩ | ⟨-, h⟩⟩
  · exact ⟨⟨by omega, by omega⟩, fun h => absurd h (by decide), fun _ => hQ _ _ _ ⟨rfl, rfl, hf⟩⟩
  · exact absurd rfl h
