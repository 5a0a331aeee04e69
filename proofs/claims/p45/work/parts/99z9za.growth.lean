/-! Nets: growth. -/
/-- who counts as full behind so many rounds -/
def gSeq (n : Nat) (C S : Nat → Int) (A : Nat → Nat → Int) : Nat → Nat → Bool
  | 0 => fun _ => true
  | t + 1 => fun k => gSeq n C S A t k && !(decide (nsQ n C S A (gSeq n C S A t) k ≤ ((S k : Int) : Rat)))
def gStop (n : Nat) (C S : Nat → Int) (A : Nat → Nat → Int) (t : Nat) : Prop := ∀ k, k < n → gSeq n C S A (t + 1) k = gSeq n C S A t k
def gFix (n : Nat) (C S : Nat → Int) (A : Nat → Nat → Int) (f : Nat → Bool) : Prop := ∃ t, gStop n C S A t ∧ ∀ k, k < n → f k = gSeq n C S A t k
theorem gSeq_stay {n : Nat} {C S : Nat → Int} {A : Nat → Nat → Int} {t : Nat} (h : gStop n C S A t) : ∀ u, ∀ k, k < n → gSeq n C S A (t + u) k = gSeq n C S A t k := by
  intro u
  induction u with
  | zero => intro k _; rfl
  | succ u ih =>
    intro k hk
    show (gSeq n C S A (t + u) k && !(decide (nsQ n C S A (gSeq n C S A (t + u)) k ≤ ((S k : Int) : Rat)))) = _
    rw [ih k hk, nsQ_congr ih hk]
    exact h k hk
theorem gFix.uniq {n : Nat} {C S : Nat → Int} {A : Nat → Nat → Int} {f g : Nat → Bool} (hf : gFix n C S A f) (hg : gFix n C S A g) : ∀ k, k < n → f k = g k := by
  obtain ⟨t, t1, t2⟩ := hf
  obtain ⟨u, u1, u2⟩ := hg
  intro k hk
  rw [t2 k hk, u2 k hk]
  rcases Nat.le_total t u with h | h
  · obtain ⟨w, rfl⟩ := Nat.exists_eq_add_of_le h
    exact (gSeq_stay t1 w k hk).symm
  · obtain ⟨w, rfl⟩ := Nat.exists_eq_add_of_le h
    exact gSeq_stay u1 w k hk
theorem clr_all : ∀ s, s < 128 → ∀ k, k < 7 → zand ((s : Nat) : Int) (zxor ((1 : Int) * 2 ^ (((k : Nat) : Int).toNat)) (-1)) = ((s &&& (127 ^^^ 2 ^ k) : Nat) : Int) := by decide +kernel
theorem clr_bit {s k j : Nat} (hk : k < 7) (hs : s < 128) : (s &&& (127 ^^^ 2 ^ k)).testBit j = (s.testBit j && !(decide (k = j))) := by
  rw [Nat.testBit_and, Nat.testBit_xor, bit_pow, show 127 = 2 ^ 7 - 1 from rfl, Nat.testBit_two_pow_sub_one]
  by_cases h : j < 7
  · rw [decide_eq_true h, Bool.true_xor]
  · have : s.testBit j = false := Nat.testBit_lt_two_pow (Nat.lt_of_lt_of_le (show s < 2 ^ 7 from hs) (Nat.pow_le_pow_right (n := 2) (by decide) (show 7 ≤ j by omega)))
    rw [this, Bool.false_and, Bool.false_and]
theorem cnt_strict {s t n : Nat} (h : ∀ j, s.testBit j = true → t.testBit j = true) (ht : ∀ j, t.testBit j = true → j < n) (hne : s ≠ t) : cnt s n < cnt t n := by
  refine Classical.byContradiction fun hn => hne (bits_eq fun j => ⟨h j, fun hj => Classical.byContradiction fun hs => ?_⟩)
  have := cnt_lt h hs hj n (ht j hj)
  omega
/-- the set of a round: bits of gSeq -/
def gBits (n : Nat) (C S : Nat → Int) (A : Nat → Nat → Int) (t F : Nat) : Prop := F < 128 ∧ ∀ j, F.testBit j = true ↔ j < n ∧ gSeq n C S A t j = true
theorem gBits.eq {n t F : Nat} {C S : Nat → Int} {A : Nat → Nat → Int} (h : gBits n C S A t F) : ∀ k, k < n → bt F k = gSeq n C S A t k := by
  intro k hk
  have := h.2 k
  show F.testBit k = _
  cases h1 : F.testBit k <;> cases h2 : gSeq n C S A t k <;> simp_all
theorem NSol.congr {M : Mem} {n : Nat} {C S : Nat → Int} {A : Nat → Nat → Int} {f g : Nat → Bool} (h : NSol M n C S A f) (he : ∀ k, k < n → f k = g k) : NSol M n C S A g := by
  obtain ⟨X, Y, y1, y2, y3, hx⟩ := h
  refine ⟨X, Y, y1, y2, y3, fun i hi => ?_⟩
  rw [← nsQ_congr he hi]
  exact hx i hi
theorem NC.sol {M M' : Mem} {n : Nat} {C S : Nat → Int} {A : Nat → Nat → Int} (h : NC M n C S A) (hf : Fr numC M M') : NC M' n C S A := h.num hf
theorem s_solveGrowth {d : Nat} {M : Mem} {n : Nat} {C S : Nat → Int} {A : Nat → Nat → Int} (hN : NC M n C S A) (hO : nOk n C S A) (hR : ratesOk n A) : Post (d + 5) cN_solveGrowth [oN] M (fun _ M' => Fr solN M M' ∧ NC M' n C S A ∧ ∃ f, gFix n C S A f ∧ NSol M' n C S A f) := by
  intro Q hQ
  have h4 := hO.1
  have pr := pow_r (n := n) (by omega)
  have e2 : (1 : Int) * 2 ^ n - 1 = ((2 ^ n - 1 : Nat) : Int) := by
    have := Nat.two_pow_pos n
    have e : ((2 ^ n : Nat) : Int) = (2 : Int) ^ n := by push_cast; rfl
    rw [Int.one_mul, ← e]
    omega
  refine e_N_solveGrowth (b_N_solveGrowth_0 ?_)
  rw [hN.1, Int.toNat_natCast, e2]
  refine ⟨⟨by omega, by omega⟩, ?_⟩
  have outer : ∀ (c r F t : Nat), r + c ≤ n + 1 → cnt F n < c → gBits n C S A t F → ∀ M1 o3 o4, Fr solN M M1 → NC M1 n C S A → L_N_solveGrowth_9 (d + 4) Q M1 (F : Int) (r : Int) o3 o4 := by
    intro c
    induction c with
    | zero => intro r F t _ h; exact absurd h (Nat.not_lt_zero _)
    | succ c ih =>
      intro r F t hr hc hF M1 o3 o4 f1 N1
      have hF1 := hF.1
      refine b_N_solveGrowth_9 ?_
      rw [N1.1]
      refine ⟨⟨by omega, by omega⟩, ⟨by omega, by omega⟩, fun z => absurd z (by omega), fun _ => ?_⟩
      refine (s_Nsolve (d := d) N1 hO hR hF.1).cal fun v2 M2 hM2 => ?_
      obtain ⟨f2, N2, s2⟩ := hM2
      have s2 := s2.congr hF.eq
      have s2' := s2
      obtain ⟨X, Y, y1, y2, y3, hx⟩ := s2
      have inner : ∀ (g k : Nat), k + g = n → ∀ st : Nat, st < 128 → (∀ j, st.testBit j = true → j < n) → (∀ j, j < n → st.testBit j = if j < k then gSeq n C S A (t + 1) j else gSeq n C S A t j) → L_N_solveGrowth_20 (d + 4) Q M2 (F : Int) (r : Int) (st : Int) (k : Int) := by
        intro g
        induction g with
        | zero =>
          intro k hk st hs hn hb
          have hk : k = n := by omega
          subst hk
          have hst : gBits k C S A (t + 1) st := ⟨hs, fun j => by
            constructor
            · intro h
              have hj := hn j h
              refine ⟨hj, ?_⟩
              rw [hb j hj, if_pos hj] at h
              exact h
            · rintro ⟨hj, h⟩
              rw [hb j hj, if_pos hj]
              exact h⟩
          refine b_N_solveGrowth_20 ?_
          rw [N2.1, show (r : Int) + 1 = ((r + 1 : Nat) : Int) by omega]
          refine ⟨⟨by omega, by omega⟩, ⟨by omega, by omega⟩, fun _ => ⟨⟨by omega, by omega⟩, ⟨by omega, by omega⟩, fun z => ?_, fun z => ?_⟩, fun z => absurd (Int.le_refl _) z⟩
          · have sub : ∀ j, st.testBit j = true → F.testBit j = true := fun j h => by
              obtain ⟨h1, h2⟩ := (hst.2 j).mp h
              refine (hF.2 j).mpr ⟨h1, ?_⟩
              have h2 : (gSeq k C S A t j && !(decide (nsQ k C S A (gSeq k C S A t) j ≤ ((S j : Int) : Rat)))) = true := h2
              rw [Bool.and_eq_true] at h2
              exact h2.1
            have := cnt_strict sub (fun j h => ((hF.2 j).mp h).1) (fun e => z (by rw [e]))
            exact ih (r + 1) st (t + 1) (by omega) (by omega) hst M2 _ _ (f1.tr f2) N2
          · have e : st = F := by omega
            refine hQ _ _ ⟨f1.tr f2, N2, _, ⟨t, fun j hj => ?_, fun _ _ => rfl⟩, s2'⟩
            rw [← hst.eq j hj, ← hF.eq j hj, e]
        | succ g ihg =>
          intro k hk st hs hn hb
          obtain ⟨x1, x2, x3⟩ := hx k (by omega)
          have hS := hO.2.2.2.2 k (by omega)
          have p0 : 0 ≤ S k * (Y : Int) := Int.mul_nonneg (by omega) (by omega)
          have p1 : S k * (Y : Int) ≤ 1000 * 25600000000 := Int.mul_le_mul (by omega) (by omega) (by omega) (by decide)
          have hle := mk_le (X := X k) (s := S k) y2
          rw [x3] at hle
          have nx : ∀ st' : Nat, st' < 128 → (∀ j, st'.testBit j = true → st.testBit j = true) → (∀ j, j ≠ k → st'.testBit j = st.testBit j) → st'.testBit k = gSeq n C S A (t + 1) k → L_N_solveGrowth_20 (d + 4) Q M2 (F : Int) (r : Int) (st' : Int) ((k : Int) + 1) := fun st' h1 h2 h3 h5 => by
            rw [show (k : Int) + 1 = ((k + 1 : Nat) : Int) by omega]
            refine ihg (k + 1) (by omega) st' h1 (fun j hj => hn j (h2 j hj)) fun j hj => ?_
            by_cases e : j = k
            · rw [e, if_pos (Nat.lt_succ_self k)]; exact h5
            · rw [h3 j e, hb j hj]
              by_cases q : j < k
              · rw [if_pos q, if_pos (by omega)]
              · rw [if_neg q, if_neg (by omega)]
          have hbk := hb k (by omega)
          rw [if_neg (Nat.lt_irrefl k)] at hbk
          have e5 : gSeq n C S A (t + 1) k = (gSeq n C S A t k && !(decide (nsQ n C S A (gSeq n C S A t) k ≤ ((S k : Int) : Rat)))) := rfl
          refine b_N_solveGrowth_20 ?_
          rw [N2.1, clr_all st hs k (by omega), Int.toNat_natCast, N2.2.2.1 k (by omega), x1, y1]
          refine ⟨⟨by omega, by omega⟩, ⟨by omega, by omega⟩, fun z => absurd z (by omega), fun _ => ⟨⟨by omega, by omega⟩, ⟨by omega, by omega⟩, ⟨by omega, by omega⟩, ⟨by omega, by omega⟩, fun z => ?_, fun z => ⟨⟨by omega, by omega⟩, ?_⟩⟩⟩
          · refine nx st hs (fun _ h => h) (fun _ _ => rfl) ?_
            rw [e5, hbk, decide_eq_false (fun h => by have := hle.mp h; omega)]
            simp
          · have hcl := fun j => clr_bit (s := st) (k := k) (j := j) (by omega) hs
            refine nx _ (Nat.lt_of_le_of_lt Nat.and_le_left hs) (fun j hj => ?_) (fun j hj => ?_) ?_
            · rw [hcl j, Bool.and_eq_true] at hj; exact hj.1
            · rw [hcl j, decide_eq_false (fun e => hj e.symm)]; simp
            · rw [hcl k, e5, decide_eq_true (show k = k from rfl), decide_eq_true (hle.mpr (by omega))]; simp
      refine inner n 0 (by omega) F hF.1 (fun j hj => ((hF.2 j).mp hj).1) fun j hj => ?_
      rw [if_neg (Nat.not_lt_zero j)]
      exact hF.eq j hj
  refine outer (n + 1) 0 (2 ^ n - 1) 0 (by omega) (by have := cnt_le (s := 2 ^ n - 1) n; omega) ⟨by omega, fun j => ?_⟩ M _ _ Fr.rfl' hN
  rw [Nat.testBit_two_pow_sub_one, decide_eq_true_iff]
  exact ⟨fun h => ⟨h, rfl⟩, fun h => h.1⟩
/-- the growth -/
def grV (q s : Rat) : Rat := if q - s < 0 then 0 else q - s
def grQ (n : Nat) (C S : Nat → Int) (A : Nat → Nat → Int) (i : Nat) (v : Rat) : Prop := ∃ f, gFix n C S A f ∧ v = grV (nsQ n C S A f i) ((S i : Int) : Rat)
theorem grQ.uniq {n i : Nat} {C S : Nat → Int} {A : Nat → Nat → Int} {v w : Rat} (h : grQ n C S A i v) (h2 : grQ n C S A i w) (hi : i < n) : v = w := by
  obtain ⟨f, f1, rfl⟩ := h
  obtain ⟨g, g1, rfl⟩ := h2
  rw [nsQ_congr (f1.uniq g1) hi]
theorem gr_mk {X Y : Nat} {s : Int} (hY : 0 < Y) : mkRat (max ((X : Int) - s * (Y : Int)) 0) Y = grV (mkRat (X : Int) Y) ((s : Int) : Rat) := by
  have hl := mk_lt (X := X) (s := s) hY
  have hy : (((Y : Nat) : Int) : Rat) ≠ 0 := int_ne (by omega)
  unfold grV
  by_cases h : (X : Int) < s * (Y : Int)
  · have h1 := hl.mpr h
    rw [if_pos (by grind), show max ((X : Int) - s * (Y : Int)) 0 = 0 by omega, Rat.zero_mkRat]
  · have h1 : ¬ mkRat (X : Int) Y < ((s : Int) : Rat) := fun q => h (hl.mp q)
    rw [if_neg (by grind), show max ((X : Int) - s * (Y : Int)) 0 = (X : Int) - s * (Y : Int) by omega, Rat.mkRat_eq_div, Rat.mkRat_eq_div, Rat.intCast_sub, Rat.intCast_mul]
    have e2 : ((Y : Nat) : Rat) = (((Y : Nat) : Int) : Rat) := rfl
    rw [e2]
    generalize (((X : Nat) : Int) : Rat) = x at *
    generalize (((Y : Nat) : Int) : Rat) = y at *
    generalize ((s : Int) : Rat) = w at *
    grind
theorem s_Qgrowth {d : Nat} {M : Mem} {n : Nat} {C S : Nat → Int} {A : Nat → Nat → Int} {i : Int} (hN : NC M n C S A) (hO : nOk n C S A) (hz : AZ M) (hi : R32 i) : PostE (d + 6) cQ_growth [oQ, .inl i] M (fun r M' => (¬ inSt n i i ∧ r = .inr 4 ∧ M' = M) ∨ (inSt n i i ∧ ¬ ratesOk n A ∧ r = .inr 5 ∧ Fr [139] M M') ∨ (inSt n i i ∧ ratesOk n A ∧ Fr rateC M M' ∧ NC M' n C S A ∧ AZ M' ∧ ∃ q, grQ n C S A i.toNat q ∧ CF M' q ∧ r = .inl q.num.sign)) := by
  intro Q hQ
  have h4 := hO.1
  refine e_Q_growth (b_Q_growth_0 ?_)
  refine (s_needNodes (d := d + 4) hN.1 h4.2 hi hi).cal fun r1 M1 hM1 => ?_
  rcases hM1 with ⟨h1, rfl, rfl⟩ | ⟨h1, rfl, rfl⟩
  · exact hQ _ _ (Or.inl ⟨h1, rfl, rfl⟩)
  refine (s_needRates (d := d + 1) hN hO).cal fun r1 M2 hM2 => ?_
  obtain ⟨f2, ⟨h2, rfl⟩ | ⟨h2, rfl⟩⟩ := hM2
  · exact hQ _ _ (Or.inr (Or.inl ⟨h1, h2, rfl, f2⟩))
  have hq := h1
  unfold inSt at hq
  obtain ⟨I, rfl⟩ : ∃ I : Nat, i = I := ⟨i.toNat, by omega⟩
  refine (s_solveGrowth (d := d) (hN.lead f2) hO h2).cal fun v3 M3 hM3 => ?_
  obtain ⟨f3, N3, f, ff, X, Y, y1, y2, y3, hx⟩ := hM3
  obtain ⟨x1, x2, x3⟩ := hx I (by omega)
  have hS := hO.2.2.2.2 I (by omega)
  have p0 : 0 ≤ S I * (Y : Int) := Int.mul_nonneg (by omega) (by omega)
  have p1 : S I * (Y : Int) ≤ 1000 * 25600000000 := Int.mul_le_mul (by omega) (by omega) (by omega) (by decide)
  have ev := gr_mk (X := X I) (s := S I) y2
  rw [x3] at ev
  rw [Int.toNat_natCast] at hQ
  rw [Int.toNat_natCast, x1, y1, N3.2.2.1 I (by omega)]
  refine ⟨⟨by omega, by omega⟩, ⟨by omega, by omega⟩, ⟨by omega, by omega⟩, ?_⟩
  have z3 := (hz.l139 f2).solN f3
  obtain ⟨Z, hZ⟩ : ∃ Z : Nat, max ((X I : Int) - S I * (Y : Int)) 0 = Z := ⟨(max ((X I : Int) - S I * (Y : Int)) 0).toNat, by omega⟩
  rw [hZ] at ev ⊢
  refine (s_setLongsQ (d := d + 2) (x := Z) (y := Y) (by omega) (by omega) y2 (z3 0 (bIr (by decide) rfl)) (z3 2 (bIr (by decide) rfl))).cal fun v4 M4 hM4 => ?_
  obtain ⟨f4, g4, e4⟩ := hM4
  rw [ev] at g4 e4
  refine hQ _ _ (Or.inr (Or.inr ⟨h1, h2, ((f2.mono (by simp)).tr (f3.mono (by simp))).tr (f4.mono (by simp)), N3.kept f4 (by decide) (by decide) (by decide) (fun i hi => by simp; omega), z3.sol (f4.mono (by simp)) g4, _, ⟨f, ff, rfl⟩, g4, by rw [e4]⟩))
/-! The reference. -/