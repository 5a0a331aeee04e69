/-! Nets: ways; what leads to what. -/
theorem rowS_up {A : Nat → Nat → Int} {i j : Nat} {v : Int} : ∀ k, rowS (upA A i j v) i k = if j < k then rowS A i k - A i j + v else rowS A i k := by
  intro k
  induction k with
  | zero => rw [if_neg (Nat.not_lt_zero j)]; rfl
  | succ k ih =>
    show rowS (upA A i j v) i k + upA A i j v i k = if j < k + 1 then rowS A i k + A i k - A i j + v else rowS A i k + A i k
    rw [ih]
    unfold upA
    by_cases e : k = j
    · rw [e, if_neg (Nat.lt_irrefl j), if_pos ⟨rfl, rfl⟩, if_pos (Nat.lt_succ_self j)]; omega
    · rw [if_neg (show ¬ (i = i ∧ k = j) from fun z => e z.2)]
      by_cases e2 : j < k
      · rw [if_pos e2, if_pos (by omega)]; omega
      · rw [if_neg e2, if_neg (by omega)]
theorem rowS_off {A : Nat → Nat → Int} {i j r : Nat} {v : Int} (h : r ≠ i) : ∀ k, rowS (upA A i j v) r k = rowS A r k := by
  intro k
  induction k with
  | zero => rfl
  | succ k ih =>
    show rowS (upA A i j v) r k + upA A i j v r k = rowS A r k + A r k
    rw [ih]
    unfold upA
    rw [if_neg (fun z => h z.1)]
def wayOk (n : Nat) (A : Nat → Nat → Int) (i j : Nat) (p : Int) : Prop := (0 ≤ p ∧ p ≤ 100) ∧ rowS A i n - A i j + p ≤ 100
theorem nOk_way {n : Nat} {C S : Nat → Int} {A : Nat → Nat → Int} {i j : Nat} {p : Int} (h : nOk n C S A) (hi : i < n) (hj : j < n) (hp : wayOk n A i j p) : nOk n C S (upA A i j p) := by
  obtain ⟨h1, h2, h3, h4, h5⟩ := h
  refine ⟨h1, cOk_up h2 hi hj hp.1, fun k hk => ?_, h4, h5⟩
  by_cases e : k = i
  · rw [e, rowS_up, if_pos hj]; exact hp.2
  · rw [rowS_off e]; exact h3 k hk
theorem s_rowN {d : Nat} {M : Mem} {n i : Nat} {C S : Nat → Int} {A : Nat → Nat → Int} (hN : NC M n C S A) (hO : nOk n C S A) (hi : i < n) : Post (d + 1) cQ_sumOf [.inr (.inr (.inl (wRa 138 i)))] M (fun v M' => M' = M ∧ v = rowS A i n) := by
  intro Q hQ
  have h4 := hO.1
  obtain ⟨r1, r2, r3⟩ := wra138 i (by omega)
  rw [r1]
  refine s_sumOf (d := d) r2 r3 (by decide) Q fun v M' ⟨h, h2⟩ => hQ v M' ⟨h, ?_⟩
  rw [h2, sumT_row (A := A) (i := i) 4 fun j hj => hN.2.2.2 i j (by omega) hj]
  have := rowS_n hO.2.1 hi (4 - n) (by omega)
  rw [show n + (4 - n) = 4 by omega] at this
  exact this
theorem s_Qway {d : Nat} {M : Mem} {n : Nat} {C S : Nat → Int} {A : Nat → Nat → Int} {i j p : Int} (hN : NC M n C S A) (hO : nOk n C S A) (hi : R32 i) (hj : R32 j) (hp : R32 p) : PostE (d + 2) cQ_way [oQ, .inl i, .inl j, .inl p] M (fun r M' => (¬ inSt n i j ∧ r = .inr 4 ∧ M' = M) ∨ (inSt n i j ∧ ¬ wayOk n A i.toNat j.toNat p ∧ r = .inr 2 ∧ M' = M) ∨ (inSt n i j ∧ wayOk n A i.toNat j.toNat p ∧ r = .inl (rowS A i.toNat n - A i.toNat j.toNat + p) ∧ Fr [134, 135, 136, 137] M M' ∧ NC M' n C S (upA A i.toNat j.toNat p))) := by
  intro Q hQ
  have h4 := hO.1
  refine e_Q_way (b_Q_way_0 ?_)
  refine (s_needNodes (d := d) hN.1 h4.2 hi hj).cal fun r1 M1 hM1 => ?_
  rcases hM1 with ⟨h1, rfl, rfl⟩ | ⟨h1, rfl, rfl⟩
  · exact hQ _ _ (Or.inl ⟨h1, rfl, rfl⟩)
  have hq := h1
  unfold inSt at hq
  obtain ⟨I, rfl⟩ : ∃ I : Nat, i = I := ⟨i.toNat, by omega⟩
  obtain ⟨J, rfl⟩ : ∃ J : Nat, j = J := ⟨j.toNat, by omega⟩
  rw [Int.toNat_natCast, Int.toNat_natCast] at hQ ⊢
  have no : ¬ wayOk n A I J p → Q (.inr 2) M1 := fun h => hQ _ _ (Or.inr (Or.inl ⟨h1, h, rfl, rfl⟩))
  refine ⟨hp, fun _ => no (by unfold wayOk; omega), fun _ => ⟨fun _ => no (by unfold wayOk; omega), fun _ => ⟨⟨by omega, by omega⟩, ?_⟩⟩⟩
  refine (s_rowN (d := d) (i := I) hN hO (by omega)).cal fun v2 M2 hM2 => ?_
  obtain ⟨rfl, rfl⟩ := hM2
  obtain ⟨r1, r2, r3⟩ := wra138 I (by omega)
  have hA := hO.2.1.2.2.1 I J (by omega) (by omega)
  have hr := hO.2.2.1 I (by omega)
  have hr0 := (rowS_r hO.2.1 (i := I) (by omega) n (by omega)).1
  rw [r1, r2, r3, hN.2.2.2 I J (by omega) (by omega)]
  refine ⟨rfl, ⟨by omega, by omega⟩, ⟨by omega, by omega⟩, fun z => ?_, fun z => no (by unfold wayOk; omega)⟩
  have ok : wayOk n A I J p := by unfold wayOk; omega
  have hN2 : NC (upd2 M2 (134 + I) J p) n C S (upA A I J p) := by
    refine ⟨?_, fun k hk => ?_, fun k hk => ?_, fun k l hk hl => ?_⟩
    · rw [u2_off (by omega)]; exact hN.1
    · rw [u2_off (by omega)]; exact hN.2.1 k hk
    · rw [u2_off (by omega)]; exact hN.2.2.1 k hk
    · unfold upA
      by_cases e : k = I
      · by_cases e2 : l = J
        · rw [if_pos ⟨e, e2⟩, e, e2, u2_same]
        · rw [if_neg (fun z => e2 z.2), e, u2_ne e2]; exact hN.2.2.2 I l (by omega) hl
      · rw [if_neg (fun z => e z.1), u2_off (by omega)]; exact hN.2.2.2 k l hk hl
  have := s_rowN (d := d) (i := I) hN2 (nOk_way hO (by omega) (by omega) ok) (by omega)
  rw [r1] at this
  refine this.cal fun v3 M3 hM3 => ?_
  obtain ⟨rfl, rfl⟩ := hM3
  refine hQ _ _ (Or.inr (Or.inr ⟨h1, ok, ?_, Fr.rfl'.u2 (by simp; omega), hN2⟩))
  rw [rowS_up, if_pos (by omega)]
/-! Rates are there; closed. -/
theorem zand_nat {s t : Nat} (hs : s < 128) (ht : t < 128) : zand (s : Int) (t : Int) = ((s &&& t : Nat) : Int) := by
  unfold zand
  rw [show ((s : Int) % 4294967296).toNat = s by omega, show ((t : Int) % 4294967296).toNat = t by omega]
theorem and_zero {s t : Nat} : s &&& t = 0 ↔ ∀ j, ¬ (s.testBit j = true ∧ t.testBit j = true) := by
  constructor
  · intro h j hj
    have := congrArg (fun x => Nat.testBit x j) h
    simp only [Nat.testBit_and, hj.1, hj.2, Nat.zero_testBit] at this
    cases this
  · intro h
    apply Nat.eq_of_testBit_eq
    intro j
    rw [Nat.testBit_and, Nat.zero_testBit]
    have := h j
    cases hx : s.testBit j <;> cases hy : t.testBit j <;> simp_all
def ratesOk (n : Nat) (A : Nat → Nat → Int) : Prop := ∀ i, i < n → ∃ j, j < n ∧ Rch (cE n A (-1)) i j ∧ rowS A j n < 100
def closedOk (n : Nat) (C : Nat → Int) (A : Nat → Nat → Int) : Prop := ∀ i, i < n → C i = 0 ∧ rowS A i n = 100 ∧ ∀ j, j < n → Rch (cE n A (-1)) i j
theorem NC.lead {M M' : Mem} {n : Nat} {C S : Nat → Int} {A : Nat → Nat → Int} (h : NC M n C S A) (hf : Fr [139] M M') : NC M' n C S A := h.kept hf (by decide) (by decide) (by decide) fun i hi => by simp; omega
theorem s_netLeads {d : Nat} {M : Mem} {n : Nat} {C S : Nat → Int} {A : Nat → Nat → Int} (hN : NC M n C S A) (hO : nOk n C S A) : Post (d + 2) cQ_followWays [.inr (.inr (.inl 138)), .inl (n : Int), .inr (.inr (.inl 139))] M (fun _ M' => Fr [139] M M' ∧ ∀ i, i < n → ∃ s : Nat, M' 139 i = (s : Int) ∧ isSet n (cE n A (-1)) i s) := by
  have h4 := hO.1
  have l9 : wAl 139 = 4 := by decide +kernel
  have l8 : wAl 138 = 4 := by decide +kernel
  refine s_followWays (d := d) (r0 := 138) (r2 := 139) (n := n) (A := A) (by omega) (by decide +kernel) (by omega) (by decide +kernel) (by omega) (fun i hi => ?_) (fun i j hi hj => ?_)
  · obtain ⟨r1, r2, r3⟩ := wra138 i (by omega)
    rw [r1]
    exact ⟨r2, by omega, by omega⟩
  · obtain ⟨r1, r2, r3⟩ := wra138 i (by omega)
    rw [r1, hN.2.2.2 i j (by omega) (by omega)]
    have := hO.2.1.2.2.1 i j (by omega) (by omega)
    exact ⟨rfl, by omega, by omega⟩
theorem s_areRatesThere {d : Nat} {M : Mem} {n : Nat} {C S : Nat → Int} {A : Nat → Nat → Int} (hN : NC M n C S A) (hO : nOk n C S A) : Post (d + 3) cN_areRatesThere [oN] M (fun v M' => Fr [139] M M' ∧ ((v = 1 ∧ ratesOk n A) ∨ (v = 0 ∧ ¬ ratesOk n A))) := by
  intro Q hQ
  have h4 := hO.1
  refine e_N_areRatesThere (b_N_areRatesThere_0 ?_)
  rw [hN.1]
  refine (s_netLeads (d := d) hN hO).cal fun v1 M1 hM1 => ?_
  obtain ⟨f1, g1⟩ := hM1
  have N1 := hN.lead f1
  have second : ∀ s : Nat, s < 128 → (∀ q, s.testBit q = true ↔ q < n ∧ rowS A q n < 100) → ∀ (f k : Nat), k + f = n → (∀ i, i < k → ∃ j, j < n ∧ Rch (cE n A (-1)) i j ∧ rowS A j n < 100) → L_N_areRatesThere_34 (d + 2) Q M1 (s : Int) (k : Int) := by
    intro s hs hb f
    induction f with
    | zero =>
      intro k hk hall
      have hk : k = n := by omega
      subst hk
      refine b_N_areRatesThere_34 ?_
      rw [N1.1]
      exact ⟨⟨by omega, by omega⟩, ⟨by omega, by omega⟩, fun _ => hQ _ _ ⟨f1, Or.inl ⟨rfl, hall⟩⟩, fun z => absurd (Int.le_refl _) z⟩
    | succ f ih =>
      intro k hk hall
      refine b_N_areRatesThere_34 ?_
      obtain ⟨t, t1, t2⟩ := g1 k (by omega)
      have hlt : t &&& s < 128 := Nat.lt_of_le_of_lt Nat.and_le_left t2.1
      rw [N1.1, Int.toNat_natCast, t1, zand_nat t2.1 hs]
      refine ⟨⟨by omega, by omega⟩, ⟨by omega, by omega⟩, fun z => absurd z (by omega), fun _ => ⟨⟨by omega, by omega⟩, ⟨by omega, by omega⟩, fun z => ?_, fun z => ?_⟩⟩
      · rw [show (k : Int) + 1 = ((k + 1 : Nat) : Int) by omega]
        refine ih (k + 1) (by omega) fun i hi => ?_
        by_cases e : i = k
        · subst e
          refine Classical.byContradiction fun hn => z ?_
          rw [and_zero.mpr fun j hj => hn ⟨j, ((t2.2 j).mp hj.1).1, ((t2.2 j).mp hj.1).2, ((hb j).mp hj.2).2⟩]
          rfl
        · exact hall i (by omega)
      · refine hQ _ _ ⟨f1, Or.inr ⟨rfl, fun h => ?_⟩⟩
        obtain ⟨j, j1, j2, j3⟩ := h k (by omega)
        exact and_zero.mp (show t &&& s = 0 by omega) j ⟨(t2.2 j).mpr ⟨j1, j2⟩, (hb j).mpr ⟨j1, j3⟩⟩
  have first : ∀ (f k : Nat), k + f = n → ∀ s : Nat, s < 128 → (∀ q, s.testBit q = true ↔ q < k ∧ rowS A q n < 100) → L_N_areRatesThere_11 (d + 2) Q M1 (s : Int) (k : Int) := by
    intro f
    induction f with
    | zero =>
      intro k hk s hs hb
      have hk : k = n := by omega
      subst hk
      refine b_N_areRatesThere_11 ?_
      rw [N1.1]
      exact ⟨⟨by omega, by omega⟩, ⟨by omega, by omega⟩, fun _ => second s hs hb k 0 (by omega) fun i h => absurd h (Nat.not_lt_zero i), fun z => absurd (Int.le_refl _) z⟩
    | succ f ih =>
      intro k hk s hs hb
      refine b_N_areRatesThere_11 ?_
      rw [N1.1]
      have hr := hO.2.2.1 k (by omega)
      have hr0 := (rowS_r hO.2.1 (i := k) (by omega) n (by omega)).1
      refine ⟨⟨by omega, by omega⟩, ⟨by omega, by omega⟩, fun z => absurd z (by omega), fun _ => ⟨⟨by omega, by omega⟩, ?_⟩⟩
      rw [Int.toNat_natCast]
      refine (s_rowN (d := d + 1) (i := k) N1 hO (by omega)).cal fun v2 M2 hM2 => ?_
      obtain ⟨rfl, rfl⟩ := hM2
      have o0 := bit_or (s := s) (t := 0) hs (by decide)
      rw [show ((0 : Nat) : Int) = 0 from rfl, Nat.or_zero] at o0
      obtain ⟨b1, b2⟩ := bit_one (j := k) (by omega)
      obtain ⟨e1, e2⟩ := bit_or hs b2
      rw [Int.toNat_natCast] at b1
      rw [o0.1, b1, e1, show (k : Int) + 1 = ((k + 1 : Nat) : Int) by omega]
      refine ⟨⟨by omega, by omega⟩, fun z => ?_, fun z => ⟨⟨by omega, by omega⟩, ?_⟩⟩
      · refine ih (k + 1) (by omega) s hs fun q => ?_
        rw [hb q]
        constructor
        · exact fun h => ⟨by omega, h.2⟩
        · rintro ⟨h1, h2⟩
          by_cases e : q = k
          · subst e; omega
          · exact ⟨by omega, h2⟩
      · refine ih (k + 1) (by omega) (s ||| 2 ^ k) e2 fun q => ?_
        rw [Nat.testBit_or, Bool.or_eq_true, hb q, bit_pow, decide_eq_true_iff]
        constructor
        · rintro (h | h)
          · exact ⟨by omega, h.2⟩
          · subst h; exact ⟨by omega, by omega⟩
        · rintro ⟨h1, h2⟩
          by_cases e : q = k
          · exact Or.inr e.symm
          · exact Or.inl ⟨by omega, h2⟩
  exact first n 0 (by omega) 0 (by decide) fun q => ⟨fun h => (by rw [Nat.zero_testBit] at h; cases h), fun h => absurd h.1 (Nat.not_lt_zero _)⟩
theorem s_needRates {d : Nat} {M : Mem} {n : Nat} {C S : Nat → Int} {A : Nat → Nat → Int} (hN : NC M n C S A) (hO : nOk n C S A) : PostE (d + 4) cQ_needRates [oQ] M (fun r M' => Fr [139] M M' ∧ ((¬ ratesOk n A ∧ r = .inr 5) ∨ (ratesOk n A ∧ r = .inl 0))) := by
  intro Q hQ
  refine e_Q_needRates (b_Q_needRates_0 ?_)
  refine (s_areRatesThere (d := d) hN hO).cal fun v1 M1 hM1 => ?_
  obtain ⟨f1, ⟨rfl, g⟩ | ⟨rfl, g⟩⟩ := hM1
  · exact ⟨⟨by decide, by decide⟩, fun _ => hQ _ _ ⟨f1, Or.inr ⟨g, rfl⟩⟩, fun z => absurd (by decide) z⟩
  · exact ⟨⟨by decide, by decide⟩, fun z => absurd rfl z, fun _ => hQ _ _ ⟨f1, Or.inl ⟨g, rfl⟩⟩⟩
theorem set_full {n i s : Nat} {E : Nat → Nat → Prop} (h : isSet n E i s) (hn : n ≤ 7) : (s : Int) = (1 : Int) * 2 ^ n - 1 ↔ ∀ j, j < n → Rch E i j := by
  have e : (1 : Int) * 2 ^ n - 1 = ((2 ^ n - 1 : Nat) : Int) := by
    have := Nat.two_pow_pos n
    have e : ((2 ^ n : Nat) : Int) = (2 : Int) ^ n := by push_cast; rfl
    rw [Int.one_mul, ← e]
    omega
  rw [e]
  constructor
  · intro he j hj
    have he : s = 2 ^ n - 1 := by omega
    refine ((h.2 j).mp ?_).2
    rw [he, Nat.testBit_two_pow_sub_one]
    exact decide_eq_true hj
  · intro hall
    have : s = 2 ^ n - 1 := bits_eq fun j => by
      rw [h.2 j, Nat.testBit_two_pow_sub_one, decide_eq_true_iff]
      exact ⟨fun q => q.1, fun q => ⟨q, hall j q⟩⟩
    rw [this]
theorem pow_r {n : Nat} (h : n ≤ 7) : (1 : Int) ≤ (1 : Int) * 2 ^ n ∧ (1 : Int) * 2 ^ n ≤ 128 := by
  rcases (show n = 0 ∨ n = 1 ∨ n = 2 ∨ n = 3 ∨ n = 4 ∨ n = 5 ∨ n = 6 ∨ n = 7 by omega) with rfl | rfl | rfl | rfl | rfl | rfl | rfl | rfl <;> decide
theorem s_isWithoutOutside {d : Nat} {M : Mem} {n : Nat} {C S : Nat → Int} {A : Nat → Nat → Int} (hN : NC M n C S A) (hO : nOk n C S A) : Post (d + 3) cN_isWithoutOutside [oN] M (fun v M' => Fr [139] M M' ∧ ((v = 1 ∧ closedOk n C A) ∨ (v = 0 ∧ ¬ closedOk n C A))) := by
  intro Q hQ
  have h4 := hO.1
  refine e_N_isWithoutOutside (b_N_isWithoutOutside_0 ?_)
  rw [hN.1]
  refine (s_netLeads (d := d) hN hO).cal fun v1 M1 hM1 => ?_
  obtain ⟨f1, g1⟩ := hM1
  have N1 := hN.lead f1
  have loop : ∀ (f k : Nat), k + f = n → (∀ i, i < k → C i = 0 ∧ rowS A i n = 100 ∧ ∀ j, j < n → Rch (cE n A (-1)) i j) → L_N_isWithoutOutside_9 (d + 2) Q M1 (k : Int) := by
    intro f
    induction f with
    | zero =>
      intro k hk hall
      have hk : k = n := by omega
      subst hk
      refine b_N_isWithoutOutside_9 ?_
      rw [N1.1]
      exact ⟨⟨by omega, by omega⟩, ⟨by omega, by omega⟩, fun _ => hQ _ _ ⟨f1, Or.inl ⟨rfl, hall⟩⟩, fun z => absurd (Int.le_refl _) z⟩
    | succ f ih =>
      intro k hk hall
      have hc := hO.2.2.2.1 k (by omega)
      have hr := hO.2.2.1 k (by omega)
      have hr0 := (rowS_r hO.2.1 (i := k) (by omega) n (by omega)).1
      refine b_N_isWithoutOutside_9 ?_
      rw [N1.1, Int.toNat_natCast, N1.2.1 k (by omega)]
      refine ⟨⟨by omega, by omega⟩, ⟨by omega, by omega⟩, fun z => absurd z (by omega), fun _ => ⟨⟨by omega, by omega⟩, ⟨by omega, by omega⟩, fun z => hQ _ _ ⟨f1, Or.inr ⟨rfl, fun h => z (h k (by omega)).1⟩⟩, fun z => ?_⟩⟩
      refine (s_rowN (d := d + 1) (i := k) N1 hO (by omega)).cal fun v2 M2 hM2 => ?_
      obtain ⟨e2, rfl⟩ := hM2
      subst e2
      refine ⟨⟨by omega, by omega⟩, fun z2 => hQ _ _ ⟨f1, Or.inr ⟨rfl, fun h => z2 (h k (by omega)).2.1⟩⟩, fun z2 => ?_⟩
      obtain ⟨t, t1, t2⟩ := g1 k (by omega)
      have tl := t2.1
      have pr := pow_r (n := n) (by omega)
      rw [N1.1, Int.toNat_natCast, t1]
      refine ⟨⟨by omega, by omega⟩, ⟨by omega, by omega⟩, ⟨by omega, by omega⟩, fun z3 => ?_, fun z3 => hQ _ _ ⟨f1, Or.inr ⟨rfl, fun h => z3 ((set_full t2 (by omega)).mpr (h k (by omega)).2.2)⟩⟩⟩
      rw [show (k : Int) + 1 = ((k + 1 : Nat) : Int) by omega]
      refine ih (k + 1) (by omega) fun i hi => ?_
      by_cases e : i = k
      · subst e
        exact ⟨Classical.not_not.mp z, Classical.not_not.mp z2, (set_full t2 (by omega)).mp z3⟩
      · exact hall i (by omega)
  exact loop n 0 (by omega) fun i h => absurd h (Nat.not_lt_zero i)
