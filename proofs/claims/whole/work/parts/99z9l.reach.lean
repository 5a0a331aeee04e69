/-! The chance to reach: both sides. -/
def toSet (n : Nat) (E : Nat → Nat → Prop) (g s : Nat) : Prop := s < 128 ∧ ∀ j, s.testBit j = true ↔ j < n ∧ j ≠ g ∧ Rch E j g
theorem bits_eq {s t : Nat} (h : ∀ j, s.testBit j = true ↔ t.testBit j = true) : s = t := by
  apply Nat.eq_of_testBit_eq
  intro j
  have := h j
  cases hx : s.testBit j <;> cases hy : t.testBit j <;> simp_all
theorem toSet.uniq {n g s t : Nat} {E : Nat → Nat → Prop} (h : toSet n E g s) (h2 : toSet n E g t) : s = t := bits_eq fun j => (h.2 j).trans (h2.2 j).symm
theorem cnt_miss {s g : Nat} (hg : s.testBit g = false) : ∀ n, g < n → cnt s n + 1 ≤ n := by
  intro n
  induction n with
  | zero => intro h; exact absurd h (Nat.not_lt_zero _)
  | succ n ih =>
    intro h
    by_cases e : g = n
    · rw [← e, cnt_no hg]
      have := cnt_le (s := s) g
      omega
    · have := ih (by omega)
      show cnt s n + (if s.testBit n then 1 else 0) + 1 ≤ n + 1
      split <;> omega
theorem toSet.no {n g s : Nat} {E : Nat → Nat → Prop} (h : toSet n E g s) : s.testBit g = false := by
  cases e : s.testBit g
  · rfl
  · exact absurd rfl ((h.2 g).mp e).2.1
/-- the chance -/
def rchV (n : Nat) (b : Int) (A : Nat → Nat → Int) (i j : Nat) (v : Rat) : Prop := (i = j ∧ v = 1) ∨ (i ≠ j ∧ ¬ Rch (cE n A (-1)) i j ∧ v = 0) ∨ (i ≠ j ∧ Rch (cE n A (-1)) i j ∧ ∃ s, toSet n (cE n A (-1)) j s ∧ v = solQ b A s n (j : Int) i)
theorem rchV.uniq {n : Nat} {b : Int} {A : Nat → Nat → Int} {i j : Nat} {v w : Rat} (h : rchV n b A i j v) (h2 : rchV n b A i j w) : v = w := by
  rcases h with ⟨a, rfl⟩ | ⟨a, c, rfl⟩ | ⟨a, c, s, hs, rfl⟩ <;> rcases h2 with ⟨a', rfl⟩ | ⟨a', c', rfl⟩ | ⟨a', c', t, ht, rfl⟩
  · rfl
  · exact absurd a a'
  · exact absurd a a'
  · exact absurd a' a
  · rfl
  · exact absurd c' c
  · exact absurd a' a
  · exact absurd c c'
  · rw [hs.uniq ht]
theorem mk11 : mkRat ((1 : Nat) : Int) 1 = 1 := by decide +kernel
theorem mk01 : mkRat ((0 : Nat) : Int) 1 = 0 := by decide +kernel
theorem s_CchanceToReach {d : Nat} {M : Mem} {n i j : Nat} {b : Int} {A : Nat → Nat → Int} (hC : CC M n b A) (hO : cOk n b A) (hla : lawful n b A) (hL : CL M n (cE n A (-1))) (hz : AZ M) (hi : i < n) (hj : j < n) : Post (d + 5) cC_chanceToReach [oC, .inl (i : Int), .inl (j : Int), oB 90] M (fun v M' => Fr solC M M' ∧ AZ M' ∧ ∃ q, rchV n b A i j q ∧ CF M' q ∧ v = q.num.sign) := by
  intro Q hQ
  have h7 := hO.1
  refine e_C_chanceToReach (b_C_chanceToReach_0 ⟨⟨by omega, by omega⟩, ⟨by omega, by omega⟩, fun z => ?_, fun z => ?_⟩)
  · have hij : i ≠ j := fun e => z (by omega)
    refine (s_doesLead (d := d + 2) hL h7.2 hi hj).cal fun v1 M1 hM1 => ?_
    obtain ⟨rfl, ⟨rfl, g⟩ | ⟨rfl, g⟩⟩ := hM1
    · refine ⟨⟨by decide, by decide⟩, fun _ => ?_, fun z => absurd (by decide) z⟩
      have loop : ∀ (h k : Nat), k + h = n → ∀ s : Nat, s < 128 → (∀ q, s.testBit q = true ↔ q < k ∧ q ≠ j ∧ Rch (cE n A (-1)) q j) → L_C_chanceToReach_22 (d + 4) Q M1 (i : Int) (j : Int) (s : Int) (k : Int) := by
        intro h
        induction h with
        | zero =>
          intro k hk s hs hb
          have hk : k = n := by omega
          subst hk
          have hset : toSet k (cE k A (-1)) j s := ⟨hs, hb⟩
          refine b_C_chanceToReach_22 ?_
          rw [hC.1]
          refine ⟨⟨by omega, by omega⟩, ⟨by omega, by omega⟩, fun _ => ?_, fun z => absurd (Int.le_refl _) z⟩
          have c6 := cnt_miss hset.no k hj
          refine (s_Csolve (d := d) (w := j) (q := (j : Int)) hC hO (fun a ha => Int.le_of_eq (hla a ha)) hz hs (by omega) hi ((hb i).mpr ⟨hi, hij, g⟩) hset.no (fun a _ ha => ((hb a).mp ha).2.2) (Or.inr ⟨by omega, by omega⟩)).cal fun v2 M2 hM2 => ?_
          obtain ⟨f2, z2, g2, e2⟩ := hM2
          exact hQ _ _ ⟨f2, z2, _, Or.inr (Or.inr ⟨hij, g, s, hset, rfl⟩), g2, e2⟩
        | succ h ih =>
          intro k hk s hs hb
          have no : ¬ (k ≠ j ∧ Rch (cE n A (-1)) k j) → L_C_chanceToReach_22 (d + 4) Q M1 (i : Int) (j : Int) (s : Int) ((k : Int) + 1) := fun hn => by
            rw [show (k : Int) + 1 = ((k + 1 : Nat) : Int) by omega]
            refine ih (k + 1) (by omega) s hs fun q => ?_
            rw [hb q]
            constructor
            · exact fun h => ⟨by omega, h.2⟩
            · rintro ⟨h1, h2⟩
              by_cases e : q = k
              · subst e; exact absurd h2 hn
              · exact ⟨by omega, h2⟩
          refine b_C_chanceToReach_22 ?_
          rw [hC.1]
          refine ⟨⟨by omega, by omega⟩, ⟨by omega, by omega⟩, fun z => absurd z (by omega), fun _ => ⟨⟨by omega, by omega⟩, fun z => no fun h => h.1 (by omega), fun z => ?_⟩⟩
          refine (s_doesLead (d := d + 2) hL h7.2 (show k < n by omega) hj).cal fun v1 M1 hM1 => ?_
          obtain ⟨rfl, ⟨rfl, g2⟩ | ⟨rfl, g2⟩⟩ := hM1
          · refine ⟨⟨by decide, by decide⟩, fun z => absurd z (by decide), fun _ => ⟨⟨by omega, by omega⟩, ?_⟩⟩
            obtain ⟨b1, b2⟩ := bit_one (j := k) (by omega)
            obtain ⟨e1, e2⟩ := bit_or hs b2
            rw [b1, e1, show (k : Int) + 1 = ((k + 1 : Nat) : Int) by omega]
            refine ih (k + 1) (by omega) (s ||| 2 ^ k) e2 fun q => ?_
            rw [Nat.testBit_or, Bool.or_eq_true, hb q, bit_pow, decide_eq_true_iff]
            constructor
            · rintro (h | h)
              · exact ⟨by omega, h.2⟩
              · subst h; exact ⟨by omega, by omega, g2⟩
            · rintro ⟨h1, h2⟩
              by_cases e : q = k
              · exact Or.inr e.symm
              · exact Or.inl ⟨by omega, h2⟩
          · exact ⟨⟨by decide, by decide⟩, fun _ => no fun h => g2 h.2, fun z => absurd rfl z⟩
      exact loop n 0 (by omega) 0 (by decide) fun q => ⟨fun h => (by rw [Nat.zero_testBit] at h; cases h), fun h => absurd h.1 (Nat.not_lt_zero _)⟩
    · refine ⟨⟨by decide, by decide⟩, fun z => absurd rfl z, fun _ => ?_⟩
      refine (s_setLongsQ (d := d + 1) (x := 0) (y := 1) (by decide) (by decide) (by decide) (hz 0 (bIr (by decide) rfl)) (hz 2 (bIr (by decide) rfl))).cal fun v2 M2 hM2 => ?_
      obtain ⟨f2, g2, e2⟩ := hM2
      rw [mk01] at g2 e2
      have F := f2.mono (l' := solC) (by simp)
      exact hQ _ _ ⟨F, hz.sol F g2, 0, Or.inr (Or.inl ⟨hij, g, rfl⟩), g2, e2⟩
  · refine (s_setLongsQ (d := d + 1) (x := 1) (y := 1) (by decide) (by decide) (by decide) (hz 0 (bIr (by decide) rfl)) (hz 2 (bIr (by decide) rfl))).cal fun v2 M2 hM2 => ?_
    obtain ⟨f2, g2, e2⟩ := hM2
    rw [mk11] at g2 e2
    have F := f2.mono (l' := solC) (by simp)
    exact hQ _ _ ⟨F, hz.sol F g2, 1, Or.inl ⟨by omega, rfl⟩, g2, e2⟩
abbrev chnC : List Nat := 126 :: solC
theorem CC.lead {M M' : Mem} {n : Nat} {b : Int} {A : Nat → Nat → Int} (h : CC M n b A) (hf : Fr [126] M M') : CC M' n b A := h.kept hf (by decide) fun i hi => by simp; omega
theorem AZ.lead {M M' : Mem} (h : AZ M) (hf : Fr [126] M M') : AZ M' := h.fr hf fun r hr hm => by
  obtain ⟨r1, r2⟩ := hr
  simp at hm
  omega
theorem s_Qreach {d : Nat} {M : Mem} {n : Nat} {b i j : Int} {A : Nat → Nat → Int} (hC : CC M n b A) (hO : cOk n b A) (hz : AZ M) (hi : R32 i) (hj : R32 j) : PostE (d + 6) cQ_reach [oQ, .inl i, .inl j] M (fun r M' => (¬ inSt n i j ∧ r = .inr 4 ∧ M' = M) ∨ (inSt n i j ∧ ¬ lawful n b A ∧ r = .inr 5 ∧ M' = M) ∨ (inSt n i j ∧ lawful n b A ∧ Fr chnC M M' ∧ AZ M' ∧ ∃ q, rchV n b A i.toNat j.toNat q ∧ CF M' q ∧ r = .inl q.num.sign)) := by
  intro Q hQ
  have h7 := hO.1
  refine e_Q_reach (b_Q_reach_0 ?_)
  refine (s_needStates (d := d + 4) hC.1 h7.2 hi hj).cal fun r1 M1 hM1 => ?_
  rcases hM1 with ⟨h1, rfl, rfl⟩ | ⟨h1, rfl, rfl⟩
  · exact hQ _ _ (Or.inl ⟨h1, rfl, rfl⟩)
  refine (s_needLawful (d := d + 2) hC hO).cal fun r1 M1 hM1 => ?_
  rcases hM1 with ⟨h2, rfl, rfl⟩ | ⟨h2, rfl, rfl⟩
  · exact hQ _ _ (Or.inr (Or.inl ⟨h1, h2, rfl, rfl⟩))
  have hq := h1
  unfold inSt at hq
  obtain ⟨I, rfl⟩ : ∃ I : Nat, i = I := ⟨i.toNat, by omega⟩
  obtain ⟨J, rfl⟩ : ∃ J : Nat, j = J := ⟨j.toNat, by omega⟩
  refine (s_findLeads (d := d + 2) hC hO).cal fun v2 M2 hM2 => ?_
  obtain ⟨f2, g2⟩ := hM2
  refine (s_CchanceToReach (d := d) (hC.lead f2) hO h2 g2 (hz.lead f2) (show I < n by omega) (show J < n by omega)).cal fun v3 M3 hM3 => ?_
  obtain ⟨f3, z3, q, q1, q2, q3⟩ := hM3
  refine hQ _ _ (Or.inr (Or.inr ⟨h1, h2, (f2.mono (by simp)).tr (f3.mono fun a h => List.mem_cons_of_mem _ h), z3, q, ?_, q2, by rw [q3]⟩))
  rw [Int.toNat_natCast, Int.toNat_natCast]
  exact q1
/-! The reference. -/
theorem s_leadingTo {d : Nat} {M : Mem} {n g : Nat} {b : Int} {A : Nat → Nat → Int} (hC : RC M n b A) (hO : cOk n b A) (hg : g < n) : Post (d + 2) cM_leadingTo [oM, .inl (g : Int)] M (fun v M' => M' = M ∧ ∃ s : Nat, v = (s : Int) ∧ toSet n (cE n A (-1)) g s) := by
  intro Q hQ
  have h7 := hO.1
  refine e_M_leadingTo (b_M_leadingTo_0 ?_)
  have loop : ∀ (h k : Nat), k + h = n → ∀ s : Nat, s < 128 → (∀ q, s.testBit q = true ↔ q < k ∧ q ≠ g ∧ Rch (cE n A (-1)) q g) → L_M_leadingTo_4 (d + 1) Q M (g : Int) (s : Int) (k : Int) := by
    intro h
    induction h with
    | zero =>
      intro k hk s hs hb
      have hk : k = n := by omega
      subst hk
      refine b_M_leadingTo_4 ?_
      rw [hC.1]
      exact ⟨⟨by omega, by omega⟩, ⟨by omega, by omega⟩, fun _ => hQ _ _ ⟨rfl, s, rfl, hs, hb⟩, fun z => absurd (Int.le_refl _) z⟩
    | succ h ih =>
      intro k hk s hs hb
      have o0 := bit_or (s := s) (t := 0) hs (by decide)
      rw [show ((0 : Nat) : Int) = 0 from rfl, Nat.or_zero] at o0
      have no : ¬ (k ≠ g ∧ Rch (cE n A (-1)) k g) → L_M_leadingTo_4 (d + 1) Q M (g : Int) (zor (s : Int) 0) ((k : Int) + 1) := fun hn => by
        rw [o0.1, show (k : Int) + 1 = ((k + 1 : Nat) : Int) by omega]
        refine ih (k + 1) (by omega) s hs fun q => ?_
        rw [hb q]
        constructor
        · exact fun h => ⟨by omega, h.2⟩
        · rintro ⟨h1, h2⟩
          by_cases e : q = k
          · subst e; exact absurd h2 hn
          · exact ⟨by omega, h2⟩
      refine b_M_leadingTo_4 ?_
      rw [hC.1]
      refine ⟨⟨by omega, by omega⟩, ⟨by omega, by omega⟩, fun z => absurd z (by omega), fun _ => ⟨⟨by omega, by omega⟩, fun z => no fun h => h.1 (by omega), fun z => ?_⟩⟩
      refine (s_leads (d := d) hC hO (show k < n by omega) ⟨by decide, by decide⟩).cal fun v1 M1 hM1 => ?_
      obtain ⟨rfl, t, rfl, ht⟩ := hM1
      have t2 := ht.1
      rw [bit_and t2 (show g < 32 by omega)]
      refine ⟨⟨by omega, by omega⟩, ⟨by omega, by omega⟩, ?_⟩
      cases hbk : t.testBit g
      · refine ⟨⟨by decide, by decide⟩, fun _ => no fun h => ?_, fun z => absurd (fun h => by cases h) z⟩
        have := (ht.2 g).mpr ⟨hg, h.2⟩
        rw [hbk] at this
        cases this
      · refine ⟨⟨by decide, by decide⟩, fun z => absurd rfl z, fun _ => ⟨⟨by omega, by omega⟩, ?_⟩⟩
        have g2 := ((ht.2 g).mp hbk).2
        obtain ⟨b1, b2⟩ := bit_one (j := k) (by omega)
        obtain ⟨e1, e2⟩ := bit_or hs b2
        rw [b1, e1, show (k : Int) + 1 = ((k + 1 : Nat) : Int) by omega]
        refine ih (k + 1) (by omega) (s ||| 2 ^ k) e2 fun q => ?_
        rw [Nat.testBit_or, Bool.or_eq_true, hb q, bit_pow, decide_eq_true_iff]
        constructor
        · rintro (h | h)
          · exact ⟨by omega, h.2⟩
          · subst h; exact ⟨by omega, by omega, g2⟩
        · rintro ⟨h1, h2⟩
          by_cases e : q = k
          · exact Or.inr e.symm
          · exact Or.inl ⟨by omega, h2⟩
  exact loop n 0 (by omega) 0 (by decide) fun q => ⟨fun h => (by rw [Nat.zero_testBit] at h; cases h), fun h => absurd h.1 (Nat.not_lt_zero _)⟩
abbrev resF : List Nat := List.range 95
theorem FM.resF {cs ss l : List Nat} {M M' : Mem} (h : FM cs ss l M M') (hl : ∀ a, a ∈ l → a < 95) : FM cs ss resF M M' := h.mono (fun _ h => h) (fun _ h => h) fun a ha => by
  have := hl a ha
  simp
  omega
theorem FR.resF {l : List Nat} {M M' : Mem} (h : FR l M M') (hl : ∀ a, a ∈ l → a < 95) : FM [] [] resF M M' := h.fm.resF hl
theorem s_Mreach {d : Nat} {M : Mem} {n : Nat} {b i j : Int} {A : Nat → Nat → Int} (hC : RC M n b A) (hO : cOk n b A) (hi : R32 i) (hj : R32 j) : Post (d + 8) cM_reach [oM, .inl i, .inl j] M (fun v M' => (¬ inSt n i j ∧ M' = upd2 M 175 0 1) ∨ (inSt n i j ∧ ¬ lawful n b A ∧ M' = upd2 M 175 0 2) ∨ (inSt n i j ∧ lawful n b A ∧ FM [173] [0] resF M M' ∧ M' 175 0 = 0 ∧ ∃ q, rchV n b A i.toNat j.toNat q ∧ FQ M' 80 q ∧ v = q.num.sign)) := by
  intro Q hQ
  have h7 := hO.1
  have hb := hO.2.1
  have no : ¬ inSt n i j → cald (d + 7) cM_refuse [oM, .inl 1] M (fun r M2 => Rt r (fun v2 => Q (.inl v2) M2) (fun x => Q (.inr x) M2)) := fun h => (s_refuse (d := d + 6)).cal fun v2 M2 hM2 => by
    obtain ⟨rfl, rfl⟩ := hM2
    exact hQ _ _ (Or.inl ⟨h, rfl⟩)
  refine e_M_reach (b_M_reach_0 ?_)
  refine (s_isState (d := d + 5) hC.1 h7.2 hi).cal fun v1 M1 hM1 => ?_
  obtain ⟨rfl, ⟨rfl, g1⟩ | ⟨rfl, g1⟩⟩ := hM1
  · refine ⟨⟨by decide, by decide⟩, fun z => absurd z (by decide), fun _ => ?_⟩
    refine (s_isState (d := d + 5) hC.1 h7.2 hj).cal fun v1 M1 hM1 => ?_
    obtain ⟨rfl, ⟨rfl, g3⟩ | ⟨rfl, g3⟩⟩ := hM1
    · have h1 : inSt n i j := ⟨g1, g3⟩
      refine ⟨⟨by decide, by decide⟩, fun _ => ?_, fun z => absurd (by decide) z⟩
      refine (s_MisLawful (d := d + 5) hC hO).cal fun v1 M1 hM1 => ?_
      obtain ⟨rfl, ⟨rfl, h2⟩ | ⟨rfl, h2⟩⟩ := hM1
      · refine ⟨⟨by decide, by decide⟩, fun _ => ?_, fun z => absurd (by decide) z⟩
        obtain ⟨I, rfl⟩ : ∃ I : Nat, i = I := ⟨i.toNat, by omega⟩
        obtain ⟨J, rfl⟩ : ∃ J : Nat, j = J := ⟨j.toNat, by omega⟩
        obtain ⟨B, rfl⟩ : ∃ B : Nat, b = B := ⟨b.toNat, by omega⟩
        rw [Int.toNat_natCast, Int.toNat_natCast] at hQ
        refine (s_leadingTo (d := d + 5) hC hO (show J < n by omega)).cal fun v4 M4 hM4 => ?_
        obtain ⟨rfl, s, rfl, hs⟩ := hM4
        have s2 := hs.1
        rw [bit_and s2 (show I < 32 by omega)]
        have fin : ∀ (q : Rat) (a : Nat), a < 80 → ∀ M6, FM [173] [] resF M4 M6 → FQ M6 a q → rchV n (B : Int) A I J q → cald (d + 7) cM_comesTo [oM, .inl (a : Int)] M6 (fun r M7 => Rt r (fun v7 => Q (.inl v7) M7) (fun x => Q (.inr x) M7)) := fun q a ha M6 f6 g6 hv => (s_comesTo (d := d + 4) (a := a) (by omega) (by omega) g6).cal fun v5 M5 hM5 => by
          obtain ⟨f5, k5, k6, e5⟩ := hM5
          exact hQ _ _ (Or.inr (Or.inr ⟨h1, h2, (f6.mono (fun _ h => h) (by simp) (fun _ h => h)).tr ((f5.mono (by simp) (fun _ h => h) (by simp)) : FM [173] [0] resF M6 M5), k6, q, hv, k5, e5⟩))
        have go : ∀ i4 : Int, ((i4 = 0 ∧ ¬ s.testBit I = true) ∨ (i4 = 1 ∧ s.testBit I = true)) → L_M_reach_34 (d + 7) Q M4 (I : Int) (J : Int) (s : Int) i4 := by
          intro i4 h4
          refine b_M_reach_34 ⟨⟨by omega, by omega⟩, ⟨by omega, by omega⟩, fun z => ?_, fun z => ?_⟩
          · have hij : I ≠ J := fun e => z (by omega)
            refine (s_sets (d := d + 2) (i := 67) (x := 0) (y := 1) (by decide) (by decide) (by decide) (by decide)).cal fun v5 M5 hM5 => ?_
            obtain ⟨f5, g5⟩ := hM5
            rw [Rat.zero_mkRat] at g5
            have F5 : FM [173] [] resF M4 M5 := (f5.resF (by simp)).mono (by simp) (by simp) (fun _ h => h)
            rcases h4 with ⟨rfl, h4⟩ | ⟨rfl, h4⟩
            · refine ⟨⟨by decide, by decide⟩, fun _ => fin 0 67 (by decide) M5 F5 g5 (Or.inr (Or.inl ⟨hij, fun h => h4 ((hs.2 I).mpr ⟨by omega, hij, h⟩), rfl⟩)), fun z => absurd rfl z⟩
            · refine ⟨⟨by decide, by decide⟩, fun z => absurd z (by decide), fun _ => ?_⟩
              refine (s_solvesTo (d := d) (w := J) (tm := 0) (hC.fm' F5 (by decide) (by simp) (by simp)) hO (fun a ha => Int.le_of_eq (h2 a ha)) s2 (show I < n by omega) h4 hs.no (fun a _ ha => ((hs.2 a).mp ha).2.2) (show J < 7 by omega) (Or.inl rfl)).cal fun v6 M6 hM6 => ?_
              obtain ⟨f6, k, hk, rfl, g6⟩ := hM6
              exact fin _ (56 + k) (by omega) M6 (F5.tr (f6.resF (by simp; omega))) g6 (Or.inr (Or.inr ⟨hij, ((hs.2 I).mp h4).2.2, s, hs, rfl⟩))
          · have hij : I = J := by omega
            refine (s_sets (d := d + 2) (i := 67) (x := 1) (y := 1) (by decide) (by decide) (by decide) (by decide)).cal fun v5 M5 hM5 => ?_
            obtain ⟨f5, g5⟩ := hM5
            have F5 : FM [173] [] resF M4 M5 := (f5.resF (by simp)).mono (by simp) (by simp) (fun _ h => h)
            rcases h4 with ⟨rfl, h4⟩ | ⟨rfl, h4⟩
            · exact ⟨⟨by decide, by decide⟩, fun _ => fin 1 67 (by decide) M5 F5 g5 (Or.inl ⟨hij, rfl⟩), fun z => absurd rfl z⟩
            · exact absurd hij ((hs.2 I).mp h4).2.1
        refine ⟨⟨by omega, by omega⟩, ⟨by omega, by omega⟩, ?_⟩
        cases hbI : s.testBit I
        · exact ⟨⟨by decide, by decide⟩, fun _ => go 0 (Or.inl ⟨rfl, by rw [hbI]; decide⟩), fun z => absurd (fun h => by cases h) z⟩
        · exact ⟨⟨by decide, by decide⟩, fun z => absurd rfl z, fun _ => go 1 (Or.inr ⟨rfl, hbI⟩)⟩
      · refine ⟨⟨by decide, by decide⟩, fun z => absurd rfl z, fun _ => ?_⟩
        refine (s_refuse (d := d + 6)).cal fun v2 M2 hM2 => ?_
        obtain ⟨rfl, rfl⟩ := hM2
        exact hQ _ _ (Or.inr (Or.inl ⟨h1, h2, rfl⟩))
    · exact ⟨⟨by decide, by decide⟩, fun z => absurd rfl z, fun _ => no fun h => g3 h.2⟩
  · exact ⟨⟨by decide, by decide⟩, fun _ => no fun h => g1 h.1, fun z => absurd rfl z⟩
