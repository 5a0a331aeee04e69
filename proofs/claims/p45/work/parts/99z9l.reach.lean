/-! The chance to reach: both sides. -/
def toSet (n : Nat) (E : Nat → Nat → Prop) (g s : Nat) : Prop := s < 128 ∧ ∀ j, s.testBit j = true ↔ j < n ∧ j ≠ g ∧ Rch E j g
theorem bits_eq {s t : Nat} (h : ∀ j, s.testBit j = true ↔ t.testBit j = true) : s = t := by
  apply Nat.eq_of_testBit_eq
  intro j
  have := h j
  cases hx : s.testBit j <;> cases hy : t.testBit j <;> simp_all
theorem toSet.uniq {n g s t : Nat} {E : Nat → Nat → Prop} (h : toSet n E g s) (h2 : toSet n E g t) : s = t := bits_eq fun j => (h.2 j).trans (h2.2 j).symm
theorem cnt_miss {s g : Nat} (hg : s.testBit g = false) : ∀ n, g < n → cnt s n + 1 ≤ n := by
  intro n
  induction n with
  | zero => intro h; exact absurd h (Nat.not_lt_zero _)
  | succ n ih =>
    intro h
    by_cases e : g = n
    · rw [← e, cnt_no hg]
      have := cnt_le (s := s) g
      omega
    · have := ih (by omega)
      show cnt s n + (if s.testBit n then 1 else 0) + 1 ≤ n + 1
      split <;> omega
theorem toSet.no {n g s : Nat} {E : Nat → Nat → Prop} (h : toSet n E g s) : s.testBit g = false := by
  cases e : s.testBit g
  · rfl
  · exact absurd rfl ((h.2 g).mp e).2.1
/-- the chance -/
def rchV (n : Nat) (b : Int) (A : Nat → Nat → Int) (i j : Nat) (v : Rat) : Prop := (i = j ∧ v = 1) ∨ (i ≠ j ∧ ¬ Rch (cE n A (-1)) i j ∧ v = 0) ∨ (i ≠ j ∧ Rch (cE n A (-1)) i j ∧ ∃ s, toSet n (cE n A (-1)) j s ∧ v = solQ b A s n (j : Int) i)
theorem rchV.uniq {n : Nat} {b : Int} {A : Nat → Nat → Int} {i j : Nat} {v w : Rat} (h : rchV n b A i j v) (h2 : rchV n b A i j w) : v = w := by
  rcases h with ⟨a, rfl⟩ | ⟨a, c, rfl⟩ | ⟨a, c, s, hs, rfl⟩ <;> rcases h2 with ⟨a', rfl⟩ | ⟨a', c', rfl⟩ | ⟨a', c', t, ht, rfl⟩
  · rfl
  · exact absurd a a'
  · exact absurd a a'
  · exact absurd a' a
  · rfl
  · exact absurd c' c
  · exact absurd a' a
  · exact absurd c c'
  · rw [hs.uniq ht]
theorem mk11 : mkRat ((1 : Nat) : Int) 1 = 1 := by decide +kernel
theorem mk01 : mkRat ((0 : Nat) : Int) 1 = 0 := by decide +kernel
theorem s_CchanceToReach {d : Nat} {M : Mem} {n i j : Nat} {b : Int} {A : Nat → Nat → Int} (hC : CC M n b A) (hO : cOk n b A) (hla : lawful n b A) (hL : CL M n (cE n A (-1))) (hz : AZ M) (hi : i < n) (hj : j < n) : Post (d + 5) cC_chanceToReach [oC, .inl (i : Int), .inl (j : Int), oB 90] M (fun v M' => Fr solC M M' ∧ AZ M' ∧ ∃ q, rchV n b A i j q ∧ CF M' q ∧ v = q.num.sign) := by
  intro Q hQ
  have h7 := hO.1
  refine e_C_chanceToReach (b_C_chanceToReach_0 ⟨⟨by omega, by omega⟩, ⟨by omega, by omega⟩, fun z => ?_, fun z => ?_⟩)
  · have hij : i ≠ j := fun e => z (by omega)
    refine (s_doesLead (d := d + 2) hL h7.2 hi hj).cal fun v1 M1 hM1 => ?_
    obtain ⟨rfl, ⟨rfl, g⟩ | ⟨rfl, g⟩⟩ := hM1
    · refine ⟨⟨by decide, by decide⟩, fun _ => ?_, fun z => absurd (by decide) z⟩
      have loop : ∀ (h k : Nat), k + h = n → ∀ s : Nat, s < 128 → (∀ q, s.testBit q = true ↔ q < k ∧ q ≠ j ∧ Rch (cE n A (-1)) q j) → L_C_chanceToReach_22 (d + 4) Q M1 (i : Int) (j : Int) (s : Int) (k : Int) := by
        intro h
        induction h with
        | zero =>
          intro k hk s hs hb
          have hk : k = n := by omega
          subst hk
          have hset : toSet k (cE k A (-1)) j s := ⟨hs, hb⟩
          refine b_C_chanceToReach_22 ?_
          rw [hC.1]
          refine ⟨⟨by omega, by omega⟩, ⟨by omega, by omega⟩, fun _ => ?_, fun z => absurd (Int.le_refl _) z⟩
          have c6 := cnt_miss hset.no k hj
          refine (s_Csolve (d := d) (w := j) (q := (j : Int)) hC hO (fun a ha => Int.le_of_eq (hla a ha)) hz hs (by omega) hi ((hb i).mpr ⟨hi, hij, g⟩) hset.no (fun a _ ha => ((hb a).mp ha).2.2) (Or.inr ⟨by omega, by omega⟩)).cal fun v2 M2 hM2 => ?_
          obtain ⟨f2, z2, g2, e2⟩ := hM2
          exact hQ _ _ ⟨f2, z2, _, Or.inr (Or.inr ⟨hij, g, s, hset, rfl⟩), g2, e2⟩
        | succ h ih =>
          intro k hk s hs hb
          have no : ¬ (k ≠ j ∧ Rch (cE n A (-1)) k j) → L_C_chanceToReach_22 (d + 4) Q M1 (i : Int) (j : Int) (s : Int) ((k : Int) + 1) := fun hn => by
            rw [show (k : Int) + 1 = ((k + 1 : Nat) : Int) by omega]
            refine ih (k + 1) (by omega) s hs fun q => ?_
            rw [hb q]
            constructor
            · exact fun h => ⟨by omega, h.2⟩
            · rintro ⟨h1, h2⟩
              by_cases e : q = k
              · subst e; exact absurd h2 hn
              · exact ⟨by omega, h2⟩
          refine b_C_chanceToReach_22 ?_
          rw [hC.1]
          refine ⟨⟨by omega, by omega⟩, ⟨by omega, by omega⟩, fun z => absurd z (by omega), fun _ => ⟨⟨by omega, by omega⟩, fun z => no fun h => h.1 (by omega), fun z => ?_⟩⟩
          refine (s_doesLead (d := d + 2) hL h7.2 (show k < n by omega) hj).cal fun v1 M1 hM1 => ?_
          obtain ⟨rfl, ⟨rfl, g2⟩ | ⟨rfl, g2⟩⟩ := hM1
          · refine ⟨⟨by decide, by decide⟩, fun z => absurd z (by decide), fun _ => ⟨⟨by omega, by omega⟩, ?_⟩⟩
            obtain ⟨b1, b2⟩ := bit_one (j := k) (by omega)
            obtain ⟨e1, e2⟩ := bit_or hs b2
            rw [b1, e1, show (k : Int) + 1 = ((k + 1 : Nat) : Int) by omega]
            refine ih (k + 1) (by omega) (s ||| 2 ^ k) e2 fun q => ?_
            rw [Nat.testBit_or, Bool.or_eq_true, hb q, bit_pow, decide_eq_true_iff]
            constructor
            · rintro (h | h)
              · exact ⟨by omega, h.2⟩
              · subst h; exact ⟨by omega, by omega, g2⟩
            · rintro ⟨h1, h2⟩
              by_cases e : q = k
              · exact Or.inr e.symm
              · exact Or.inl ⟨by omega, h2⟩
          · exact ⟨⟨by decide, by decide⟩, fun _ => no fun h => g2 h.2, fun z => absurd rfl z⟩
      exact loop n 0 (by omega) 0 (by decide) fun q => ⟨fun h => (by rw [Nat.zero_testBit] at h; cases h), fun h => absurd h.1 (Nat.not_lt_zero _)⟩
    · refine ⟨⟨by decide, by decide⟩, fun z => absurd rfl z, fun _ => ?_⟩
      refine (s_setLongsQ (d := d + 1) (x := 0) (y := 1) (by decide) (by decide) (by decide) (hz 0 (bIr (by decide) rfl)) (hz 2 (bIr (by decide) rfl))).cal fun v2 M2 hM2 => ?_
      obtain ⟨f2, g2, e2⟩ := hM2
      rw [mk01] at g2 e2
      have F := f2.mono (l' := solC) (by simp)
      exact hQ _ _ ⟨F, hz.sol F g2, 0, Or.inr (Or.inl ⟨hij, g, rfl⟩), g2, e2⟩
  · refine (s_setLongsQ (d := d + 1) (x := 1) (y := 1) (by decide) (by decide) (by decide) (hz 0 (bIr (by decide) rfl)) (hz 2 (bIr (by decide) rfl))).cal fun v2 M2 hM2 => ?_
    obtain ⟨f2, g2, e2⟩ := hM2
    rw [mk11] at g2 e2
    have F := f2.mono (l' := solC) (by simp)
    exact hQ _ _ ⟨F, hz.sol F g2, 1, Or.inl ⟨by omega, rfl⟩, g2, e2⟩
abbrev chnC : List Nat := 126 :: solC
theorem CC.lead {M M' : Mem} {n : Nat} {b : Int} {A : Nat → Nat → Int} (h : CC M n b A) (hf : Fr [126] M M') : CC M' n b A := h.kept hf (by decide) fun i hi => by simp; omega
theorem AZ.lead {M M' : Mem} (h : AZ M) (hf : Fr [126] M M') : AZ M' := h.fr hf fun r hr hm => by
  obtain ⟨r1, r2⟩ := hr
  simp at hm
  omega
theorem s_Qreach {d : Nat} {M : Mem} {n : Nat} {b i j : Int} {A : Nat → Nat → Int} (hC : CC M n b A) (hO : cOk n b A) (hz : AZ M) (hi : R32 i) (hj : R32 j) : PostE (d + 6) cQ_reach [oQ, .inl i, .inl j] M (fun r M' => (¬ inSt n i j ∧ r = .inr 4 ∧ M' = M) ∨ (inSt n i j ∧ ¬ lawful n b A ∧ r = .inr 5 ∧ M' = M) ∨ (inSt n i j ∧ lawful n b A ∧ Fr chnC M M' ∧ AZ M' ∧ ∃ q, rchV n b A i.toNat j.toNat q ∧ CF M' q ∧ r = .inl q.num.sign)) := by
  intro Q hQ
  have h7 := hO.1
  refine e_Q_reach (b_Q_reach_0 ?_)
  refine (s_needStates (d := d + 4) hC.1 h7.2 hi hj).cal fun r1 M1 hM1 => ?_
  rcases hM1 with ⟨h1, rfl, rfl⟩ | ⟨h1, rfl, rfl⟩
  · exact hQ _ _ (Or.inl ⟨h1, rfl, rfl⟩)
  refine (s_needLawful (d := d + 2) hC hO).cal fun r1 M1 hM1 => ?_
  rcases hM1 with ⟨h2, rfl, rfl⟩ | ⟨h2, rfl, rfl⟩
  · exact hQ _ _ (Or.inr (Or.inl ⟨h1, h2, rfl, rfl⟩))
  have hq := h1
  unfold inSt at hq
  obtain ⟨I, rfl⟩ : ∃ I : Nat, i = I := ⟨i.toNat, by omega⟩
  obtain ⟨J, rfl⟩ : ∃ J : Nat, j = J := ⟨j.toNat, by omega⟩
  refine (s_findLeads (d := d + 2) hC hO).cal fun v2 M2 hM2 => ?_
  obtain ⟨f2, g2⟩ := hM2
  refine (s_CchanceToReach (d := d) (hC.lead f2) hO h2 g2 (hz.lead f2) (show I < n by omega) (show J < n by omega)).cal fun v3 M3 hM3 => ?_
  obtain ⟨f3, z3, q, q1, q2, q3⟩ := hM3
  refine hQ _ _ (Or.inr (Or.inr ⟨h1, h2, (f2.mono (by simp)).tr (f3.mono fun a h => List.mem_cons_of_mem _ h), z3, q, ?_, q2, by rw [q3]⟩))
  rw [Int.toNat_natCast, Int.toNat_natCast]
  exact q1
/-! The reference. -/
abbrev resF : List Nat := List.range 95
theorem FM.resF {cs ss l : List Nat} {M M' : Mem} (h : FM cs ss l M M') (hl : ∀ a, a ∈ l → a < 95) : FM cs ss resF M M' := h.mono (fun _ h => h) (fun _ h => h) fun a ha => by
  have := hl a ha
  simp
  omega
theorem FR.resF {l : List Nat} {M M' : Mem} (h : FR l M M') (hl : ∀ a, a ∈ l → a < 95) : FM [] [] resF M M' := h.fm.resF hl